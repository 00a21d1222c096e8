/-! by gen.py: what the methods do, and that they do it -/
abbrev rm_X12_init : Room := { frames := 2, cells := 38, slots := 1447025, locals := 80 }
def f_X12_init_413 (Y191 : Ly) (v0 : Nat) (Kn : Ly → Mm → Prop) (M198 : Mm) (y199 : Int32) : Prop :=
  ∀ M200 : Mm, M200 = sI M198 v0 (m1 (mI M198 v0) 3 y199) → (Kn Y191 M200)
def f_X12_init_384 (Y191 : Ly) (v0 : Nat) (v3 : Int32) (Kn : Ly → Mm → Prop) (M196 : Mm) (y197 : Int32) : Prop :=
  ∀ M198 : Mm, M198 = sI M196 v0 (m1 (mI M196 v0) 2 y197) → ((32 ≤ v3 → ((v3 ≤ 256 → (f_X12_init_413 Y191 v0 Kn M198 v3)) ∧ (¬ (v3 ≤ 256) → (f_X12_init_413 Y191 v0 Kn M198 256)))) ∧ (¬ (32 ≤ v3) → (f_X12_init_413 Y191 v0 Kn M198 32)))
def f_X12_init_359 (Y191 : Ly) (v0 : Nat) (v2 : Int32) (v3 : Int32) (Kn : Ly → Mm → Prop) (M194 : Mm) (y195 : Int32) : Prop :=
  ∀ M196 : Mm, M196 = sI M194 v0 (m1 (mI M194 v0) 1 y195) → ((1 ≤ v2 → ((v2 ≤ 16 → (f_X12_init_384 Y191 v0 v3 Kn M196 v2)) ∧ (¬ (v2 ≤ 16) → (f_X12_init_384 Y191 v0 v3 Kn M196 16)))) ∧ (¬ (1 ≤ v2) → (f_X12_init_384 Y191 v0 v3 Kn M196 1)))
set_option maxRecDepth 100000 in
def f_X12_init (Y : Ly) (v0 : Nat) (v1 : Int32) (v2 : Int32) (v3 : Int32) (M : Mm) (Kn : Ly → Mm → Prop) : Prop :=
  yK Y v0 = 12 ∧ (∀ M2 : Mm, M2 = sI M v0 (m1 (mI M v0) 7 (-1)) → (∀ q3 : Nat, yK Y q3 = 0 → ∀ Y4 : Ly, Y4 = yNew Y q3 101 16384 → ∀ M5 : Mm, M5 = mZ M2 q3 → (yK Y4 v0 = 12 ∧ (∀ M7 : Mm, M7 = sR M5 v0 (m1 (mR M5 v0) 10 (some q3)) → (∀ q8 : Nat, yK Y4 q8 = 0 → ∀ Y9 : Ly, Y9 = yNew Y4 q8 102 1000 → ∀ M10 : Mm, M10 = mZ M7 q8 → (yK Y9 v0 = 12 ∧ (∀ M12 : Mm, M12 = sR M10 v0 (m1 (mR M10 v0) 13 (some q8)) → (∀ q13 : Nat, yK Y9 q13 = 0 → ∀ Y14 : Ly, Y14 = yNew Y9 q13 101 1000 → ∀ M15 : Mm, M15 = mZ M12 q13 → (yK Y14 v0 = 12 ∧ (∀ M17 : Mm, M17 = sR M15 v0 (m1 (mR M15 v0) 14 (some q13)) → (∀ q18 : Nat, yK Y14 q18 = 0 → ∀ Y19 : Ly, Y19 = yNew Y14 q18 102 1000 → ∀ M20 : Mm, M20 = mZ M17 q18 → (yK Y19 v0 = 12 ∧ (∀ M22 : Mm, M22 = sR M20 v0 (m1 (mR M20 v0) 15 (some q18)) → (∀ q23 : Nat, yK Y19 q23 = 0 → ∀ Y24 : Ly, Y24 = yNew Y19 q23 101 1000 → ∀ M25 : Mm, M25 = mZ M22 q23 → (yK Y24 v0 = 12 ∧ (∀ M27 : Mm, M27 = sR M25 v0 (m1 (mR M25 v0) 16 (some q23)) → (∀ q28 : Nat, yK Y24 q28 = 0 → ∀ Y29 : Ly, Y29 = yNew Y24 q28 101 1000 → ∀ M30 : Mm, M30 = mZ M27 q28 → (yK Y29 v0 = 12 ∧ (∀ M32 : Mm, M32 = sR M30 v0 (m1 (mR M30 v0) 17 (some q28)) → (∀ q33 : Nat, yK Y29 q33 = 0 → ∀ Y34 : Ly, Y34 = yNew Y29 q33 101 4500 → ∀ M35 : Mm, M35 = mZ M32 q33 → (yK Y34 v0 = 12 ∧ (∀ M37 : Mm, M37 = sR M35 v0 (m1 (mR M35 v0) 19 (some q33)) → (∀ q38 : Nat, yK Y34 q38 = 0 → ∀ Y39 : Ly, Y39 = yNew Y34 q38 101 4500 → ∀ M40 : Mm, M40 = mZ M37 q38 → (yK Y39 v0 = 12 ∧ (∀ M42 : Mm, M42 = sR M40 v0 (m1 (mR M40 v0) 20 (some q38)) → (∀ q43 : Nat, yK Y39 q43 = 0 → ∀ Y44 : Ly, Y44 = yNew Y39 q43 101 4500 → ∀ M45 : Mm, M45 = mZ M42 q43 → (yK Y44 v0 = 12 ∧ (∀ M47 : Mm, M47 = sR M45 v0 (m1 (mR M45 v0) 21 (some q43)) → (∀ q48 : Nat, yK Y44 q48 = 0 → ∀ Y49 : Ly, Y49 = yNew Y44 q48 101 4500 → ∀ M50 : Mm, M50 = mZ M47 q48 → (yK Y49 v0 = 12 ∧ (∀ M52 : Mm, M52 = sR M50 v0 (m1 (mR M50 v0) 22 (some q48)) → (∀ q53 : Nat, yK Y49 q53 = 0 → ∀ Y54 : Ly, Y54 = yNew Y49 q53 101 540000 → ∀ M55 : Mm, M55 = mZ M52 q53 → (yK Y54 v0 = 12 ∧ (∀ M57 : Mm, M57 = sR M55 v0 (m1 (mR M55 v0) 23 (some q53)) → (∀ q58 : Nat, yK Y54 q58 = 0 → ∀ Y59 : Ly, Y59 = yNew Y54 q58 101 540000 → ∀ M60 : Mm, M60 = mZ M57 q58 → (yK Y59 v0 = 12 ∧ (∀ M62 : Mm, M62 = sR M60 v0 (m1 (mR M60 v0) 24 (some q58)) → (∀ q63 : Nat, yK Y59 q63 = 0 → ∀ Y64 : Ly, Y64 = yNew Y59 q63 102 9 → ∀ M65 : Mm, M65 = mZ M62 q63 → (yK Y64 v0 = 12 ∧ (∀ M67 : Mm, M67 = sR M65 v0 (m1 (mR M65 v0) 26 (some q63)) → (∀ q68 : Nat, yK Y64 q68 = 0 → ∀ Y69 : Ly, Y69 = yNew Y64 q68 102 9 → ∀ M70 : Mm, M70 = mZ M67 q68 → (yK Y69 v0 = 12 ∧ (∀ M72 : Mm, M72 = sR M70 v0 (m1 (mR M70 v0) 27 (some q68)) → (∀ q73 : Nat, yK Y69 q73 = 0 → ∀ Y74 : Ly, Y74 = yNew Y69 q73 101 9 → ∀ M75 : Mm, M75 = mZ M72 q73 → (yK Y74 v0 = 12 ∧ (∀ M77 : Mm, M77 = sR M75 v0 (m1 (mR M75 v0) 28 (some q73)) → (∀ q78 : Nat, yK Y74 q78 = 0 → ∀ Y79 : Ly, Y79 = yNew Y74 q78 101 540 → ∀ M80 : Mm, M80 = mZ M77 q78 → (yK Y79 v0 = 12 ∧ (∀ M82 : Mm, M82 = sR M80 v0 (m1 (mR M80 v0) 29 (some q78)) → (∀ q83 : Nat, yK Y79 q83 = 0 → ∀ Y84 : Ly, Y84 = yNew Y79 q83 101 540 → ∀ M85 : Mm, M85 = mZ M82 q83 → (yK Y84 v0 = 12 ∧ (∀ M87 : Mm, M87 = sR M85 v0 (m1 (mR M85 v0) 30 (some q83)) → (∀ q88 : Nat, yK Y84 q88 = 0 → ∀ Y89 : Ly, Y89 = yNew Y84 q88 103 256 → ∀ M90 : Mm, M90 = mZ M87 q88 → (yK Y89 v0 = 12 ∧ (∀ M92 : Mm, M92 = sR M90 v0 (m1 (mR M90 v0) 31 (some q88)) → (∀ q93 : Nat, yK Y89 q93 = 0 → ∀ Y94 : Ly, Y94 = yNew Y89 q93 101 32768 → ∀ M95 : Mm, M95 = mZ M92 q93 → (yK Y94 v0 = 12 ∧ (∀ M97 : Mm, M97 = sR M95 v0 (m1 (mR M95 v0) 32 (some q93)) → (∀ q98 : Nat, yK Y94 q98 = 0 → ∀ Y99 : Ly, Y99 = yNew Y94 q98 101 8 → ∀ M100 : Mm, M100 = mZ M97 q98 → (yK Y99 v0 = 12 ∧ (∀ M102 : Mm, M102 = sR M100 v0 (m1 (mR M100 v0) 34 (some q98)) → (∀ q103 : Nat, yK Y99 q103 = 0 → ∀ Y104 : Ly, Y104 = yNew Y99 q103 101 8 → ∀ M105 : Mm, M105 = mZ M102 q103 → (yK Y104 v0 = 12 ∧ (∀ M107 : Mm, M107 = sR M105 v0 (m1 (mR M105 v0) 35 (some q103)) → (∀ q108 : Nat, yK Y104 q108 = 0 → ∀ Y109 : Ly, Y109 = yNew Y104 q108 101 8 → ∀ M110 : Mm, M110 = mZ M107 q108 → (yK Y109 v0 = 12 ∧ (∀ M112 : Mm, M112 = sR M110 v0 (m1 (mR M110 v0) 36 (some q108)) → (∀ q113 : Nat, yK Y109 q113 = 0 → ∀ Y114 : Ly, Y114 = yNew Y109 q113 103 64 → ∀ M115 : Mm, M115 = mZ M112 q113 → (yK Y114 v0 = 12 ∧ (∀ M117 : Mm, M117 = sR M115 v0 (m1 (mR M115 v0) 37 (some q113)) → (∀ q118 : Nat, yK Y114 q118 = 0 → ∀ Y119 : Ly, Y119 = yNew Y114 q118 103 64 → ∀ M120 : Mm, M120 = mZ M117 q118 → (yK Y119 v0 = 12 ∧ (∀ M122 : Mm, M122 = sR M120 v0 (m1 (mR M120 v0) 38 (some q118)) → (∀ q123 : Nat, yK Y119 q123 = 0 → ∀ Y124 : Ly, Y124 = yNew Y119 q123 101 64 → ∀ M125 : Mm, M125 = mZ M122 q123 → (yK Y124 v0 = 12 ∧ (∀ M127 : Mm, M127 = sR M125 v0 (m1 (mR M125 v0) 39 (some q123)) → (∃ b128 : Nat, mR M127 v0 10 = some b128 ∧ (∀ M129 : Mm, M129 = sR M127 v0 (m1 (mR M127 v0) 40 (some b128)) → (∀ q130 : Nat, yK Y124 q130 = 0 → ∀ Y131 : Ly, Y131 = yNew Y124 q130 101 40000 → ∀ M132 : Mm, M132 = mZ M129 q130 → (yK Y131 v0 = 12 ∧ (∀ M134 : Mm, M134 = sR M132 v0 (m1 (mR M132 v0) 54 (some q130)) → (∀ q135 : Nat, yK Y131 q135 = 0 → ∀ Y136 : Ly, Y136 = yNew Y131 q135 101 40000 → ∀ M137 : Mm, M137 = mZ M134 q135 → (yK Y136 v0 = 12 ∧ (∀ M139 : Mm, M139 = sR M137 v0 (m1 (mR M137 v0) 55 (some q135)) → (∀ q140 : Nat, yK Y136 q140 = 0 → ∀ Y141 : Ly, Y141 = yNew Y136 q140 101 40000 → ∀ M142 : Mm, M142 = mZ M139 q140 → (yK Y141 v0 = 12 ∧ (∀ M144 : Mm, M144 = sR M142 v0 (m1 (mR M142 v0) 56 (some q140)) → (∀ q145 : Nat, yK Y141 q145 = 0 → ∀ Y146 : Ly, Y146 = yNew Y141 q145 101 40000 → ∀ M147 : Mm, M147 = mZ M144 q145 → (yK Y146 v0 = 12 ∧ (∀ M149 : Mm, M149 = sR M147 v0 (m1 (mR M147 v0) 57 (some q145)) → (∀ q150 : Nat, yK Y146 q150 = 0 → ∀ Y151 : Ly, Y151 = yNew Y146 q150 101 40000 → ∀ M152 : Mm, M152 = mZ M149 q150 → (yK Y151 v0 = 12 ∧ (∀ M154 : Mm, M154 = sR M152 v0 (m1 (mR M152 v0) 58 (some q150)) → (∀ q155 : Nat, yK Y151 q155 = 0 → ∀ Y156 : Ly, Y156 = yNew Y151 q155 103 40000 → ∀ M157 : Mm, M157 = mZ M154 q155 → (yK Y156 v0 = 12 ∧ (∀ M159 : Mm, M159 = sR M157 v0 (m1 (mR M157 v0) 59 (some q155)) → (∀ q160 : Nat, yK Y156 q160 = 0 → ∀ Y161 : Ly, Y161 = yNew Y156 q160 101 4096 → ∀ M162 : Mm, M162 = mZ M159 q160 → (yK Y161 v0 = 12 ∧ (∀ M164 : Mm, M164 = sR M162 v0 (m1 (mR M162 v0) 60 (some q160)) → (∀ q165 : Nat, yK Y161 q165 = 0 → ∀ Y166 : Ly, Y166 = yNew Y161 q165 101 40000 → ∀ M167 : Mm, M167 = mZ M164 q165 → (yK Y166 v0 = 12 ∧ (∀ M169 : Mm, M169 = sR M167 v0 (m1 (mR M167 v0) 61 (some q165)) → (∀ q170 : Nat, yK Y166 q170 = 0 → ∀ Y171 : Ly, Y171 = yNew Y166 q170 101 4500 → ∀ M172 : Mm, M172 = mZ M169 q170 → (yK Y171 v0 = 12 ∧ (∀ M174 : Mm, M174 = sR M172 v0 (m1 (mR M172 v0) 62 (some q170)) → (∀ q175 : Nat, yK Y171 q175 = 0 → ∀ Y176 : Ly, Y176 = yNew Y171 q175 101 4500 → ∀ M177 : Mm, M177 = mZ M174 q175 → (yK Y176 v0 = 12 ∧ (∀ M179 : Mm, M179 = sR M177 v0 (m1 (mR M177 v0) 63 (some q175)) → (∀ q180 : Nat, yK Y176 q180 = 0 → ∀ Y181 : Ly, Y181 = yNew Y176 q180 101 60 → ∀ M182 : Mm, M182 = mZ M179 q180 → (yK Y181 v0 = 12 ∧ (∀ M184 : Mm, M184 = sR M182 v0 (m1 (mR M182 v0) 65 (some q180)) → (∀ q185 : Nat, yK Y181 q185 = 0 → ∀ Y186 : Ly, Y186 = yNew Y181 q185 101 60 → ∀ M187 : Mm, M187 = mZ M184 q185 → (yK Y186 v0 = 12 ∧ (∀ M189 : Mm, M189 = sR M187 v0 (m1 (mR M187 v0) 66 (some q185)) → (∀ q190 : Nat, yK Y186 q190 = 0 → ∀ Y191 : Ly, Y191 = yNew Y186 q190 101 78 → ∀ M192 : Mm, M192 = mZ M189 q190 → (yK Y191 v0 = 12 ∧ (∀ M194 : Mm, M194 = sR M192 v0 (m1 (mR M192 v0) 67 (some q190)) → ((1 ≤ v1 → ((v1 ≤ 8 → (f_X12_init_359 Y191 v0 v2 v3 Kn M194 v1)) ∧ (¬ (v1 ≤ 8) → (f_X12_init_359 Y191 v0 v2 v3 Kn M194 8)))) ∧ (¬ (1 ≤ v1) → (f_X12_init_359 Y191 v0 v2 v3 Kn M194 1))))))))))))))))))))))))))))))))))))))))))))))))))))))))))))))))))))))))))))))))))))))))))))))))))))))))))))))))))))))))
set_option maxHeartbeats 4000000 in
set_option maxRecDepth 100000 in
theorem m_X12_init (l : Launch) (D : va_G) (cy : Cy) (tq sz : Nat) (Y : Ly) (v0 : Nat) (v1 : Int32) (v2 : Int32) (v3 : Int32) (M : Mm) (Kn : Ly → Mm → Prop) : Met l yX12_init (Cond.code yX12_init cX12_init 4 none :: TT) rm_X12_init (PcG D cy tq [.ref v0, .int v1, .int v2, .int v3] sz Y M (f_X12_init Y v0 v1 v2 v3 M Kn)) (QA D cy (Am Y sz) Kn) 38 1447025 (Am Y sz) := by
  refine Met.ofW (cc := cX12_init) (maxL := 4) (ret := none) (by decide) rfl ?_
  intro p e s m args below meth c s₁ B hml hv
  obtain ⟨hargs, hsz, hW, hK, hC, hf⟩ := hv
  subst hsz
  have hx := B.exec
  have hb := B.bytes
  have hr := B.returns
  have hts : ∀ w ∈ TT, w.before args s = true := fun w h => atoms_spec (ws := Cond.code yX12_init cX12_init 4 none :: TT) B.pre w (List.mem_cons_of_mem _ h)
  have hown : s.vm.findClass RX12 = some m.cls := findClass_of_methodNamed B.named
  have hlocks := B.notSynchronized
  have hin : meth.name = "<init>" := (name_of_methodNamed B.named B.method).1
  replace hW := Wd_self (sz := s.heap.size) hW
  generalize hAe : Am Y s.heap.size = A at hW hC ⊢
  have hA : ∀ q : Nat, s.heap.size ≤ q → A q := fun q h => by rw [← hAe]; exact Or.inr h
  clear hAe
  have hS : va_S A s.heap s.heap [] := va_S.rf
  obtain ⟨ls, hE, hl⟩ := gm_entry m [.ref v0, .int v1, .int v2, .int v3] (n := 4) hargs (Nat.le_of_ble_eq_true rfl)
  rw [hE]
  have hl : lv_has ls 4 [(0, .ref v0), (1, .int v1), (2, .int v2), (3, .int v3)] := hl
  show W p l e rm_X12_init s m args below meth c s.heap [] 0 0 (MQ below (QA D cy A Kn) args s 38 1447025 A) (F0 m 0 ls [])
  unfold f_X12_init at hf
  refine lv_aload_n hx hb dX12_init_0 rfl (lv_at hl 0 rfl) ?_
  refine W.objInit hx hb hown (hts _ kw_1312) (hts _ kw_36) (hts _ kw_37) rfl (by rw [hml]; exact hl.1) rfl dX12_init_1 (Nat.le_of_ble_eq_true rfl) (Nat.le_of_ble_eq_true rfl) ?_
  refine W.eq (g2 := F0 m 4 ls []) rfl ?_
  refine lv_aload_n hx hb dX12_init_4 rfl (lv_at hl 0 rfl) ?_
  refine lv_iconst (v := -1) hx hb dX12_init_5 (by decide +kernel) ?_
  obtain ⟨k1, hf⟩ := hf
  refine gm_putI (C := RX12) (T := TX12) (N := 68) (j := 7) hx hb hts inT_12 tyX12 tyX12_ok nmX12 hown hK hW hS k1 (by decide) rfl (by decide) rfl (hts _ kw_1323) rfl rfl rfl rfl dX12_init_6 (fun H locs M2 eM2 hW hS => ?_)
  replace hf := hf M2 eM2
  refine lv_aload_n hx hb dX12_init_9 rfl (lv_at hl 0 rfl) ?_
  refine lv_sipush (v := 16384) hx hb dX12_init_10 (by decide +kernel) ?_
  refine gm_newi hx hb (hts _ kw_129) hK hW hS hA (n := 16384) 16384 (by decide +kernel) (by decide +kernel) (Nat.le_refl _) (by decide) (by show _ ≤ 38; omega) (by show _ ≤ 1447025; omega) dX12_init_13 (fun q3 H Y4 M5 h0q3 eY4 eM5 hW hS => ?_)
  replace hf := hf q3 h0q3 Y4 eY4 M5 eM5
  obtain ⟨k6, hf⟩ := hf
  refine gm_putFR (C := RX12) (T := TX12) (N := 68) (j := 10) hx hb hts inT_12 tyX12 tyX12_ok nmX12 hown hK hW hS k6 (by decide) rfl (by decide) rfl (hts _ kw_1326) rfl rfl hin rfl rfl rfl dX12_init_15 (fun H locs M7 eM7 hW hS => ?_)
  replace hf := hf M7 eM7
  refine lv_aload_n hx hb dX12_init_18 rfl (lv_at hl 0 rfl) ?_
  refine lv_sipush (v := 1000) hx hb dX12_init_19 (by decide +kernel) ?_
  refine gm_newl hx hb (hts _ kw_1452) hK hW hS hA (n := 1000) 1000 (by decide +kernel) (by decide +kernel) (Nat.le_refl _) (by decide) (by show _ ≤ 38; omega) (by show _ ≤ 1447025; omega) dX12_init_22 (fun q8 H Y9 M10 h0q8 eY9 eM10 hW hS => ?_)
  replace hf := hf q8 h0q8 Y9 eY9 M10 eM10
  obtain ⟨k11, hf⟩ := hf
  refine gm_putFR (C := RX12) (T := TX12) (N := 68) (j := 13) hx hb hts inT_12 tyX12 tyX12_ok nmX12 hown hK hW hS k11 (by decide) rfl (by decide) rfl (hts _ kw_1329) rfl rfl hin rfl rfl rfl dX12_init_24 (fun H locs M12 eM12 hW hS => ?_)
  replace hf := hf M12 eM12
  refine lv_aload_n hx hb dX12_init_27 rfl (lv_at hl 0 rfl) ?_
  refine lv_sipush (v := 1000) hx hb dX12_init_28 (by decide +kernel) ?_
  refine gm_newi hx hb (hts _ kw_129) hK hW hS hA (n := 1000) 1000 (by decide +kernel) (by decide +kernel) (Nat.le_refl _) (by decide) (by show _ ≤ 38; omega) (by show _ ≤ 1447025; omega) dX12_init_31 (fun q13 H Y14 M15 h0q13 eY14 eM15 hW hS => ?_)
  replace hf := hf q13 h0q13 Y14 eY14 M15 eM15
  obtain ⟨k16, hf⟩ := hf
  refine gm_putFR (C := RX12) (T := TX12) (N := 68) (j := 14) hx hb hts inT_12 tyX12 tyX12_ok nmX12 hown hK hW hS k16 (by decide) rfl (by decide) rfl (hts _ kw_1330) rfl rfl hin rfl rfl rfl dX12_init_33 (fun H locs M17 eM17 hW hS => ?_)
  replace hf := hf M17 eM17
  refine lv_aload_n hx hb dX12_init_36 rfl (lv_at hl 0 rfl) ?_
  refine lv_sipush (v := 1000) hx hb dX12_init_37 (by decide +kernel) ?_
  refine gm_newl hx hb (hts _ kw_1452) hK hW hS hA (n := 1000) 1000 (by decide +kernel) (by decide +kernel) (Nat.le_refl _) (by decide) (by show _ ≤ 38; omega) (by show _ ≤ 1447025; omega) dX12_init_40 (fun q18 H Y19 M20 h0q18 eY19 eM20 hW hS => ?_)
  replace hf := hf q18 h0q18 Y19 eY19 M20 eM20
  obtain ⟨k21, hf⟩ := hf
  refine gm_putFR (C := RX12) (T := TX12) (N := 68) (j := 15) hx hb hts inT_12 tyX12 tyX12_ok nmX12 hown hK hW hS k21 (by decide) rfl (by decide) rfl (hts _ kw_1331) rfl rfl hin rfl rfl rfl dX12_init_42 (fun H locs M22 eM22 hW hS => ?_)
  replace hf := hf M22 eM22
  refine lv_aload_n hx hb dX12_init_45 rfl (lv_at hl 0 rfl) ?_
  refine lv_sipush (v := 1000) hx hb dX12_init_46 (by decide +kernel) ?_
  refine gm_newi hx hb (hts _ kw_129) hK hW hS hA (n := 1000) 1000 (by decide +kernel) (by decide +kernel) (Nat.le_refl _) (by decide) (by show _ ≤ 38; omega) (by show _ ≤ 1447025; omega) dX12_init_49 (fun q23 H Y24 M25 h0q23 eY24 eM25 hW hS => ?_)
  replace hf := hf q23 h0q23 Y24 eY24 M25 eM25
  obtain ⟨k26, hf⟩ := hf
  refine gm_putFR (C := RX12) (T := TX12) (N := 68) (j := 16) hx hb hts inT_12 tyX12 tyX12_ok nmX12 hown hK hW hS k26 (by decide) rfl (by decide) rfl (hts _ kw_1332) rfl rfl hin rfl rfl rfl dX12_init_51 (fun H locs M27 eM27 hW hS => ?_)
  replace hf := hf M27 eM27
  refine lv_aload_n hx hb dX12_init_54 rfl (lv_at hl 0 rfl) ?_
  refine lv_sipush (v := 1000) hx hb dX12_init_55 (by decide +kernel) ?_
  refine gm_newi hx hb (hts _ kw_129) hK hW hS hA (n := 1000) 1000 (by decide +kernel) (by decide +kernel) (Nat.le_refl _) (by decide) (by show _ ≤ 38; omega) (by show _ ≤ 1447025; omega) dX12_init_58 (fun q28 H Y29 M30 h0q28 eY29 eM30 hW hS => ?_)
  replace hf := hf q28 h0q28 Y29 eY29 M30 eM30
  obtain ⟨k31, hf⟩ := hf
  refine gm_putFR (C := RX12) (T := TX12) (N := 68) (j := 17) hx hb hts inT_12 tyX12 tyX12_ok nmX12 hown hK hW hS k31 (by decide) rfl (by decide) rfl (hts _ kw_1333) rfl rfl hin rfl rfl rfl dX12_init_60 (fun H locs M32 eM32 hW hS => ?_)
  replace hf := hf M32 eM32
  refine lv_aload_n hx hb dX12_init_63 rfl (lv_at hl 0 rfl) ?_
  refine lv_sipush (v := 4500) hx hb dX12_init_64 (by decide +kernel) ?_
  refine gm_newi hx hb (hts _ kw_129) hK hW hS hA (n := 4500) 4500 (by decide +kernel) (by decide +kernel) (Nat.le_refl _) (by decide) (by show _ ≤ 38; omega) (by show _ ≤ 1447025; omega) dX12_init_67 (fun q33 H Y34 M35 h0q33 eY34 eM35 hW hS => ?_)
  replace hf := hf q33 h0q33 Y34 eY34 M35 eM35
  obtain ⟨k36, hf⟩ := hf
  refine gm_putFR (C := RX12) (T := TX12) (N := 68) (j := 19) hx hb hts inT_12 tyX12 tyX12_ok nmX12 hown hK hW hS k36 (by decide) rfl (by decide) rfl (hts _ kw_1335) rfl rfl hin rfl rfl rfl dX12_init_69 (fun H locs M37 eM37 hW hS => ?_)
  replace hf := hf M37 eM37
  refine lv_aload_n hx hb dX12_init_72 rfl (lv_at hl 0 rfl) ?_
  refine lv_sipush (v := 4500) hx hb dX12_init_73 (by decide +kernel) ?_
  refine gm_newi hx hb (hts _ kw_129) hK hW hS hA (n := 4500) 4500 (by decide +kernel) (by decide +kernel) (Nat.le_refl _) (by decide) (by show _ ≤ 38; omega) (by show _ ≤ 1447025; omega) dX12_init_76 (fun q38 H Y39 M40 h0q38 eY39 eM40 hW hS => ?_)
  replace hf := hf q38 h0q38 Y39 eY39 M40 eM40
  obtain ⟨k41, hf⟩ := hf
  refine gm_putFR (C := RX12) (T := TX12) (N := 68) (j := 20) hx hb hts inT_12 tyX12 tyX12_ok nmX12 hown hK hW hS k41 (by decide) rfl (by decide) rfl (hts _ kw_1336) rfl rfl hin rfl rfl rfl dX12_init_78 (fun H locs M42 eM42 hW hS => ?_)
  replace hf := hf M42 eM42
  refine lv_aload_n hx hb dX12_init_81 rfl (lv_at hl 0 rfl) ?_
  refine lv_sipush (v := 4500) hx hb dX12_init_82 (by decide +kernel) ?_
  refine gm_newi hx hb (hts _ kw_129) hK hW hS hA (n := 4500) 4500 (by decide +kernel) (by decide +kernel) (Nat.le_refl _) (by decide) (by show _ ≤ 38; omega) (by show _ ≤ 1447025; omega) dX12_init_85 (fun q43 H Y44 M45 h0q43 eY44 eM45 hW hS => ?_)
  replace hf := hf q43 h0q43 Y44 eY44 M45 eM45
  obtain ⟨k46, hf⟩ := hf
  refine gm_putFR (C := RX12) (T := TX12) (N := 68) (j := 21) hx hb hts inT_12 tyX12 tyX12_ok nmX12 hown hK hW hS k46 (by decide) rfl (by decide) rfl (hts _ kw_1337) rfl rfl hin rfl rfl rfl dX12_init_87 (fun H locs M47 eM47 hW hS => ?_)
  replace hf := hf M47 eM47
  refine lv_aload_n hx hb dX12_init_90 rfl (lv_at hl 0 rfl) ?_
  refine lv_sipush (v := 4500) hx hb dX12_init_91 (by decide +kernel) ?_
  refine gm_newi hx hb (hts _ kw_129) hK hW hS hA (n := 4500) 4500 (by decide +kernel) (by decide +kernel) (Nat.le_refl _) (by decide) (by show _ ≤ 38; omega) (by show _ ≤ 1447025; omega) dX12_init_94 (fun q48 H Y49 M50 h0q48 eY49 eM50 hW hS => ?_)
  replace hf := hf q48 h0q48 Y49 eY49 M50 eM50
  obtain ⟨k51, hf⟩ := hf
  refine gm_putFR (C := RX12) (T := TX12) (N := 68) (j := 22) hx hb hts inT_12 tyX12 tyX12_ok nmX12 hown hK hW hS k51 (by decide) rfl (by decide) rfl (hts _ kw_1338) rfl rfl hin rfl rfl rfl dX12_init_96 (fun H locs M52 eM52 hW hS => ?_)
  replace hf := hf M52 eM52
  refine lv_aload_n hx hb dX12_init_99 rfl (lv_at hl 0 rfl) ?_
  refine lv_ldc (v := 540000) hx hb hown (hts _ kw_1313) dX12_init_100 ?_
  refine gm_newi hx hb (hts _ kw_129) hK hW hS hA (n := 540000) 540000 (by decide +kernel) (by decide +kernel) (Nat.le_refl _) (by decide) (by show _ ≤ 38; omega) (by show _ ≤ 1447025; omega) dX12_init_102 (fun q53 H Y54 M55 h0q53 eY54 eM55 hW hS => ?_)
  replace hf := hf q53 h0q53 Y54 eY54 M55 eM55
  obtain ⟨k56, hf⟩ := hf
  refine gm_putR (C := RX12) (T := TX12) (N := 68) (j := 23) hx hb hts inT_12 tyX12 tyX12_ok nmX12 hown hK hW hS k56 (by decide) rfl (by decide) rfl (hts _ kw_1339) rfl rfl rfl rfl dX12_init_104 (fun H locs M57 eM57 hW hS => ?_)
  replace hf := hf M57 eM57
  refine lv_aload_n hx hb dX12_init_107 rfl (lv_at hl 0 rfl) ?_
  refine lv_ldc (v := 540000) hx hb hown (hts _ kw_1313) dX12_init_108 ?_
  refine gm_newi hx hb (hts _ kw_129) hK hW hS hA (n := 540000) 540000 (by decide +kernel) (by decide +kernel) (Nat.le_refl _) (by decide) (by show _ ≤ 38; omega) (by show _ ≤ 1447025; omega) dX12_init_110 (fun q58 H Y59 M60 h0q58 eY59 eM60 hW hS => ?_)
  replace hf := hf q58 h0q58 Y59 eY59 M60 eM60
  obtain ⟨k61, hf⟩ := hf
  refine gm_putR (C := RX12) (T := TX12) (N := 68) (j := 24) hx hb hts inT_12 tyX12 tyX12_ok nmX12 hown hK hW hS k61 (by decide) rfl (by decide) rfl (hts _ kw_1340) rfl rfl rfl rfl dX12_init_112 (fun H locs M62 eM62 hW hS => ?_)
  replace hf := hf M62 eM62
  refine lv_aload_n hx hb dX12_init_115 rfl (lv_at hl 0 rfl) ?_
  refine lv_bipush (v := 9) hx hb dX12_init_116 (by decide +kernel) ?_
  refine gm_newl hx hb (hts _ kw_1452) hK hW hS hA (n := 9) 9 (by decide +kernel) (by decide +kernel) (Nat.le_refl _) (by decide) (by show _ ≤ 38; omega) (by show _ ≤ 1447025; omega) dX12_init_118 (fun q63 H Y64 M65 h0q63 eY64 eM65 hW hS => ?_)
  replace hf := hf q63 h0q63 Y64 eY64 M65 eM65
  obtain ⟨k66, hf⟩ := hf
  refine gm_putFR (C := RX12) (T := TX12) (N := 68) (j := 26) hx hb hts inT_12 tyX12 tyX12_ok nmX12 hown hK hW hS k66 (by decide) rfl (by decide) rfl (hts _ kw_1342) rfl rfl hin rfl rfl rfl dX12_init_120 (fun H locs M67 eM67 hW hS => ?_)
  replace hf := hf M67 eM67
  refine lv_aload_n hx hb dX12_init_123 rfl (lv_at hl 0 rfl) ?_
  refine lv_bipush (v := 9) hx hb dX12_init_124 (by decide +kernel) ?_
  refine gm_newl hx hb (hts _ kw_1452) hK hW hS hA (n := 9) 9 (by decide +kernel) (by decide +kernel) (Nat.le_refl _) (by decide) (by show _ ≤ 38; omega) (by show _ ≤ 1447025; omega) dX12_init_126 (fun q68 H Y69 M70 h0q68 eY69 eM70 hW hS => ?_)
  replace hf := hf q68 h0q68 Y69 eY69 M70 eM70
  obtain ⟨k71, hf⟩ := hf
  refine gm_putFR (C := RX12) (T := TX12) (N := 68) (j := 27) hx hb hts inT_12 tyX12 tyX12_ok nmX12 hown hK hW hS k71 (by decide) rfl (by decide) rfl (hts _ kw_1343) rfl rfl hin rfl rfl rfl dX12_init_128 (fun H locs M72 eM72 hW hS => ?_)
  replace hf := hf M72 eM72
  refine lv_aload_n hx hb dX12_init_131 rfl (lv_at hl 0 rfl) ?_
  refine lv_bipush (v := 9) hx hb dX12_init_132 (by decide +kernel) ?_
  refine gm_newi hx hb (hts _ kw_129) hK hW hS hA (n := 9) 9 (by decide +kernel) (by decide +kernel) (Nat.le_refl _) (by decide) (by show _ ≤ 38; omega) (by show _ ≤ 1447025; omega) dX12_init_134 (fun q73 H Y74 M75 h0q73 eY74 eM75 hW hS => ?_)
  replace hf := hf q73 h0q73 Y74 eY74 M75 eM75
  obtain ⟨k76, hf⟩ := hf
  refine gm_putFR (C := RX12) (T := TX12) (N := 68) (j := 28) hx hb hts inT_12 tyX12 tyX12_ok nmX12 hown hK hW hS k76 (by decide) rfl (by decide) rfl (hts _ kw_1344) rfl rfl hin rfl rfl rfl dX12_init_136 (fun H locs M77 eM77 hW hS => ?_)
  replace hf := hf M77 eM77
  refine lv_aload_n hx hb dX12_init_139 rfl (lv_at hl 0 rfl) ?_
  refine lv_sipush (v := 540) hx hb dX12_init_140 (by decide +kernel) ?_
  refine gm_newi hx hb (hts _ kw_129) hK hW hS hA (n := 540) 540 (by decide +kernel) (by decide +kernel) (Nat.le_refl _) (by decide) (by show _ ≤ 38; omega) (by show _ ≤ 1447025; omega) dX12_init_143 (fun q78 H Y79 M80 h0q78 eY79 eM80 hW hS => ?_)
  replace hf := hf q78 h0q78 Y79 eY79 M80 eM80
  obtain ⟨k81, hf⟩ := hf
  refine gm_putFR (C := RX12) (T := TX12) (N := 68) (j := 29) hx hb hts inT_12 tyX12 tyX12_ok nmX12 hown hK hW hS k81 (by decide) rfl (by decide) rfl (hts _ kw_1345) rfl rfl hin rfl rfl rfl dX12_init_145 (fun H locs M82 eM82 hW hS => ?_)
  replace hf := hf M82 eM82
  refine lv_aload_n hx hb dX12_init_148 rfl (lv_at hl 0 rfl) ?_
  refine lv_sipush (v := 540) hx hb dX12_init_149 (by decide +kernel) ?_
  refine gm_newi hx hb (hts _ kw_129) hK hW hS hA (n := 540) 540 (by decide +kernel) (by decide +kernel) (Nat.le_refl _) (by decide) (by show _ ≤ 38; omega) (by show _ ≤ 1447025; omega) dX12_init_152 (fun q83 H Y84 M85 h0q83 eY84 eM85 hW hS => ?_)
  replace hf := hf q83 h0q83 Y84 eY84 M85 eM85
  obtain ⟨k86, hf⟩ := hf
  refine gm_putFR (C := RX12) (T := TX12) (N := 68) (j := 30) hx hb hts inT_12 tyX12 tyX12_ok nmX12 hown hK hW hS k86 (by decide) rfl (by decide) rfl (hts _ kw_1346) rfl rfl hin rfl rfl rfl dX12_init_154 (fun H locs M87 eM87 hW hS => ?_)
  replace hf := hf M87 eM87
  refine lv_aload_n hx hb dX12_init_157 rfl (lv_at hl 0 rfl) ?_
  refine lv_sipush (v := 256) hx hb dX12_init_158 (by decide +kernel) ?_
  refine gm_newz hx hb (hts _ kw_1453) hK hW hS hA (n := 256) 256 (by decide +kernel) (by decide +kernel) (Nat.le_refl _) (by decide) (by show _ ≤ 38; omega) (by show _ ≤ 1447025; omega) dX12_init_161 (fun q88 H Y89 M90 h0q88 eY89 eM90 hW hS => ?_)
  replace hf := hf q88 h0q88 Y89 eY89 M90 eM90
  obtain ⟨k91, hf⟩ := hf
  refine gm_putFR (C := RX12) (T := TX12) (N := 68) (j := 31) hx hb hts inT_12 tyX12 tyX12_ok nmX12 hown hK hW hS k91 (by decide) rfl (by decide) rfl (hts _ kw_1347) rfl rfl hin rfl rfl rfl dX12_init_163 (fun H locs M92 eM92 hW hS => ?_)
  replace hf := hf M92 eM92
  refine lv_aload_n hx hb dX12_init_166 rfl (lv_at hl 0 rfl) ?_
  refine lv_ldc (v := 32768) hx hb hown (hts _ kw_1314) dX12_init_167 ?_
  refine gm_newi hx hb (hts _ kw_129) hK hW hS hA (n := 32768) 32768 (by decide +kernel) (by decide +kernel) (Nat.le_refl _) (by decide) (by show _ ≤ 38; omega) (by show _ ≤ 1447025; omega) dX12_init_169 (fun q93 H Y94 M95 h0q93 eY94 eM95 hW hS => ?_)
  replace hf := hf q93 h0q93 Y94 eY94 M95 eM95
  obtain ⟨k96, hf⟩ := hf
  refine gm_putFR (C := RX12) (T := TX12) (N := 68) (j := 32) hx hb hts inT_12 tyX12 tyX12_ok nmX12 hown hK hW hS k96 (by decide) rfl (by decide) rfl (hts _ kw_1348) rfl rfl hin rfl rfl rfl dX12_init_171 (fun H locs M97 eM97 hW hS => ?_)
  replace hf := hf M97 eM97
  refine lv_aload_n hx hb dX12_init_174 rfl (lv_at hl 0 rfl) ?_
  refine lv_bipush (v := 8) hx hb dX12_init_175 (by decide +kernel) ?_
  refine gm_newi hx hb (hts _ kw_129) hK hW hS hA (n := 8) 8 (by decide +kernel) (by decide +kernel) (Nat.le_refl _) (by decide) (by show _ ≤ 38; omega) (by show _ ≤ 1447025; omega) dX12_init_177 (fun q98 H Y99 M100 h0q98 eY99 eM100 hW hS => ?_)
  replace hf := hf q98 h0q98 Y99 eY99 M100 eM100
  obtain ⟨k101, hf⟩ := hf
  refine gm_putFR (C := RX12) (T := TX12) (N := 68) (j := 34) hx hb hts inT_12 tyX12 tyX12_ok nmX12 hown hK hW hS k101 (by decide) rfl (by decide) rfl (hts _ kw_1350) rfl rfl hin rfl rfl rfl dX12_init_179 (fun H locs M102 eM102 hW hS => ?_)
  replace hf := hf M102 eM102
  refine lv_aload_n hx hb dX12_init_182 rfl (lv_at hl 0 rfl) ?_
  refine lv_bipush (v := 8) hx hb dX12_init_183 (by decide +kernel) ?_
  refine gm_newi hx hb (hts _ kw_129) hK hW hS hA (n := 8) 8 (by decide +kernel) (by decide +kernel) (Nat.le_refl _) (by decide) (by show _ ≤ 38; omega) (by show _ ≤ 1447025; omega) dX12_init_185 (fun q103 H Y104 M105 h0q103 eY104 eM105 hW hS => ?_)
  replace hf := hf q103 h0q103 Y104 eY104 M105 eM105
  obtain ⟨k106, hf⟩ := hf
  refine gm_putFR (C := RX12) (T := TX12) (N := 68) (j := 35) hx hb hts inT_12 tyX12 tyX12_ok nmX12 hown hK hW hS k106 (by decide) rfl (by decide) rfl (hts _ kw_1351) rfl rfl hin rfl rfl rfl dX12_init_187 (fun H locs M107 eM107 hW hS => ?_)
  replace hf := hf M107 eM107
  refine lv_aload_n hx hb dX12_init_190 rfl (lv_at hl 0 rfl) ?_
  refine lv_bipush (v := 8) hx hb dX12_init_191 (by decide +kernel) ?_
  refine gm_newi hx hb (hts _ kw_129) hK hW hS hA (n := 8) 8 (by decide +kernel) (by decide +kernel) (Nat.le_refl _) (by decide) (by show _ ≤ 38; omega) (by show _ ≤ 1447025; omega) dX12_init_193 (fun q108 H Y109 M110 h0q108 eY109 eM110 hW hS => ?_)
  replace hf := hf q108 h0q108 Y109 eY109 M110 eM110
  obtain ⟨k111, hf⟩ := hf
  refine gm_putFR (C := RX12) (T := TX12) (N := 68) (j := 36) hx hb hts inT_12 tyX12 tyX12_ok nmX12 hown hK hW hS k111 (by decide) rfl (by decide) rfl (hts _ kw_1352) rfl rfl hin rfl rfl rfl dX12_init_195 (fun H locs M112 eM112 hW hS => ?_)
  replace hf := hf M112 eM112
  refine lv_aload_n hx hb dX12_init_198 rfl (lv_at hl 0 rfl) ?_
  refine lv_bipush (v := 64) hx hb dX12_init_199 (by decide +kernel) ?_
  refine gm_newz hx hb (hts _ kw_1453) hK hW hS hA (n := 64) 64 (by decide +kernel) (by decide +kernel) (Nat.le_refl _) (by decide) (by show _ ≤ 38; omega) (by show _ ≤ 1447025; omega) dX12_init_201 (fun q113 H Y114 M115 h0q113 eY114 eM115 hW hS => ?_)
  replace hf := hf q113 h0q113 Y114 eY114 M115 eM115
  obtain ⟨k116, hf⟩ := hf
  refine gm_putFR (C := RX12) (T := TX12) (N := 68) (j := 37) hx hb hts inT_12 tyX12 tyX12_ok nmX12 hown hK hW hS k116 (by decide) rfl (by decide) rfl (hts _ kw_1353) rfl rfl hin rfl rfl rfl dX12_init_203 (fun H locs M117 eM117 hW hS => ?_)
  replace hf := hf M117 eM117
  refine lv_aload_n hx hb dX12_init_206 rfl (lv_at hl 0 rfl) ?_
  refine lv_bipush (v := 64) hx hb dX12_init_207 (by decide +kernel) ?_
  refine gm_newz hx hb (hts _ kw_1453) hK hW hS hA (n := 64) 64 (by decide +kernel) (by decide +kernel) (Nat.le_refl _) (by decide) (by show _ ≤ 38; omega) (by show _ ≤ 1447025; omega) dX12_init_209 (fun q118 H Y119 M120 h0q118 eY119 eM120 hW hS => ?_)
  replace hf := hf q118 h0q118 Y119 eY119 M120 eM120
  obtain ⟨k121, hf⟩ := hf
  refine gm_putFR (C := RX12) (T := TX12) (N := 68) (j := 38) hx hb hts inT_12 tyX12 tyX12_ok nmX12 hown hK hW hS k121 (by decide) rfl (by decide) rfl (hts _ kw_1354) rfl rfl hin rfl rfl rfl dX12_init_211 (fun H locs M122 eM122 hW hS => ?_)
  replace hf := hf M122 eM122
  refine lv_aload_n hx hb dX12_init_214 rfl (lv_at hl 0 rfl) ?_
  refine lv_bipush (v := 64) hx hb dX12_init_215 (by decide +kernel) ?_
  refine gm_newi hx hb (hts _ kw_129) hK hW hS hA (n := 64) 64 (by decide +kernel) (by decide +kernel) (Nat.le_refl _) (by decide) (by show _ ≤ 38; omega) (by show _ ≤ 1447025; omega) dX12_init_217 (fun q123 H Y124 M125 h0q123 eY124 eM125 hW hS => ?_)
  replace hf := hf q123 h0q123 Y124 eY124 M125 eM125
  obtain ⟨k126, hf⟩ := hf
  refine gm_putFR (C := RX12) (T := TX12) (N := 68) (j := 39) hx hb hts inT_12 tyX12 tyX12_ok nmX12 hown hK hW hS k126 (by decide) rfl (by decide) rfl (hts _ kw_1355) rfl rfl hin rfl rfl rfl dX12_init_219 (fun H locs M127 eM127 hW hS => ?_)
  replace hf := hf M127 eM127
  refine lv_aload_n hx hb dX12_init_222 rfl (lv_at hl 0 rfl) ?_
  refine lv_aload_n hx hb dX12_init_223 rfl (lv_at hl 0 rfl) ?_
  obtain ⟨b128, hb128, hf⟩ := hf
  refine gm_getR (C := RX12) (T := TX12) (N := 68) (j := 10) hx hb hts inT_12 hown hK hW k126 (by decide) rfl (by decide) rfl (hts _ kw_1326) rfl dX12_init_224 hb128 ?_
  refine gm_putR (C := RX12) (T := TX12) (N := 68) (j := 40) hx hb hts inT_12 tyX12 tyX12_ok nmX12 hown hK hW hS k126 (by decide) rfl (by decide) rfl (hts _ kw_1356) rfl rfl rfl rfl dX12_init_227 (fun H locs M129 eM129 hW hS => ?_)
  replace hf := hf M129 eM129
  refine lv_aload_n hx hb dX12_init_230 rfl (lv_at hl 0 rfl) ?_
  refine lv_ldc (v := 40000) hx hb hown (hts _ kw_1315) dX12_init_231 ?_
  refine gm_newi hx hb (hts _ kw_129) hK hW hS hA (n := 40000) 40000 (by decide +kernel) (by decide +kernel) (Nat.le_refl _) (by decide) (by show _ ≤ 38; omega) (by show _ ≤ 1447025; omega) dX12_init_233 (fun q130 H Y131 M132 h0q130 eY131 eM132 hW hS => ?_)
  replace hf := hf q130 h0q130 Y131 eY131 M132 eM132
  obtain ⟨k133, hf⟩ := hf
  refine gm_putFR (C := RX12) (T := TX12) (N := 68) (j := 54) hx hb hts inT_12 tyX12 tyX12_ok nmX12 hown hK hW hS k133 (by decide) rfl (by decide) rfl (hts _ kw_1370) rfl rfl hin rfl rfl rfl dX12_init_235 (fun H locs M134 eM134 hW hS => ?_)
  replace hf := hf M134 eM134
  refine lv_aload_n hx hb dX12_init_238 rfl (lv_at hl 0 rfl) ?_
  refine lv_ldc (v := 40000) hx hb hown (hts _ kw_1315) dX12_init_239 ?_
  refine gm_newi hx hb (hts _ kw_129) hK hW hS hA (n := 40000) 40000 (by decide +kernel) (by decide +kernel) (Nat.le_refl _) (by decide) (by show _ ≤ 38; omega) (by show _ ≤ 1447025; omega) dX12_init_241 (fun q135 H Y136 M137 h0q135 eY136 eM137 hW hS => ?_)
  replace hf := hf q135 h0q135 Y136 eY136 M137 eM137
  obtain ⟨k138, hf⟩ := hf
  refine gm_putFR (C := RX12) (T := TX12) (N := 68) (j := 55) hx hb hts inT_12 tyX12 tyX12_ok nmX12 hown hK hW hS k138 (by decide) rfl (by decide) rfl (hts _ kw_1371) rfl rfl hin rfl rfl rfl dX12_init_243 (fun H locs M139 eM139 hW hS => ?_)
  replace hf := hf M139 eM139
  refine lv_aload_n hx hb dX12_init_246 rfl (lv_at hl 0 rfl) ?_
  refine lv_ldc (v := 40000) hx hb hown (hts _ kw_1315) dX12_init_247 ?_
  refine gm_newi hx hb (hts _ kw_129) hK hW hS hA (n := 40000) 40000 (by decide +kernel) (by decide +kernel) (Nat.le_refl _) (by decide) (by show _ ≤ 38; omega) (by show _ ≤ 1447025; omega) dX12_init_249 (fun q140 H Y141 M142 h0q140 eY141 eM142 hW hS => ?_)
  replace hf := hf q140 h0q140 Y141 eY141 M142 eM142
  obtain ⟨k143, hf⟩ := hf
  refine gm_putFR (C := RX12) (T := TX12) (N := 68) (j := 56) hx hb hts inT_12 tyX12 tyX12_ok nmX12 hown hK hW hS k143 (by decide) rfl (by decide) rfl (hts _ kw_1372) rfl rfl hin rfl rfl rfl dX12_init_251 (fun H locs M144 eM144 hW hS => ?_)
  replace hf := hf M144 eM144
  refine lv_aload_n hx hb dX12_init_254 rfl (lv_at hl 0 rfl) ?_
  refine lv_ldc (v := 40000) hx hb hown (hts _ kw_1315) dX12_init_255 ?_
  refine gm_newi hx hb (hts _ kw_129) hK hW hS hA (n := 40000) 40000 (by decide +kernel) (by decide +kernel) (Nat.le_refl _) (by decide) (by show _ ≤ 38; omega) (by show _ ≤ 1447025; omega) dX12_init_257 (fun q145 H Y146 M147 h0q145 eY146 eM147 hW hS => ?_)
  replace hf := hf q145 h0q145 Y146 eY146 M147 eM147
  obtain ⟨k148, hf⟩ := hf
  refine gm_putFR (C := RX12) (T := TX12) (N := 68) (j := 57) hx hb hts inT_12 tyX12 tyX12_ok nmX12 hown hK hW hS k148 (by decide) rfl (by decide) rfl (hts _ kw_1373) rfl rfl hin rfl rfl rfl dX12_init_259 (fun H locs M149 eM149 hW hS => ?_)
  replace hf := hf M149 eM149
  refine lv_aload_n hx hb dX12_init_262 rfl (lv_at hl 0 rfl) ?_
  refine lv_ldc (v := 40000) hx hb hown (hts _ kw_1315) dX12_init_263 ?_
  refine gm_newi hx hb (hts _ kw_129) hK hW hS hA (n := 40000) 40000 (by decide +kernel) (by decide +kernel) (Nat.le_refl _) (by decide) (by show _ ≤ 38; omega) (by show _ ≤ 1447025; omega) dX12_init_265 (fun q150 H Y151 M152 h0q150 eY151 eM152 hW hS => ?_)
  replace hf := hf q150 h0q150 Y151 eY151 M152 eM152
  obtain ⟨k153, hf⟩ := hf
  refine gm_putFR (C := RX12) (T := TX12) (N := 68) (j := 58) hx hb hts inT_12 tyX12 tyX12_ok nmX12 hown hK hW hS k153 (by decide) rfl (by decide) rfl (hts _ kw_1374) rfl rfl hin rfl rfl rfl dX12_init_267 (fun H locs M154 eM154 hW hS => ?_)
  replace hf := hf M154 eM154
  refine lv_aload_n hx hb dX12_init_270 rfl (lv_at hl 0 rfl) ?_
  refine lv_ldc (v := 40000) hx hb hown (hts _ kw_1315) dX12_init_271 ?_
  refine gm_newz hx hb (hts _ kw_1453) hK hW hS hA (n := 40000) 40000 (by decide +kernel) (by decide +kernel) (Nat.le_refl _) (by decide) (by show _ ≤ 38; omega) (by show _ ≤ 1447025; omega) dX12_init_273 (fun q155 H Y156 M157 h0q155 eY156 eM157 hW hS => ?_)
  replace hf := hf q155 h0q155 Y156 eY156 M157 eM157
  obtain ⟨k158, hf⟩ := hf
  refine gm_putFR (C := RX12) (T := TX12) (N := 68) (j := 59) hx hb hts inT_12 tyX12 tyX12_ok nmX12 hown hK hW hS k158 (by decide) rfl (by decide) rfl (hts _ kw_1375) rfl rfl hin rfl rfl rfl dX12_init_275 (fun H locs M159 eM159 hW hS => ?_)
  replace hf := hf M159 eM159
  refine lv_aload_n hx hb dX12_init_278 rfl (lv_at hl 0 rfl) ?_
  refine lv_sipush (v := 4096) hx hb dX12_init_279 (by decide +kernel) ?_
  refine gm_newi hx hb (hts _ kw_129) hK hW hS hA (n := 4096) 4096 (by decide +kernel) (by decide +kernel) (Nat.le_refl _) (by decide) (by show _ ≤ 38; omega) (by show _ ≤ 1447025; omega) dX12_init_282 (fun q160 H Y161 M162 h0q160 eY161 eM162 hW hS => ?_)
  replace hf := hf q160 h0q160 Y161 eY161 M162 eM162
  obtain ⟨k163, hf⟩ := hf
  refine gm_putFR (C := RX12) (T := TX12) (N := 68) (j := 60) hx hb hts inT_12 tyX12 tyX12_ok nmX12 hown hK hW hS k163 (by decide) rfl (by decide) rfl (hts _ kw_1376) rfl rfl hin rfl rfl rfl dX12_init_284 (fun H locs M164 eM164 hW hS => ?_)
  replace hf := hf M164 eM164
  refine lv_aload_n hx hb dX12_init_287 rfl (lv_at hl 0 rfl) ?_
  refine lv_ldc (v := 40000) hx hb hown (hts _ kw_1315) dX12_init_288 ?_
  refine gm_newi hx hb (hts _ kw_129) hK hW hS hA (n := 40000) 40000 (by decide +kernel) (by decide +kernel) (Nat.le_refl _) (by decide) (by show _ ≤ 38; omega) (by show _ ≤ 1447025; omega) dX12_init_290 (fun q165 H Y166 M167 h0q165 eY166 eM167 hW hS => ?_)
  replace hf := hf q165 h0q165 Y166 eY166 M167 eM167
  obtain ⟨k168, hf⟩ := hf
  refine gm_putFR (C := RX12) (T := TX12) (N := 68) (j := 61) hx hb hts inT_12 tyX12 tyX12_ok nmX12 hown hK hW hS k168 (by decide) rfl (by decide) rfl (hts _ kw_1377) rfl rfl hin rfl rfl rfl dX12_init_292 (fun H locs M169 eM169 hW hS => ?_)
  replace hf := hf M169 eM169
  refine lv_aload_n hx hb dX12_init_295 rfl (lv_at hl 0 rfl) ?_
  refine lv_sipush (v := 4500) hx hb dX12_init_296 (by decide +kernel) ?_
  refine gm_newi hx hb (hts _ kw_129) hK hW hS hA (n := 4500) 4500 (by decide +kernel) (by decide +kernel) (Nat.le_refl _) (by decide) (by show _ ≤ 38; omega) (by show _ ≤ 1447025; omega) dX12_init_299 (fun q170 H Y171 M172 h0q170 eY171 eM172 hW hS => ?_)
  replace hf := hf q170 h0q170 Y171 eY171 M172 eM172
  obtain ⟨k173, hf⟩ := hf
  refine gm_putFR (C := RX12) (T := TX12) (N := 68) (j := 62) hx hb hts inT_12 tyX12 tyX12_ok nmX12 hown hK hW hS k173 (by decide) rfl (by decide) rfl (hts _ kw_1378) rfl rfl hin rfl rfl rfl dX12_init_301 (fun H locs M174 eM174 hW hS => ?_)
  replace hf := hf M174 eM174
  refine lv_aload_n hx hb dX12_init_304 rfl (lv_at hl 0 rfl) ?_
  refine lv_sipush (v := 4500) hx hb dX12_init_305 (by decide +kernel) ?_
  refine gm_newi hx hb (hts _ kw_129) hK hW hS hA (n := 4500) 4500 (by decide +kernel) (by decide +kernel) (Nat.le_refl _) (by decide) (by show _ ≤ 38; omega) (by show _ ≤ 1447025; omega) dX12_init_308 (fun q175 H Y176 M177 h0q175 eY176 eM177 hW hS => ?_)
  replace hf := hf q175 h0q175 Y176 eY176 M177 eM177
  obtain ⟨k178, hf⟩ := hf
  refine gm_putFR (C := RX12) (T := TX12) (N := 68) (j := 63) hx hb hts inT_12 tyX12 tyX12_ok nmX12 hown hK hW hS k178 (by decide) rfl (by decide) rfl (hts _ kw_1379) rfl rfl hin rfl rfl rfl dX12_init_310 (fun H locs M179 eM179 hW hS => ?_)
  replace hf := hf M179 eM179
  refine lv_aload_n hx hb dX12_init_313 rfl (lv_at hl 0 rfl) ?_
  refine lv_bipush (v := 60) hx hb dX12_init_314 (by decide +kernel) ?_
  refine gm_newi hx hb (hts _ kw_129) hK hW hS hA (n := 60) 60 (by decide +kernel) (by decide +kernel) (Nat.le_refl _) (by decide) (by show _ ≤ 38; omega) (by show _ ≤ 1447025; omega) dX12_init_316 (fun q180 H Y181 M182 h0q180 eY181 eM182 hW hS => ?_)
  replace hf := hf q180 h0q180 Y181 eY181 M182 eM182
  obtain ⟨k183, hf⟩ := hf
  refine gm_putFR (C := RX12) (T := TX12) (N := 68) (j := 65) hx hb hts inT_12 tyX12 tyX12_ok nmX12 hown hK hW hS k183 (by decide) rfl (by decide) rfl (hts _ kw_1381) rfl rfl hin rfl rfl rfl dX12_init_318 (fun H locs M184 eM184 hW hS => ?_)
  replace hf := hf M184 eM184
  refine lv_aload_n hx hb dX12_init_321 rfl (lv_at hl 0 rfl) ?_
  refine lv_bipush (v := 60) hx hb dX12_init_322 (by decide +kernel) ?_
  refine gm_newi hx hb (hts _ kw_129) hK hW hS hA (n := 60) 60 (by decide +kernel) (by decide +kernel) (Nat.le_refl _) (by decide) (by show _ ≤ 38; omega) (by show _ ≤ 1447025; omega) dX12_init_324 (fun q185 H Y186 M187 h0q185 eY186 eM187 hW hS => ?_)
  replace hf := hf q185 h0q185 Y186 eY186 M187 eM187
  obtain ⟨k188, hf⟩ := hf
  refine gm_putFR (C := RX12) (T := TX12) (N := 68) (j := 66) hx hb hts inT_12 tyX12 tyX12_ok nmX12 hown hK hW hS k188 (by decide) rfl (by decide) rfl (hts _ kw_1382) rfl rfl hin rfl rfl rfl dX12_init_326 (fun H locs M189 eM189 hW hS => ?_)
  replace hf := hf M189 eM189
  refine lv_aload_n hx hb dX12_init_329 rfl (lv_at hl 0 rfl) ?_
  refine lv_bipush (v := 78) hx hb dX12_init_330 (by decide +kernel) ?_
  refine gm_newi hx hb (hts _ kw_129) hK hW hS hA (n := 78) 78 (by decide +kernel) (by decide +kernel) (Nat.le_refl _) (by decide) (by show _ ≤ 38; omega) (by show _ ≤ 1447025; omega) dX12_init_332 (fun q190 H Y191 M192 h0q190 eY191 eM192 hW hS => ?_)
  replace hf := hf q190 h0q190 Y191 eY191 M192 eM192
  obtain ⟨k193, hf⟩ := hf
  refine gm_putFR (C := RX12) (T := TX12) (N := 68) (j := 67) hx hb hts inT_12 tyX12 tyX12_ok nmX12 hown hK hW hS k193 (by decide) rfl (by decide) rfl (hts _ kw_1383) rfl rfl hin rfl rfl rfl dX12_init_334 (fun H locs M194 eM194 hW hS => ?_)
  replace hf := hf M194 eM194
  refine lv_aload_n hx hb dX12_init_337 rfl (lv_at hl 0 rfl) ?_
  refine lv_iload_n hx hb dX12_init_338 rfl (lv_at hl 1 rfl) ?_
  refine lv_iconst (v := 1) hx hb dX12_init_339 (by decide +kernel) ?_
  have j359 : ∀ (y195 : Int32) (H : Heap) (locs : List Loc) (ls : Array Slot), lv_has ls 4 [(0, .ref v0), (2, .int v2), (3, .int v3)] → Wd D cy A Y191 M194 H → va_S A s.heap H locs → f_X12_init_359 Y191 v0 v2 v3 Kn M194 y195 → W p l e rm_X12_init s m args below meth c H locs (38) (1447025) (MQ below (QA D cy A Kn) args s 38 1447025 A) (F0 m 359 ls [.int y195, .ref v0]) := by
    intro y195 H locs ls hl hW hS hf
    unfold f_X12_init_359 at hf
    refine gm_putFI (C := RX12) (T := TX12) (N := 68) (j := 1) hx hb hts inT_12 tyX12 tyX12_ok nmX12 hown hK hW hS k193 (by decide) rfl (by decide) rfl (hts _ kw_1317) rfl rfl hin rfl rfl rfl dX12_init_359 (fun H locs M196 eM196 hW hS => ?_)
    replace hf := hf M196 eM196
    refine lv_aload_n hx hb dX12_init_362 rfl (lv_at hl 0 rfl) ?_
    refine lv_iload_n hx hb dX12_init_363 rfl (lv_at hl 1 rfl) ?_
    refine lv_iconst (v := 1) hx hb dX12_init_364 (by decide +kernel) ?_
    have j384 : ∀ (y197 : Int32) (H : Heap) (locs : List Loc) (ls : Array Slot), lv_has ls 4 [(0, .ref v0), (3, .int v3)] → Wd D cy A Y191 M196 H → va_S A s.heap H locs → f_X12_init_384 Y191 v0 v3 Kn M196 y197 → W p l e rm_X12_init s m args below meth c H locs (38) (1447025) (MQ below (QA D cy A Kn) args s 38 1447025 A) (F0 m 384 ls [.int y197, .ref v0]) := by
      intro y197 H locs ls hl hW hS hf
      unfold f_X12_init_384 at hf
      refine gm_putFI (C := RX12) (T := TX12) (N := 68) (j := 2) hx hb hts inT_12 tyX12 tyX12_ok nmX12 hown hK hW hS k193 (by decide) rfl (by decide) rfl (hts _ kw_1318) rfl rfl hin rfl rfl rfl dX12_init_384 (fun H locs M198 eM198 hW hS => ?_)
      replace hf := hf M198 eM198
      refine lv_aload_n hx hb dX12_init_387 rfl (lv_at hl 0 rfl) ?_
      refine lv_iload_n hx hb dX12_init_388 rfl (lv_at hl 1 rfl) ?_
      refine lv_bipush (v := 32) hx hb dX12_init_389 (by decide +kernel) ?_
      have j413 : ∀ (y199 : Int32) (H : Heap) (locs : List Loc) (ls : Array Slot), lv_has ls 4 [] → Wd D cy A Y191 M198 H → va_S A s.heap H locs → f_X12_init_413 Y191 v0 Kn M198 y199 → W p l e rm_X12_init s m args below meth c H locs (38) (1447025) (MQ below (QA D cy A Kn) args s 38 1447025 A) (F0 m 413 ls [.int y199, .ref v0]) := by
        intro y199 H locs ls hl hW hS hf
        unfold f_X12_init_413 at hf
        refine gm_putFI (C := RX12) (T := TX12) (N := 68) (j := 3) hx hb hts inT_12 tyX12 tyX12_ok nmX12 hown hK hW hS k193 (by decide) rfl (by decide) rfl (hts _ kw_1319) rfl rfl hin rfl rfl rfl dX12_init_413 (fun H locs M200 eM200 hW hS => ?_)
        replace hf := hf M200 eM200
        refine W.widen (k := 38) (n := 1447025) (by omega) (by omega) ?_
        exact gm_vretA hx hb hr hlocks hW hS hf dX12_init_416
      refine lv_icmp_ge (tgt := 399) hx hb dX12_init_391 (by decide) (fun c201 => ?_) (fun c201 => ?_)
      · replace hf := hf.1 c201
        refine lv_iload_n hx hb dX12_init_399 rfl (lv_at hl 1 rfl) ?_
        refine lv_sipush (v := 256) hx hb dX12_init_400 (by decide +kernel) ?_
        refine lv_icmp_le (tgt := 412) hx hb dX12_init_403 (by decide) (fun c202 => ?_) (fun c202 => ?_)
        · replace hf := hf.1 c202
          refine lv_iload_n hx hb dX12_init_412 rfl (lv_at hl 1 rfl) ?_
          exact j413 _ _ _ _ (lv_sub hl [] rfl) hW hS hf
        · replace hf := hf.2 c202
          refine lv_sipush (v := 256) hx hb dX12_init_406 (by decide +kernel) ?_
          refine lv_goto (tgt := 413) hx hb dX12_init_409 (by decide) ?_
          exact j413 _ _ _ _ (lv_sub hl [] rfl) hW hS hf
      · replace hf := hf.2 c201
        refine lv_bipush (v := 32) hx hb dX12_init_394 (by decide +kernel) ?_
        refine lv_goto (tgt := 413) hx hb dX12_init_396 (by decide) ?_
        exact j413 _ _ _ _ (lv_sub hl [] rfl) hW hS hf
    refine lv_icmp_ge (tgt := 372) hx hb dX12_init_365 (by decide) (fun c203 => ?_) (fun c203 => ?_)
    · replace hf := hf.1 c203
      refine lv_iload_n hx hb dX12_init_372 rfl (lv_at hl 1 rfl) ?_
      refine lv_bipush (v := 16) hx hb dX12_init_373 (by decide +kernel) ?_
      refine lv_icmp_le (tgt := 383) hx hb dX12_init_375 (by decide) (fun c204 => ?_) (fun c204 => ?_)
      · replace hf := hf.1 c204
        refine lv_iload_n hx hb dX12_init_383 rfl (lv_at hl 1 rfl) ?_
        exact j384 _ _ _ _ (lv_sub hl [0, 2] rfl) hW hS hf
      · replace hf := hf.2 c204
        refine lv_bipush (v := 16) hx hb dX12_init_378 (by decide +kernel) ?_
        refine lv_goto (tgt := 384) hx hb dX12_init_380 (by decide) ?_
        exact j384 _ _ _ _ (lv_sub hl [0, 2] rfl) hW hS hf
    · replace hf := hf.2 c203
      refine lv_iconst (v := 1) hx hb dX12_init_368 (by decide +kernel) ?_
      refine lv_goto (tgt := 384) hx hb dX12_init_369 (by decide) ?_
      exact j384 _ _ _ _ (lv_sub hl [0, 2] rfl) hW hS hf
  refine lv_icmp_ge (tgt := 347) hx hb dX12_init_340 (by decide) (fun c205 => ?_) (fun c205 => ?_)
  · replace hf := hf.1 c205
    refine lv_iload_n hx hb dX12_init_347 rfl (lv_at hl 1 rfl) ?_
    refine lv_bipush (v := 8) hx hb dX12_init_348 (by decide +kernel) ?_
    refine lv_icmp_le (tgt := 358) hx hb dX12_init_350 (by decide) (fun c206 => ?_) (fun c206 => ?_)
    · replace hf := hf.1 c206
      refine lv_iload_n hx hb dX12_init_358 rfl (lv_at hl 1 rfl) ?_
      exact j359 _ _ _ _ (lv_sub hl [0, 2, 3] rfl) hW hS hf
    · replace hf := hf.2 c206
      refine lv_bipush (v := 8) hx hb dX12_init_353 (by decide +kernel) ?_
      refine lv_goto (tgt := 359) hx hb dX12_init_355 (by decide) ?_
      exact j359 _ _ _ _ (lv_sub hl [0, 2, 3] rfl) hW hS hf
  · replace hf := hf.2 c205
    refine lv_iconst (v := 1) hx hb dX12_init_343 (by decide +kernel) ?_
    refine lv_goto (tgt := 359) hx hb dX12_init_344 (by decide) ?_
    exact j359 _ _ _ _ (lv_sub hl [0, 2, 3] rfl) hW hS hf

abbrev rm_X12_thrown : Room := { frames := 2, cells := 0, slots := 0, locals := 80 }
def f_X12_thrown (Y : Ly) (v0 : Nat) (M : Mm) (Kn : Int32 → Mm → Prop) : Prop :=
  yK Y v0 = 12 ∧ (Kn (mI M v0 0) M)
set_option maxHeartbeats 4000000 in
set_option maxRecDepth 100000 in
theorem m_X12_thrown (l : Launch) (D : va_G) (cy : Cy) (tq sz : Nat) (Y : Ly) (v0 : Nat) (M : Mm) (Kn : Int32 → Mm → Prop) : Met l yX12_thrown (Cond.code yX12_thrown cX12_thrown 1 (some .int) :: TT) rm_X12_thrown (PcG D cy tq [.ref v0] sz Y M (f_X12_thrown Y v0 M Kn)) (va_Qi Kn (BG D cy (Am Y sz) Y) (Am Y sz)) 0 0 (Am Y sz) := by
  refine Met.ofW (cc := cX12_thrown) (maxL := 1) (ret := (some .int)) (by decide) rfl ?_
  intro p e s m args below meth c s₁ B hml hv
  obtain ⟨hargs, hsz, hW, hK, hC, hf⟩ := hv
  subst hsz
  have hx := B.exec
  have hb := B.bytes
  have hr := B.returns
  have hts : ∀ w ∈ TT, w.before args s = true := fun w h => atoms_spec (ws := Cond.code yX12_thrown cX12_thrown 1 (some .int) :: TT) B.pre w (List.mem_cons_of_mem _ h)
  have hown : s.vm.findClass RX12 = some m.cls := findClass_of_methodNamed B.named
  have hlocks := B.notSynchronized
  replace hW := Wd_self (sz := s.heap.size) hW
  generalize hAe : Am Y s.heap.size = A at hW hC ⊢
  have hA : ∀ q : Nat, s.heap.size ≤ q → A q := fun q h => by rw [← hAe]; exact Or.inr h
  clear hAe
  have hS : va_S A s.heap s.heap [] := va_S.rf
  obtain ⟨ls, hE, hl⟩ := gm_entry m [.ref v0] (n := 1) hargs (Nat.le_of_ble_eq_true rfl)
  rw [hE]
  have hl : lv_has ls 1 [(0, .ref v0)] := hl
  show W p l e rm_X12_thrown s m args below meth c s.heap [] 0 0 (MQ below (va_Qi Kn (BG D cy A Y) A) args s 0 0 A) (F0 m 0 ls [])
  unfold f_X12_thrown at hf
  refine lv_aload_n hx hb dX12_thrown_0 rfl (lv_at hl 0 rfl) ?_
  obtain ⟨k1, hf⟩ := hf
  refine gm_getI (C := RX12) (T := TX12) (N := 68) (j := 0) hx hb hts inT_12 hown hK hW k1 (by decide) rfl (by decide) rfl (hts _ kw_1316) rfl dX12_thrown_1 ?_
  exact gm_iret hx hb hr hlocks hW hS hf dX12_thrown_4

abbrev rm_X12_put : Room := { frames := 2, cells := 0, slots := 0, locals := 80 }
def L_X12_put_5 (Y : Ly) (v0 : Nat) (v1 : Int64) (Kn : Mm → Prop) (x2 : Int32) (M3 : Mm) (again5 : Int32 → Mm → Prop) : Prop :=
  (x2 < 0 → (Kn M3)) ∧ (¬ (x2 < 0) → (yK Y v0 = 12 ∧ (∃ b6 : Nat, mR M3 v0 10 = some b6 ∧ (yK Y b6 = 101 ∧ (vp_in (mI M3 v0 11) (yN Y b6) ∧ (∀ M9 : Mm, M9 = sI M3 b6 (m1 (mI M3 b6) (mI M3 v0 11).toNatClampNeg (((v1 >>> ((8 * x2).toInt64 &&& 63)).toInt32) &&& 255)) → (∀ M10 : Mm, M10 = sI M9 v0 (m1 (mI M9 v0) 11 ((mI M9 v0 11) + 1)) → (∀ x11 : Int32, x11 = x2 + (-1) → (again5 x11 M10)))))))))
def f_X12_put (Y : Ly) (v0 : Nat) (v1 : Int64) (v3 : Int32) (M : Mm) (Kn : Mm → Prop) : Prop :=
  ∀ x1 : Int32, x1 = v3 - 1 → (∃ n, LOOP2 (L_X12_put_5 Y v0 v1 Kn) n x1 M)
set_option maxHeartbeats 4000000 in
set_option maxRecDepth 100000 in
theorem m_X12_put (l : Launch) (D : va_G) (cy : Cy) (tq sz : Nat) (Y : Ly) (v0 : Nat) (v1 : Int64) (v3 : Int32) (M : Mm) (Kn : Mm → Prop) : Met l yX12_put (Cond.code yX12_put cX12_put 5 none :: TT) rm_X12_put (PcG D cy tq [.ref v0, .long v1, .int v3] sz Y M (f_X12_put Y v0 v1 v3 M Kn)) (va_Qv Kn (BG D cy (Am Y sz) Y) (Am Y sz)) 0 0 (Am Y sz) := by
  refine Met.ofW (cc := cX12_put) (maxL := 5) (ret := none) (by decide) rfl ?_
  intro p e s m args below meth c s₁ B hml hv
  obtain ⟨hargs, hsz, hW, hK, hC, hf⟩ := hv
  subst hsz
  have hx := B.exec
  have hb := B.bytes
  have hr := B.returns
  have hts : ∀ w ∈ TT, w.before args s = true := fun w h => atoms_spec (ws := Cond.code yX12_put cX12_put 5 none :: TT) B.pre w (List.mem_cons_of_mem _ h)
  have hown : s.vm.findClass RX12 = some m.cls := findClass_of_methodNamed B.named
  have hlocks := B.notSynchronized
  replace hW := Wd_self (sz := s.heap.size) hW
  generalize hAe : Am Y s.heap.size = A at hW hC ⊢
  have hA : ∀ q : Nat, s.heap.size ≤ q → A q := fun q h => by rw [← hAe]; exact Or.inr h
  clear hAe
  have hS : va_S A s.heap s.heap [] := va_S.rf
  obtain ⟨ls, hE, hl⟩ := gm_entry m [.ref v0, .long v1, .int v3] (n := 5) hargs (Nat.le_of_ble_eq_true rfl)
  rw [hE]
  have hl : lv_has ls 5 [(0, .ref v0), (1, .long v1), (3, .int v3)] := hl
  show W p l e rm_X12_put s m args below meth c s.heap [] 0 0 (MQ below (va_Qv Kn (BG D cy A Y) A) args s 0 0 A) (F0 m 0 ls [])
  unfold f_X12_put at hf
  refine lv_iload_n hx hb dX12_put_0 rfl (lv_at hl 2 rfl) ?_
  refine lv_iconst (v := 1) hx hb dX12_put_1 (by decide +kernel) ?_
  refine lv_isub hx hb dX12_put_2 ?_
  refine lv_topi (fun x1 ex1 => ?_)
  replace hf := hf x1 ex1
  refine lv_istore (lv' := [(4, .int x1), (0, .ref v0), (1, .long v1), (3, .int v3)]) hx hb dX12_put_3 hl (by decide) rfl (fun ls hl => ?_)
  obtain ⟨n5, hf⟩ := hf
  have lp5 : ∀ (n5 : Nat) (x2 : Int32) (M3 : Mm) (H : Heap) (locs : List Loc) (ls : Array Slot), lv_has ls 5 [(0, .ref v0), (1, .long v1), (4, .int x2)] → Wd D cy A Y M3 H → va_S A s.heap H locs → LOOP2 (L_X12_put_5 Y v0 v1 Kn) n5 x2 M3 → W p l e rm_X12_put s m args below meth c H locs 0 0 (MQ below (va_Qv Kn (BG D cy A Y) A) args s 0 0 A) (F0 m 5 ls []) := by
    intro n5
    induction n5 with
    | zero => intro x2 M3 H locs ls hl hW hS hf; exact hf.elim
    | succ n5 ih5 =>
      intro x2 M3 H locs ls hl hW hS hf
      replace hf : L_X12_put_5 Y v0 v1 Kn x2 M3 (LOOP2 (L_X12_put_5 Y v0 v1 Kn) n5) := hf
      unfold L_X12_put_5 at hf
      refine lv_iload hx hb dX12_put_5 (lv_at hl 2 rfl) ?_
      refine lv_if_lt (tgt := 47) hx hb dX12_put_7 (by decide) (fun c4 => ?_) (fun c4 => ?_)
      · replace hf := hf.1 c4
        exact gm_vret hx hb hr hlocks hW hS hf dX12_put_47
      · replace hf := hf.2 c4
        refine lv_aload_n hx hb dX12_put_10 rfl (lv_at hl 0 rfl) ?_
        obtain ⟨k5, hf⟩ := hf
        obtain ⟨b6, hb6, hf⟩ := hf
        refine gm_getR (C := RX12) (T := TX12) (N := 68) (j := 10) hx hb hts inT_12 hown hK hW k5 (by decide) rfl (by decide) rfl (hts _ kw_1326) rfl dX12_put_11 hb6 ?_
        refine lv_aload_n hx hb dX12_put_14 rfl (lv_at hl 0 rfl) ?_
        refine gm_getI (C := RX12) (T := TX12) (N := 68) (j := 11) hx hb hts inT_12 hown hK hW k5 (by decide) rfl (by decide) rfl (hts _ kw_1327) rfl dX12_put_15 ?_
        refine lv_lload_n hx hb dX12_put_18 rfl (lv_at hl 1 rfl) ?_
        refine lv_bipush (v := 8) hx hb dX12_put_19 (by decide +kernel) ?_
        refine lv_iload hx hb dX12_put_21 (lv_at hl 2 rfl) ?_
        refine lv_imul hx hb dX12_put_23 ?_
        refine lv_lshr hx hb dX12_put_24 rfl ?_
        refine lv_l2i hx hb dX12_put_25 rfl ?_
        refine lv_sipush (v := 255) hx hb dX12_put_26 (by decide +kernel) ?_
        refine lv_iand hx hb dX12_put_29 ?_
        obtain ⟨k7, hf⟩ := hf
        obtain ⟨h8, hf⟩ := hf
        refine gm_iast hx hb hK hW hS k7 h8 dX12_put_30 (fun H locs M9 eM9 hW hS => ?_)
        replace hf := hf M9 eM9
        refine lv_aload_n hx hb dX12_put_31 rfl (lv_at hl 0 rfl) ?_
        refine lv_dup hx hb dX12_put_32 rfl ?_
        refine gm_getI (C := RX12) (T := TX12) (N := 68) (j := 11) hx hb hts inT_12 hown hK hW k5 (by decide) rfl (by decide) rfl (hts _ kw_1327) rfl dX12_put_33 ?_
        refine lv_iconst (v := 1) hx hb dX12_put_36 (by decide +kernel) ?_
        refine lv_iadd hx hb dX12_put_37 ?_
        refine gm_putI (C := RX12) (T := TX12) (N := 68) (j := 11) hx hb hts inT_12 tyX12 tyX12_ok nmX12 hown hK hW hS k5 (by decide) rfl (by decide) rfl (hts _ kw_1327) rfl rfl rfl rfl dX12_put_38 (fun H locs M10 eM10 hW hS => ?_)
        replace hf := hf M10 eM10
        obtain ⟨x11, ex11⟩ : ∃ y : Int32, y = x2 + (-1) := ⟨_, rfl⟩
        replace hf := hf x11 ex11
        refine lv_iinc (v := x11) (lv' := [(4, .int x11), (0, .ref v0), (1, .long v1)]) hx hb dX12_put_41 hl (k := 2) rfl (by rw [ex11]; rfl) (by decide) rfl (fun ls hl => ?_)
        refine lv_goto (tgt := 5) hx hb dX12_put_44 (by decide) ?_
        exact ih5 _ _ _ _ _ (lv_sub hl [1, 2, 0] rfl) hW hS hf
  exact lp5 n5 _ _ _ _ _ (lv_sub hl [1, 2, 0] rfl) hW hS hf

abbrev rm_X12_feed : Room := { frames := 3, cells := 0, slots := 0, locals := 104 }
def f_X12_feed_19 (Y : Ly) (v0 : Nat) (v1 : Int32) (v2 : Int32) (v3 : Int32) (v4 : Int32) (v5 : Int32) (M : Mm) (Kn : Int32 → Mm → Prop) (y2 : Int32) : Prop :=
  ∀ M3 : Mm, M3 = sI M v0 (m1 (mI M v0) 0 y2) → (((mI M3 v0 0) ≤ 0 → (f_X12_put Y v0 v1.toInt64 4 M3 (fun M5 => (f_X12_put Y v0 v2.toInt64 4 M5 (fun M6 => (f_X12_put Y v0 v3.toInt64 4 M6 (fun M7 => (f_X12_put Y v0 v4.toInt64 4 M7 (fun M8 => (f_X12_put Y v0 v5.toInt64 4 M8 (fun M9 => (Kn (mI M9 v0 11) M9)))))))))))) ∧ (¬ ((mI M3 v0 0) ≤ 0) → (Kn 0 M3)))
def f_X12_feed (Y : Ly) (v0 : Nat) (v1 : Int32) (v2 : Int32) (v3 : Int32) (v4 : Int32) (v5 : Int32) (M : Mm) (Kn : Int32 → Mm → Prop) : Prop :=
  yK Y v0 = 12 ∧ ((((mI M v0 11) + 20) ≤ 16384 → (f_X12_feed_19 Y v0 v1 v2 v3 v4 v5 M Kn 0)) ∧ (¬ (((mI M v0 11) + 20) ≤ 16384) → (f_X12_feed_19 Y v0 v1 v2 v3 v4 v5 M Kn 1)))
set_option maxHeartbeats 4000000 in
set_option maxRecDepth 100000 in
theorem m_X12_feed (l : Launch) (D : va_G) (cy : Cy) (tq sz : Nat) (Y : Ly) (v0 : Nat) (v1 : Int32) (v2 : Int32) (v3 : Int32) (v4 : Int32) (v5 : Int32) (M : Mm) (Kn : Int32 → Mm → Prop) : Met l yX12_feed (Cond.code yX12_feed cX12_feed 6 (some .int) :: TT) rm_X12_feed (PcG D cy tq [.ref v0, .int v1, .int v2, .int v3, .int v4, .int v5] sz Y M (f_X12_feed Y v0 v1 v2 v3 v4 v5 M Kn)) (va_Qi Kn (BG D cy (Am Y sz) Y) (Am Y sz)) 0 0 (Am Y sz) := by
  refine Met.ofW (cc := cX12_feed) (maxL := 6) (ret := (some .int)) (by decide) rfl ?_
  intro p e s m args below meth c s₁ B hml hv
  obtain ⟨hargs, hsz, hW, hK, hC, hf⟩ := hv
  subst hsz
  have hx := B.exec
  have hb := B.bytes
  have hr := B.returns
  have hts : ∀ w ∈ TT, w.before args s = true := fun w h => atoms_spec (ws := Cond.code yX12_feed cX12_feed 6 (some .int) :: TT) B.pre w (List.mem_cons_of_mem _ h)
  have hown : s.vm.findClass RX12 = some m.cls := findClass_of_methodNamed B.named
  have hlocks := B.notSynchronized
  replace hW := Wd_self (sz := s.heap.size) hW
  generalize hAe : Am Y s.heap.size = A at hW hC ⊢
  have hA : ∀ q : Nat, s.heap.size ≤ q → A q := fun q h => by rw [← hAe]; exact Or.inr h
  clear hAe
  have hS : va_S A s.heap s.heap [] := va_S.rf
  obtain ⟨ls, hE, hl⟩ := gm_entry m [.ref v0, .int v1, .int v2, .int v3, .int v4, .int v5] (n := 6) hargs (Nat.le_of_ble_eq_true rfl)
  rw [hE]
  have hl : lv_has ls 6 [(0, .ref v0), (1, .int v1), (2, .int v2), (3, .int v3), (4, .int v4), (5, .int v5)] := hl
  show W p l e rm_X12_feed s m args below meth c s.heap [] 0 0 (MQ below (va_Qi Kn (BG D cy A Y) A) args s 0 0 A) (F0 m 0 ls [])
  unfold f_X12_feed at hf
  refine lv_aload_n hx hb dX12_feed_0 rfl (lv_at hl 0 rfl) ?_
  refine lv_aload_n hx hb dX12_feed_1 rfl (lv_at hl 0 rfl) ?_
  obtain ⟨k1, hf⟩ := hf
  refine gm_getI (C := RX12) (T := TX12) (N := 68) (j := 11) hx hb hts inT_12 hown hK hW k1 (by decide) rfl (by decide) rfl (hts _ kw_1327) rfl dX12_feed_2 ?_
  refine lv_bipush (v := 20) hx hb dX12_feed_5 (by decide +kernel) ?_
  refine lv_iadd hx hb dX12_feed_7 ?_
  refine lv_sipush (v := 16384) hx hb dX12_feed_8 (by decide +kernel) ?_
  have j19 : ∀ (y2 : Int32) (H : Heap) (locs : List Loc) (ls : Array Slot), lv_has ls 6 [(0, .ref v0), (1, .int v1), (2, .int v2), (3, .int v3), (4, .int v4), (5, .int v5)] → Wd D cy A Y M H → va_S A s.heap H locs → f_X12_feed_19 Y v0 v1 v2 v3 v4 v5 M Kn y2 → W p l e rm_X12_feed s m args below meth c H locs 0 0 (MQ below (va_Qi Kn (BG D cy A Y) A) args s 0 0 A) (F0 m 19 ls [.int y2, .ref v0]) := by
    intro y2 H locs ls hl hW hS hf
    unfold f_X12_feed_19 at hf
    refine gm_putI (C := RX12) (T := TX12) (N := 68) (j := 0) hx hb hts inT_12 tyX12 tyX12_ok nmX12 hown hK hW hS k1 (by decide) rfl (by decide) rfl (hts _ kw_1316) rfl rfl rfl rfl dX12_feed_19 (fun H locs M3 eM3 hW hS => ?_)
    replace hf := hf M3 eM3
    refine lv_aload_n hx hb dX12_feed_22 rfl (lv_at hl 0 rfl) ?_
    refine gm_getI (C := RX12) (T := TX12) (N := 68) (j := 0) hx hb hts inT_12 hown hK hW k1 (by decide) rfl (by decide) rfl (hts _ kw_1316) rfl dX12_feed_23 ?_
    refine lv_if_le (tgt := 31) hx hb dX12_feed_26 (by decide) (fun c4 => ?_) (fun c4 => ?_)
    · replace hf := hf.1 c4
      refine lv_aload_n hx hb dX12_feed_31 rfl (lv_at hl 0 rfl) ?_
      refine lv_iload_n hx hb dX12_feed_32 rfl (lv_at hl 1 rfl) ?_
      refine lv_i2l hx hb dX12_feed_33 rfl ?_
      refine lv_iconst (v := 4) hx hb dX12_feed_34 (by decide +kernel) ?_
      refine gm_cv (va_runV (As := [.long v1.toInt64, .int 4]) (rest := []) ⟨hx, hb, hml, hown, hts⟩ (m_X12_put l D cy tq _ Y _ _ _ _ _) (cwV 2 hts (good_V kw_1462 kw_1463 kw_1823 kw_12 kw_1464) rfl rfl rfl (by decide +kernel) ⟨Nat.le_of_ble_eq_true rfl, Nat.le_of_ble_eq_true rfl⟩) (gm_preV hK hW hC hS hA k1 (by decide) (q := (RX12, TX12, 68)) rfl rfl hf) rfl rfl hl.1 rfl (lv_room (Nat.le_of_ble_eq_true rfl)) dX12_feed_35 ⟨Nat.le_of_ble_eq_true rfl, Nat.le_of_ble_eq_true rfl⟩) hW hS hA (fun M5 H locs hW hS hf => ?_)
      refine lv_aload_n hx hb dX12_feed_38 rfl (lv_at hl 0 rfl) ?_
      refine lv_iload_n hx hb dX12_feed_39 rfl (lv_at hl 2 rfl) ?_
      refine lv_i2l hx hb dX12_feed_40 rfl ?_
      refine lv_iconst (v := 4) hx hb dX12_feed_41 (by decide +kernel) ?_
      refine gm_cv (va_runV (As := [.long v2.toInt64, .int 4]) (rest := []) ⟨hx, hb, hml, hown, hts⟩ (m_X12_put l D cy tq _ Y _ _ _ _ _) (cwV 2 hts (good_V kw_1462 kw_1463 kw_1823 kw_12 kw_1464) rfl rfl rfl (by decide +kernel) ⟨Nat.le_of_ble_eq_true rfl, Nat.le_of_ble_eq_true rfl⟩) (gm_preV hK hW hC hS hA k1 (by decide) (q := (RX12, TX12, 68)) rfl rfl hf) rfl rfl hl.1 rfl (lv_room (Nat.le_of_ble_eq_true rfl)) dX12_feed_42 ⟨Nat.le_of_ble_eq_true rfl, Nat.le_of_ble_eq_true rfl⟩) hW hS hA (fun M6 H locs hW hS hf => ?_)
      refine lv_aload_n hx hb dX12_feed_45 rfl (lv_at hl 0 rfl) ?_
      refine lv_iload_n hx hb dX12_feed_46 rfl (lv_at hl 3 rfl) ?_
      refine lv_i2l hx hb dX12_feed_47 rfl ?_
      refine lv_iconst (v := 4) hx hb dX12_feed_48 (by decide +kernel) ?_
      refine gm_cv (va_runV (As := [.long v3.toInt64, .int 4]) (rest := []) ⟨hx, hb, hml, hown, hts⟩ (m_X12_put l D cy tq _ Y _ _ _ _ _) (cwV 2 hts (good_V kw_1462 kw_1463 kw_1823 kw_12 kw_1464) rfl rfl rfl (by decide +kernel) ⟨Nat.le_of_ble_eq_true rfl, Nat.le_of_ble_eq_true rfl⟩) (gm_preV hK hW hC hS hA k1 (by decide) (q := (RX12, TX12, 68)) rfl rfl hf) rfl rfl hl.1 rfl (lv_room (Nat.le_of_ble_eq_true rfl)) dX12_feed_49 ⟨Nat.le_of_ble_eq_true rfl, Nat.le_of_ble_eq_true rfl⟩) hW hS hA (fun M7 H locs hW hS hf => ?_)
      refine lv_aload_n hx hb dX12_feed_52 rfl (lv_at hl 0 rfl) ?_
      refine lv_iload hx hb dX12_feed_53 (lv_at hl 4 rfl) ?_
      refine lv_i2l hx hb dX12_feed_55 rfl ?_
      refine lv_iconst (v := 4) hx hb dX12_feed_56 (by decide +kernel) ?_
      refine gm_cv (va_runV (As := [.long v4.toInt64, .int 4]) (rest := []) ⟨hx, hb, hml, hown, hts⟩ (m_X12_put l D cy tq _ Y _ _ _ _ _) (cwV 2 hts (good_V kw_1462 kw_1463 kw_1823 kw_12 kw_1464) rfl rfl rfl (by decide +kernel) ⟨Nat.le_of_ble_eq_true rfl, Nat.le_of_ble_eq_true rfl⟩) (gm_preV hK hW hC hS hA k1 (by decide) (q := (RX12, TX12, 68)) rfl rfl hf) rfl rfl hl.1 rfl (lv_room (Nat.le_of_ble_eq_true rfl)) dX12_feed_57 ⟨Nat.le_of_ble_eq_true rfl, Nat.le_of_ble_eq_true rfl⟩) hW hS hA (fun M8 H locs hW hS hf => ?_)
      refine lv_aload_n hx hb dX12_feed_60 rfl (lv_at hl 0 rfl) ?_
      refine lv_iload hx hb dX12_feed_61 (lv_at hl 5 rfl) ?_
      refine lv_i2l hx hb dX12_feed_63 rfl ?_
      refine lv_iconst (v := 4) hx hb dX12_feed_64 (by decide +kernel) ?_
      refine gm_cv (va_runV (As := [.long v5.toInt64, .int 4]) (rest := []) ⟨hx, hb, hml, hown, hts⟩ (m_X12_put l D cy tq _ Y _ _ _ _ _) (cwV 2 hts (good_V kw_1462 kw_1463 kw_1823 kw_12 kw_1464) rfl rfl rfl (by decide +kernel) ⟨Nat.le_of_ble_eq_true rfl, Nat.le_of_ble_eq_true rfl⟩) (gm_preV hK hW hC hS hA k1 (by decide) (q := (RX12, TX12, 68)) rfl rfl hf) rfl rfl hl.1 rfl (lv_room (Nat.le_of_ble_eq_true rfl)) dX12_feed_65 ⟨Nat.le_of_ble_eq_true rfl, Nat.le_of_ble_eq_true rfl⟩) hW hS hA (fun M9 H locs hW hS hf => ?_)
      refine lv_aload_n hx hb dX12_feed_68 rfl (lv_at hl 0 rfl) ?_
      refine gm_getI (C := RX12) (T := TX12) (N := 68) (j := 11) hx hb hts inT_12 hown hK hW k1 (by decide) rfl (by decide) rfl (hts _ kw_1327) rfl dX12_feed_69 ?_
      exact gm_iret hx hb hr hlocks hW hS hf dX12_feed_72
    · replace hf := hf.2 c4
      refine lv_iconst (v := 0) hx hb dX12_feed_29 (by decide +kernel) ?_
      exact gm_iret hx hb hr hlocks hW hS hf dX12_feed_30
  refine lv_icmp_le (tgt := 18) hx hb dX12_feed_11 (by decide) (fun c10 => ?_) (fun c10 => ?_)
  · replace hf := hf.1 c10
    refine lv_iconst (v := 0) hx hb dX12_feed_18 (by decide +kernel) ?_
    exact j19 _ _ _ _ (lv_sub hl [0, 1, 2, 3, 4, 5] rfl) hW hS hf
  · replace hf := hf.2 c10
    refine lv_iconst (v := 1) hx hb dX12_feed_14 (by decide +kernel) ?_
    refine lv_goto (tgt := 19) hx hb dX12_feed_15 (by decide) ?_
    exact j19 _ _ _ _ (lv_sub hl [0, 1, 2, 3, 4, 5] rfl) hW hS hf

abbrev rm_X12_trim : Room := { frames := 2, cells := 0, slots := 0, locals := 80 }
def f_X12_trim_18 (Y : Ly) (v0 : Nat) (v1 : Int32) (M : Mm) (Kn : Int32 → Mm → Prop) (y1 : Int32) : Prop :=
  yK Y v0 = 12 ∧ (∀ M3 : Mm, M3 = sI M v0 (m1 (mI M v0) 0 y1) → (((mI M3 v0 0) ≤ 0 → (∀ M5 : Mm, M5 = sI M3 v0 (m1 (mI M3 v0) 11 ((mI M3 v0 11) - v1)) → (Kn (mI M5 v0 11) M5))) ∧ (¬ ((mI M3 v0 0) ≤ 0) → (Kn 0 M3))))
def f_X12_trim_13 (Y : Ly) (v0 : Nat) (v1 : Int32) (M : Mm) (Kn : Int32 → Mm → Prop) : Prop :=
  f_X12_trim_18 Y v0 v1 M Kn 1
def f_X12_trim (Y : Ly) (v0 : Nat) (v1 : Int32) (M : Mm) (Kn : Int32 → Mm → Prop) : Prop :=
  (v1 < 0 → (f_X12_trim_13 Y v0 v1 M Kn)) ∧ (¬ (v1 < 0) → (yK Y v0 = 12 ∧ ((v1 ≤ (mI M v0 11) → (f_X12_trim_18 Y v0 v1 M Kn 0)) ∧ (¬ (v1 ≤ (mI M v0 11)) → (f_X12_trim_13 Y v0 v1 M Kn)))))
set_option maxHeartbeats 4000000 in
set_option maxRecDepth 100000 in
theorem m_X12_trim (l : Launch) (D : va_G) (cy : Cy) (tq sz : Nat) (Y : Ly) (v0 : Nat) (v1 : Int32) (M : Mm) (Kn : Int32 → Mm → Prop) : Met l yX12_trim (Cond.code yX12_trim cX12_trim 2 (some .int) :: TT) rm_X12_trim (PcG D cy tq [.ref v0, .int v1] sz Y M (f_X12_trim Y v0 v1 M Kn)) (va_Qi Kn (BG D cy (Am Y sz) Y) (Am Y sz)) 0 0 (Am Y sz) := by
  refine Met.ofW (cc := cX12_trim) (maxL := 2) (ret := (some .int)) (by decide) rfl ?_
  intro p e s m args below meth c s₁ B hml hv
  obtain ⟨hargs, hsz, hW, hK, hC, hf⟩ := hv
  subst hsz
  have hx := B.exec
  have hb := B.bytes
  have hr := B.returns
  have hts : ∀ w ∈ TT, w.before args s = true := fun w h => atoms_spec (ws := Cond.code yX12_trim cX12_trim 2 (some .int) :: TT) B.pre w (List.mem_cons_of_mem _ h)
  have hown : s.vm.findClass RX12 = some m.cls := findClass_of_methodNamed B.named
  have hlocks := B.notSynchronized
  replace hW := Wd_self (sz := s.heap.size) hW
  generalize hAe : Am Y s.heap.size = A at hW hC ⊢
  have hA : ∀ q : Nat, s.heap.size ≤ q → A q := fun q h => by rw [← hAe]; exact Or.inr h
  clear hAe
  have hS : va_S A s.heap s.heap [] := va_S.rf
  obtain ⟨ls, hE, hl⟩ := gm_entry m [.ref v0, .int v1] (n := 2) hargs (Nat.le_of_ble_eq_true rfl)
  rw [hE]
  have hl : lv_has ls 2 [(0, .ref v0), (1, .int v1)] := hl
  show W p l e rm_X12_trim s m args below meth c s.heap [] 0 0 (MQ below (va_Qi Kn (BG D cy A Y) A) args s 0 0 A) (F0 m 0 ls [])
  unfold f_X12_trim at hf
  refine lv_aload_n hx hb dX12_trim_0 rfl (lv_at hl 0 rfl) ?_
  refine lv_iload_n hx hb dX12_trim_1 rfl (lv_at hl 1 rfl) ?_
  have j18 : ∀ (y1 : Int32) (H : Heap) (locs : List Loc) (ls : Array Slot), lv_has ls 2 [(0, .ref v0), (1, .int v1)] → Wd D cy A Y M H → va_S A s.heap H locs → f_X12_trim_18 Y v0 v1 M Kn y1 → W p l e rm_X12_trim s m args below meth c H locs 0 0 (MQ below (va_Qi Kn (BG D cy A Y) A) args s 0 0 A) (F0 m 18 ls [.int y1, .ref v0]) := by
    intro y1 H locs ls hl hW hS hf
    unfold f_X12_trim_18 at hf
    obtain ⟨k2, hf⟩ := hf
    refine gm_putI (C := RX12) (T := TX12) (N := 68) (j := 0) hx hb hts inT_12 tyX12 tyX12_ok nmX12 hown hK hW hS k2 (by decide) rfl (by decide) rfl (hts _ kw_1316) rfl rfl rfl rfl dX12_trim_18 (fun H locs M3 eM3 hW hS => ?_)
    replace hf := hf M3 eM3
    refine lv_aload_n hx hb dX12_trim_21 rfl (lv_at hl 0 rfl) ?_
    refine gm_getI (C := RX12) (T := TX12) (N := 68) (j := 0) hx hb hts inT_12 hown hK hW k2 (by decide) rfl (by decide) rfl (hts _ kw_1316) rfl dX12_trim_22 ?_
    refine lv_if_le (tgt := 30) hx hb dX12_trim_25 (by decide) (fun c4 => ?_) (fun c4 => ?_)
    · replace hf := hf.1 c4
      refine lv_aload_n hx hb dX12_trim_30 rfl (lv_at hl 0 rfl) ?_
      refine lv_dup hx hb dX12_trim_31 rfl ?_
      refine gm_getI (C := RX12) (T := TX12) (N := 68) (j := 11) hx hb hts inT_12 hown hK hW k2 (by decide) rfl (by decide) rfl (hts _ kw_1327) rfl dX12_trim_32 ?_
      refine lv_iload_n hx hb dX12_trim_35 rfl (lv_at hl 1 rfl) ?_
      refine lv_isub hx hb dX12_trim_36 ?_
      refine gm_putI (C := RX12) (T := TX12) (N := 68) (j := 11) hx hb hts inT_12 tyX12 tyX12_ok nmX12 hown hK hW hS k2 (by decide) rfl (by decide) rfl (hts _ kw_1327) rfl rfl rfl rfl dX12_trim_37 (fun H locs M5 eM5 hW hS => ?_)
      replace hf := hf M5 eM5
      refine lv_aload_n hx hb dX12_trim_40 rfl (lv_at hl 0 rfl) ?_
      refine gm_getI (C := RX12) (T := TX12) (N := 68) (j := 11) hx hb hts inT_12 hown hK hW k2 (by decide) rfl (by decide) rfl (hts _ kw_1327) rfl dX12_trim_41 ?_
      exact gm_iret hx hb hr hlocks hW hS hf dX12_trim_44
    · replace hf := hf.2 c4
      refine lv_iconst (v := 0) hx hb dX12_trim_28 (by decide +kernel) ?_
      exact gm_iret hx hb hr hlocks hW hS hf dX12_trim_29
  have j13 : ∀ (H : Heap) (locs : List Loc) (ls : Array Slot), lv_has ls 2 [(0, .ref v0), (1, .int v1)] → Wd D cy A Y M H → va_S A s.heap H locs → f_X12_trim_13 Y v0 v1 M Kn  → W p l e rm_X12_trim s m args below meth c H locs 0 0 (MQ below (va_Qi Kn (BG D cy A Y) A) args s 0 0 A) (F0 m 13 ls [.ref v0]) := by
    intro  H locs ls hl hW hS hf
    unfold f_X12_trim_13 at hf
    refine lv_iconst (v := 1) hx hb dX12_trim_13 (by decide +kernel) ?_
    refine lv_goto (tgt := 18) hx hb dX12_trim_14 (by decide) ?_
    exact j18 _ _ _ _ (lv_sub hl [0, 1] rfl) hW hS hf
  refine lv_if_lt (tgt := 13) hx hb dX12_trim_2 (by decide) (fun c6 => ?_) (fun c6 => ?_)
  · replace hf := hf.1 c6
    exact j13  _ _ _ (lv_sub hl [0, 1] rfl) hW hS hf
  · replace hf := hf.2 c6
    refine lv_iload_n hx hb dX12_trim_5 rfl (lv_at hl 1 rfl) ?_
    refine lv_aload_n hx hb dX12_trim_6 rfl (lv_at hl 0 rfl) ?_
    obtain ⟨k7, hf⟩ := hf
    refine gm_getI (C := RX12) (T := TX12) (N := 68) (j := 11) hx hb hts inT_12 hown hK hW k7 (by decide) rfl (by decide) rfl (hts _ kw_1327) rfl dX12_trim_7 ?_
    refine lv_icmp_le (tgt := 17) hx hb dX12_trim_10 (by decide) (fun c8 => ?_) (fun c8 => ?_)
    · replace hf := hf.1 c8
      refine lv_iconst (v := 0) hx hb dX12_trim_17 (by decide +kernel) ?_
      exact j18 _ _ _ _ (lv_sub hl [0, 1] rfl) hW hS hf
    · replace hf := hf.2 c8
      exact j13  _ _ _ (lv_sub hl [0, 1] rfl) hW hS hf

abbrev rm_X12_spoil : Room := { frames := 2, cells := 0, slots := 0, locals := 80 }
def f_X12_spoil_29 (Y : Ly) (v0 : Nat) (v1 : Int32) (v2 : Int32) (M : Mm) (Kn : Int32 → Mm → Prop) (y1 : Int32) : Prop :=
  yK Y v0 = 12 ∧ (∀ M3 : Mm, M3 = sI M v0 (m1 (mI M v0) 0 y1) → (((mI M3 v0 0) ≤ 0 → (∃ b5 : Nat, mR M3 v0 10 = some b5 ∧ (yK Y b5 = 101 ∧ (vp_in v1 (yN Y b5) ∧ (vp_in v1 (yN Y b5) ∧ (∀ M9 : Mm, M9 = sI M3 b5 (m1 (mI M3 b5) v1.toNatClampNeg ((mI M3 b5 v1.toNatClampNeg) ^^^ v2)) → (∃ b10 : Nat, mR M9 v0 10 = some b10 ∧ (yK Y b10 = 101 ∧ (vp_in v1 (yN Y b10) ∧ (Kn (mI M9 b10 v1.toNatClampNeg) M9)))))))))) ∧ (¬ ((mI M3 v0 0) ≤ 0) → (Kn 0 M3))))
def f_X12_spoil_24 (Y : Ly) (v0 : Nat) (v1 : Int32) (v2 : Int32) (M : Mm) (Kn : Int32 → Mm → Prop) : Prop :=
  f_X12_spoil_29 Y v0 v1 v2 M Kn 1
def f_X12_spoil (Y : Ly) (v0 : Nat) (v1 : Int32) (v2 : Int32) (M : Mm) (Kn : Int32 → Mm → Prop) : Prop :=
  (v1 < 0 → (f_X12_spoil_24 Y v0 v1 v2 M Kn)) ∧ (¬ (v1 < 0) → (yK Y v0 = 12 ∧ (((mI M v0 11) ≤ v1 → (f_X12_spoil_24 Y v0 v1 v2 M Kn)) ∧ (¬ ((mI M v0 11) ≤ v1) → ((v2 < 0 → (f_X12_spoil_24 Y v0 v1 v2 M Kn)) ∧ (¬ (v2 < 0) → ((v2 ≤ 255 → (f_X12_spoil_29 Y v0 v1 v2 M Kn 0)) ∧ (¬ (v2 ≤ 255) → (f_X12_spoil_24 Y v0 v1 v2 M Kn)))))))))
set_option maxHeartbeats 4000000 in
set_option maxRecDepth 100000 in
theorem m_X12_spoil (l : Launch) (D : va_G) (cy : Cy) (tq sz : Nat) (Y : Ly) (v0 : Nat) (v1 : Int32) (v2 : Int32) (M : Mm) (Kn : Int32 → Mm → Prop) : Met l yX12_spoil (Cond.code yX12_spoil cX12_spoil 3 (some .int) :: TT) rm_X12_spoil (PcG D cy tq [.ref v0, .int v1, .int v2] sz Y M (f_X12_spoil Y v0 v1 v2 M Kn)) (va_Qi Kn (BG D cy (Am Y sz) Y) (Am Y sz)) 0 0 (Am Y sz) := by
  refine Met.ofW (cc := cX12_spoil) (maxL := 3) (ret := (some .int)) (by decide) rfl ?_
  intro p e s m args below meth c s₁ B hml hv
  obtain ⟨hargs, hsz, hW, hK, hC, hf⟩ := hv
  subst hsz
  have hx := B.exec
  have hb := B.bytes
  have hr := B.returns
  have hts : ∀ w ∈ TT, w.before args s = true := fun w h => atoms_spec (ws := Cond.code yX12_spoil cX12_spoil 3 (some .int) :: TT) B.pre w (List.mem_cons_of_mem _ h)
  have hown : s.vm.findClass RX12 = some m.cls := findClass_of_methodNamed B.named
  have hlocks := B.notSynchronized
  replace hW := Wd_self (sz := s.heap.size) hW
  generalize hAe : Am Y s.heap.size = A at hW hC ⊢
  have hA : ∀ q : Nat, s.heap.size ≤ q → A q := fun q h => by rw [← hAe]; exact Or.inr h
  clear hAe
  have hS : va_S A s.heap s.heap [] := va_S.rf
  obtain ⟨ls, hE, hl⟩ := gm_entry m [.ref v0, .int v1, .int v2] (n := 3) hargs (Nat.le_of_ble_eq_true rfl)
  rw [hE]
  have hl : lv_has ls 3 [(0, .ref v0), (1, .int v1), (2, .int v2)] := hl
  show W p l e rm_X12_spoil s m args below meth c s.heap [] 0 0 (MQ below (va_Qi Kn (BG D cy A Y) A) args s 0 0 A) (F0 m 0 ls [])
  unfold f_X12_spoil at hf
  refine lv_aload_n hx hb dX12_spoil_0 rfl (lv_at hl 0 rfl) ?_
  refine lv_iload_n hx hb dX12_spoil_1 rfl (lv_at hl 1 rfl) ?_
  have j29 : ∀ (y1 : Int32) (H : Heap) (locs : List Loc) (ls : Array Slot), lv_has ls 3 [(0, .ref v0), (1, .int v1), (2, .int v2)] → Wd D cy A Y M H → va_S A s.heap H locs → f_X12_spoil_29 Y v0 v1 v2 M Kn y1 → W p l e rm_X12_spoil s m args below meth c H locs 0 0 (MQ below (va_Qi Kn (BG D cy A Y) A) args s 0 0 A) (F0 m 29 ls [.int y1, .ref v0]) := by
    intro y1 H locs ls hl hW hS hf
    unfold f_X12_spoil_29 at hf
    obtain ⟨k2, hf⟩ := hf
    refine gm_putI (C := RX12) (T := TX12) (N := 68) (j := 0) hx hb hts inT_12 tyX12 tyX12_ok nmX12 hown hK hW hS k2 (by decide) rfl (by decide) rfl (hts _ kw_1316) rfl rfl rfl rfl dX12_spoil_29 (fun H locs M3 eM3 hW hS => ?_)
    replace hf := hf M3 eM3
    refine lv_aload_n hx hb dX12_spoil_32 rfl (lv_at hl 0 rfl) ?_
    refine gm_getI (C := RX12) (T := TX12) (N := 68) (j := 0) hx hb hts inT_12 hown hK hW k2 (by decide) rfl (by decide) rfl (hts _ kw_1316) rfl dX12_spoil_33 ?_
    refine lv_if_le (tgt := 41) hx hb dX12_spoil_36 (by decide) (fun c4 => ?_) (fun c4 => ?_)
    · replace hf := hf.1 c4
      refine lv_aload_n hx hb dX12_spoil_41 rfl (lv_at hl 0 rfl) ?_
      obtain ⟨b5, hb5, hf⟩ := hf
      refine gm_getR (C := RX12) (T := TX12) (N := 68) (j := 10) hx hb hts inT_12 hown hK hW k2 (by decide) rfl (by decide) rfl (hts _ kw_1326) rfl dX12_spoil_42 hb5 ?_
      refine lv_iload_n hx hb dX12_spoil_45 rfl (lv_at hl 1 rfl) ?_
      refine lv_dup2_11 hx hb dX12_spoil_46 rfl rfl ?_
      obtain ⟨k6, hf⟩ := hf
      obtain ⟨h7, hf⟩ := hf
      refine gm_iald hx hb hK hW k6 h7 dX12_spoil_47 ?_
      refine lv_iload_n hx hb dX12_spoil_48 rfl (lv_at hl 2 rfl) ?_
      refine lv_ixor hx hb dX12_spoil_49 ?_
      obtain ⟨h8, hf⟩ := hf
      refine gm_iast hx hb hK hW hS k6 h8 dX12_spoil_50 (fun H locs M9 eM9 hW hS => ?_)
      replace hf := hf M9 eM9
      refine lv_aload_n hx hb dX12_spoil_51 rfl (lv_at hl 0 rfl) ?_
      obtain ⟨b10, hb10, hf⟩ := hf
      refine gm_getR (C := RX12) (T := TX12) (N := 68) (j := 10) hx hb hts inT_12 hown hK hW k2 (by decide) rfl (by decide) rfl (hts _ kw_1326) rfl dX12_spoil_52 hb10 ?_
      refine lv_iload_n hx hb dX12_spoil_55 rfl (lv_at hl 1 rfl) ?_
      obtain ⟨k11, hf⟩ := hf
      obtain ⟨h12, hf⟩ := hf
      refine gm_iald hx hb hK hW k11 h12 dX12_spoil_56 ?_
      exact gm_iret hx hb hr hlocks hW hS hf dX12_spoil_57
    · replace hf := hf.2 c4
      refine lv_iconst (v := 0) hx hb dX12_spoil_39 (by decide +kernel) ?_
      exact gm_iret hx hb hr hlocks hW hS hf dX12_spoil_40
  have j24 : ∀ (H : Heap) (locs : List Loc) (ls : Array Slot), lv_has ls 3 [(0, .ref v0), (1, .int v1), (2, .int v2)] → Wd D cy A Y M H → va_S A s.heap H locs → f_X12_spoil_24 Y v0 v1 v2 M Kn  → W p l e rm_X12_spoil s m args below meth c H locs 0 0 (MQ below (va_Qi Kn (BG D cy A Y) A) args s 0 0 A) (F0 m 24 ls [.ref v0]) := by
    intro  H locs ls hl hW hS hf
    unfold f_X12_spoil_24 at hf
    refine lv_iconst (v := 1) hx hb dX12_spoil_24 (by decide +kernel) ?_
    refine lv_goto (tgt := 29) hx hb dX12_spoil_25 (by decide) ?_
    exact j29 _ _ _ _ (lv_sub hl [0, 1, 2] rfl) hW hS hf
  refine lv_if_lt (tgt := 24) hx hb dX12_spoil_2 (by decide) (fun c13 => ?_) (fun c13 => ?_)
  · replace hf := hf.1 c13
    exact j24  _ _ _ (lv_sub hl [0, 1, 2] rfl) hW hS hf
  · replace hf := hf.2 c13
    refine lv_iload_n hx hb dX12_spoil_5 rfl (lv_at hl 1 rfl) ?_
    refine lv_aload_n hx hb dX12_spoil_6 rfl (lv_at hl 0 rfl) ?_
    obtain ⟨k14, hf⟩ := hf
    refine gm_getI (C := RX12) (T := TX12) (N := 68) (j := 11) hx hb hts inT_12 hown hK hW k14 (by decide) rfl (by decide) rfl (hts _ kw_1327) rfl dX12_spoil_7 ?_
    refine lv_icmp_ge (tgt := 24) hx hb dX12_spoil_10 (by decide) (fun c15 => ?_) (fun c15 => ?_)
    · replace hf := hf.1 c15
      exact j24  _ _ _ (lv_sub hl [0, 1, 2] rfl) hW hS hf
    · replace hf := hf.2 c15
      refine lv_iload_n hx hb dX12_spoil_13 rfl (lv_at hl 2 rfl) ?_
      refine lv_if_lt (tgt := 24) hx hb dX12_spoil_14 (by decide) (fun c16 => ?_) (fun c16 => ?_)
      · replace hf := hf.1 c16
        exact j24  _ _ _ (lv_sub hl [0, 1, 2] rfl) hW hS hf
      · replace hf := hf.2 c16
        refine lv_iload_n hx hb dX12_spoil_17 rfl (lv_at hl 2 rfl) ?_
        refine lv_sipush (v := 255) hx hb dX12_spoil_18 (by decide +kernel) ?_
        refine lv_icmp_le (tgt := 28) hx hb dX12_spoil_21 (by decide) (fun c17 => ?_) (fun c17 => ?_)
        · replace hf := hf.1 c17
          refine lv_iconst (v := 0) hx hb dX12_spoil_28 (by decide +kernel) ?_
          exact j29 _ _ _ _ (lv_sub hl [0, 1, 2] rfl) hW hS hf
        · replace hf := hf.2 c17
          exact j24  _ _ _ (lv_sub hl [0, 1, 2] rfl) hW hS hf

abbrev rm_X12_sum : Room := { frames := 2, cells := 0, slots := 0, locals := 80 }
def f_X12_sum_63 (Y : Ly) (x8 : Int32) (again24 : Int64 → Int32 → Prop) (x12 : Int64) (y13 : Int64) : Prop :=
  ∀ x14 : Int64, x14 = x12 ^^^ y13 → (∀ x15 : Int32, x15 = x8 + 1 → (again24 x14 x15))
def f_X12_sum_44 (Y : Ly) (x7 : Int64) (x8 : Int32) (again24 : Int64 → Int32 → Prop) (y11 : Int32) : Prop :=
  ∀ x12 : Int64, x12 = x7 >>> ((1 : Int32).toInt64 &&& 63) → ((y11 = 0 → (f_X12_sum_63 Y x8 again24 x12 0)) ∧ (¬ (y11 = 0) → (f_X12_sum_63 Y x8 again24 x12 2197175160)))
def L_X12_sum_24 (Y : Ly) (x2 : Int32) (again7 : Int64 → Int32 → Prop) (x7 : Int64) (x8 : Int32) (again24 : Int64 → Int32 → Prop) : Prop :=
  (8 ≤ x8 → (∀ x10 : Int32, x10 = x2 + 1 → (again7 x7 x10))) ∧ (¬ (8 ≤ x8) → ((¬ (x7 &&& 1) = 1 → (f_X12_sum_44 Y x7 x8 again24 0)) ∧ ((x7 &&& 1) = 1 → (f_X12_sum_44 Y x7 x8 again24 1))))
def L_X12_sum_7 (Y : Ly) (v0 : Nat) (v2 : Int32) (M : Mm) (Kn : Int64 → Mm → Prop) (x1 : Int64) (x2 : Int32) (again7 : Int64 → Int32 → Prop) : Prop :=
  (v2 ≤ x2 → (Kn (x1 ^^^ 4294967295) M)) ∧ (¬ (v2 ≤ x2) → (yK Y v0 = 101 ∧ (vp_in x2 (yN Y v0) ∧ (∀ x6 : Int64, x6 = x1 ^^^ ((mI M v0 x2.toNatClampNeg).toInt64) → (∃ n, LOOP2 (L_X12_sum_24 Y x2 again7) n x6 0)))))
def f_X12_sum (Y : Ly) (v0 : Nat) (v1 : Int32) (v2 : Int32) (M : Mm) (Kn : Int64 → Mm → Prop) : Prop :=
  ∃ n, LOOP2 (L_X12_sum_7 Y v0 v2 M Kn) n 4294967295 v1
set_option maxHeartbeats 4000000 in
set_option maxRecDepth 100000 in
theorem m_X12_sum (l : Launch) (D : va_G) (cy : Cy) (tq sz : Nat) (Y : Ly) (v0 : Nat) (v1 : Int32) (v2 : Int32) (M : Mm) (Kn : Int64 → Mm → Prop) : Met l yX12_sum (Cond.code yX12_sum cX12_sum 8 (some .long) :: TT) rm_X12_sum (PcG D cy tq [.ref v0, .int v1, .int v2] sz Y M (f_X12_sum Y v0 v1 v2 M Kn)) (va_Ql Kn (BG D cy (Am Y sz) Y) (Am Y sz)) 0 0 (Am Y sz) := by
  refine Met.ofW (cc := cX12_sum) (maxL := 8) (ret := (some .long)) (by decide) rfl ?_
  intro p e s m args below meth c s₁ B hml hv
  obtain ⟨hargs, hsz, hW, hK, hC, hf⟩ := hv
  subst hsz
  have hx := B.exec
  have hb := B.bytes
  have hr := B.returns
  have hts : ∀ w ∈ TT, w.before args s = true := fun w h => atoms_spec (ws := Cond.code yX12_sum cX12_sum 8 (some .long) :: TT) B.pre w (List.mem_cons_of_mem _ h)
  have hown : s.vm.findClass RX12 = some m.cls := findClass_of_methodNamed B.named
  have hlocks := B.notSynchronized
  replace hW := Wd_self (sz := s.heap.size) hW
  generalize hAe : Am Y s.heap.size = A at hW hC ⊢
  have hA : ∀ q : Nat, s.heap.size ≤ q → A q := fun q h => by rw [← hAe]; exact Or.inr h
  clear hAe
  have hS : va_S A s.heap s.heap [] := va_S.rf
  obtain ⟨ls, hE, hl⟩ := gm_entry m [.ref v0, .int v1, .int v2] (n := 8) hargs (Nat.le_of_ble_eq_true rfl)
  rw [hE]
  have hl : lv_has ls 8 [(0, .ref v0), (1, .int v1), (2, .int v2)] := hl
  show W p l e rm_X12_sum s m args below meth c s.heap [] 0 0 (MQ below (va_Ql Kn (BG D cy A Y) A) args s 0 0 A) (F0 m 0 ls [])
  unfold f_X12_sum at hf
  refine lv_ldc2 (v := 4294967295) hx hb hown (hts _ kw_1508) dX12_sum_0 ?_
  refine lv_lstore_n (lv' := [(3, .long 4294967295), (0, .ref v0), (1, .int v1), (2, .int v2)]) hx hb dX12_sum_3 rfl hl (by decide) rfl (fun ls hl => ?_)
  refine lv_iload_n hx hb dX12_sum_4 rfl (lv_at hl 2 rfl) ?_
  refine lv_istore (lv' := [(5, .int v1), (3, .long 4294967295), (0, .ref v0), (1, .int v1), (2, .int v2)]) hx hb dX12_sum_5 hl (by decide) rfl (fun ls hl => ?_)
  obtain ⟨n7, hf⟩ := hf
  have lp7 : ∀ (n7 : Nat) (x1 : Int64) (x2 : Int32) (H : Heap) (locs : List Loc) (ls : Array Slot), lv_has ls 8 [(0, .ref v0), (2, .int v2), (3, .long x1), (5, .int x2)] → Wd D cy A Y M H → va_S A s.heap H locs → LOOP2 (L_X12_sum_7 Y v0 v2 M Kn) n7 x1 x2 → W p l e rm_X12_sum s m args below meth c H locs 0 0 (MQ below (va_Ql Kn (BG D cy A Y) A) args s 0 0 A) (F0 m 7 ls []) := by
    intro n7
    induction n7 with
    | zero => intro x1 x2 H locs ls hl hW hS hf; exact hf.elim
    | succ n7 ih7 =>
      intro x1 x2 H locs ls hl hW hS hf
      replace hf : L_X12_sum_7 Y v0 v2 M Kn x1 x2 (LOOP2 (L_X12_sum_7 Y v0 v2 M Kn) n7) := hf
      unfold L_X12_sum_7 at hf
      refine lv_iload hx hb dX12_sum_7 (lv_at hl 3 rfl) ?_
      refine lv_iload_n hx hb dX12_sum_9 rfl (lv_at hl 1 rfl) ?_
      refine lv_icmp_ge (tgt := 77) hx hb dX12_sum_10 (by decide) (fun c3 => ?_) (fun c3 => ?_)
      · replace hf := hf.1 c3
        refine lv_lload_n hx hb dX12_sum_77 rfl (lv_at hl 2 rfl) ?_
        refine lv_ldc2 (v := 4294967295) hx hb hown (hts _ kw_1508) dX12_sum_78 ?_
        refine lv_lxor hx hb dX12_sum_81 ?_
        exact gm_lret hx hb hr hlocks hW hS hf dX12_sum_82
      · replace hf := hf.2 c3
        refine lv_lload_n hx hb dX12_sum_13 rfl (lv_at hl 2 rfl) ?_
        refine lv_aload_n hx hb dX12_sum_14 rfl (lv_at hl 0 rfl) ?_
        refine lv_iload hx hb dX12_sum_15 (lv_at hl 3 rfl) ?_
        obtain ⟨k4, hf⟩ := hf
        obtain ⟨h5, hf⟩ := hf
        refine gm_iald hx hb hK hW k4 h5 dX12_sum_17 ?_
        refine lv_i2l hx hb dX12_sum_18 rfl ?_
        refine lv_lxor hx hb dX12_sum_19 ?_
        refine lv_topl (fun x6 ex6 => ?_)
        replace hf := hf x6 ex6
        refine lv_lstore_n (lv' := [(3, .long x6), (0, .ref v0), (2, .int v2), (5, .int x2)]) hx hb dX12_sum_20 rfl hl (by decide) rfl (fun ls hl => ?_)
        refine lv_iconst (v := 0) hx hb dX12_sum_21 (by decide +kernel) ?_
        refine lv_istore (lv' := [(6, .int 0), (3, .long x6), (0, .ref v0), (2, .int v2), (5, .int x2)]) hx hb dX12_sum_22 hl (by decide) rfl (fun ls hl => ?_)
        obtain ⟨n24, hf⟩ := hf
        have lp24 : ∀ (n24 : Nat) (x7 : Int64) (x8 : Int32) (H : Heap) (locs : List Loc) (ls : Array Slot), lv_has ls 8 [(0, .ref v0), (2, .int v2), (3, .long x7), (5, .int x2), (6, .int x8)] → Wd D cy A Y M H → va_S A s.heap H locs → LOOP2 (L_X12_sum_24 Y x2 (LOOP2 (L_X12_sum_7 Y v0 v2 M Kn) n7)) n24 x7 x8 → W p l e rm_X12_sum s m args below meth c H locs 0 0 (MQ below (va_Ql Kn (BG D cy A Y) A) args s 0 0 A) (F0 m 24 ls []) := by
          intro n24
          induction n24 with
          | zero => intro x7 x8 H locs ls hl hW hS hf; exact hf.elim
          | succ n24 ih24 =>
            intro x7 x8 H locs ls hl hW hS hf
            replace hf : L_X12_sum_24 Y x2 (LOOP2 (L_X12_sum_7 Y v0 v2 M Kn) n7) x7 x8 (LOOP2 (L_X12_sum_24 Y x2 (LOOP2 (L_X12_sum_7 Y v0 v2 M Kn) n7)) n24) := hf
            unfold L_X12_sum_24 at hf
            refine lv_iload hx hb dX12_sum_24 (lv_at hl 4 rfl) ?_
            refine lv_bipush (v := 8) hx hb dX12_sum_26 (by decide +kernel) ?_
            refine lv_icmp_ge (tgt := 71) hx hb dX12_sum_28 (by decide) (fun c9 => ?_) (fun c9 => ?_)
            · replace hf := hf.1 c9
              obtain ⟨x10, ex10⟩ : ∃ y : Int32, y = x2 + 1 := ⟨_, rfl⟩
              replace hf := hf x10 ex10
              refine lv_iinc (v := x10) (lv' := [(5, .int x10), (0, .ref v0), (2, .int v2), (3, .long x7), (6, .int x8)]) hx hb dX12_sum_71 hl (k := 3) rfl (by rw [ex10]; rfl) (by decide) rfl (fun ls hl => ?_)
              refine lv_goto (tgt := 7) hx hb dX12_sum_74 (by decide) ?_
              exact ih7 _ _ _ _ _ (lv_sub hl [1, 2, 3, 0] rfl) hW hS hf
            · replace hf := hf.2 c9
              refine lv_lload_n hx hb dX12_sum_31 rfl (lv_at hl 2 rfl) ?_
              refine lv_lconst (v := 1) hx hb dX12_sum_32 (by decide) ?_
              refine lv_land hx hb dX12_sum_33 ?_
              refine lv_lconst (v := 1) hx hb dX12_sum_34 (by decide) ?_
              refine W.lcmp hx hb dX12_sum_35 ?_
              have j44 : ∀ (y11 : Int32) (H : Heap) (locs : List Loc) (ls : Array Slot), lv_has ls 8 [(0, .ref v0), (2, .int v2), (3, .long x7), (5, .int x2), (6, .int x8)] → Wd D cy A Y M H → va_S A s.heap H locs → f_X12_sum_44 Y x7 x8 (LOOP2 (L_X12_sum_24 Y x2 (LOOP2 (L_X12_sum_7 Y v0 v2 M Kn) n7)) n24) y11 → W p l e rm_X12_sum s m args below meth c H locs 0 0 (MQ below (va_Ql Kn (BG D cy A Y) A) args s 0 0 A) (F0 m 44 ls [.int y11]) := by
                intro y11 H locs ls hl hW hS hf
                unfold f_X12_sum_44 at hf
                refine lv_istore (lv' := [(7, .int y11), (0, .ref v0), (2, .int v2), (3, .long x7), (5, .int x2), (6, .int x8)]) hx hb dX12_sum_44 hl (by decide) rfl (fun ls hl => ?_)
                refine lv_lload_n hx hb dX12_sum_46 rfl (lv_at hl 3 rfl) ?_
                refine lv_iconst (v := 1) hx hb dX12_sum_47 (by decide +kernel) ?_
                refine lv_lshr hx hb dX12_sum_48 rfl ?_
                refine lv_topl (fun x12 ex12 => ?_)
                replace hf := hf x12 ex12
                refine lv_lstore_n (lv' := [(3, .long x12), (7, .int y11), (0, .ref v0), (2, .int v2), (5, .int x2), (6, .int x8)]) hx hb dX12_sum_49 rfl hl (by decide) rfl (fun ls hl => ?_)
                refine lv_lload_n hx hb dX12_sum_50 rfl (lv_at hl 0 rfl) ?_
                refine lv_iload hx hb dX12_sum_51 (lv_at hl 1 rfl) ?_
                have j63 : ∀ (y13 : Int64) (H : Heap) (locs : List Loc) (ls : Array Slot), lv_has ls 8 [(0, .ref v0), (2, .int v2), (5, .int x2), (6, .int x8)] → Wd D cy A Y M H → va_S A s.heap H locs → f_X12_sum_63 Y x8 (LOOP2 (L_X12_sum_24 Y x2 (LOOP2 (L_X12_sum_7 Y v0 v2 M Kn) n7)) n24) x12 y13 → W p l e rm_X12_sum s m args below meth c H locs 0 0 (MQ below (va_Ql Kn (BG D cy A Y) A) args s 0 0 A) (F0 m 63 ls [.long y13, .long x12]) := by
                  intro y13 H locs ls hl hW hS hf
                  unfold f_X12_sum_63 at hf
                  refine lv_lxor hx hb dX12_sum_63 ?_
                  refine lv_topl (fun x14 ex14 => ?_)
                  replace hf := hf x14 ex14
                  refine lv_lstore_n (lv' := [(3, .long x14), (0, .ref v0), (2, .int v2), (5, .int x2), (6, .int x8)]) hx hb dX12_sum_64 rfl hl (by decide) rfl (fun ls hl => ?_)
                  obtain ⟨x15, ex15⟩ : ∃ y : Int32, y = x8 + 1 := ⟨_, rfl⟩
                  replace hf := hf x15 ex15
                  refine lv_iinc (v := x15) (lv' := [(6, .int x15), (3, .long x14), (0, .ref v0), (2, .int v2), (5, .int x2)]) hx hb dX12_sum_65 hl (k := 4) rfl (by rw [ex15]; rfl) (by decide) rfl (fun ls hl => ?_)
                  refine lv_goto (tgt := 24) hx hb dX12_sum_68 (by decide) ?_
                  exact ih24 _ _ _ _ _ (lv_sub hl [2, 3, 1, 4, 0] rfl) hW hS hf
                refine lv_if_eq (tgt := 62) hx hb dX12_sum_53 (by decide) (fun c16 => ?_) (fun c16 => ?_)
                · replace hf := hf.1 c16
                  refine lv_lconst (v := 0) hx hb dX12_sum_62 (by decide) ?_
                  exact j63 _ _ _ _ (lv_sub hl [2, 3, 4, 5] rfl) hW hS hf
                · replace hf := hf.2 c16
                  refine lv_ldc2 (v := 2197175160) hx hb hown (hts _ kw_1509) dX12_sum_56 ?_
                  refine lv_goto (tgt := 63) hx hb dX12_sum_59 (by decide) ?_
                  exact j63 _ _ _ _ (lv_sub hl [2, 3, 4, 5] rfl) hW hS hf
              refine lv_if_ne (tgt := 43) hx hb dX12_sum_36 (by decide) (fun c17 => ?_) (fun c17 => ?_)
              · replace hf := hf.1 ((not_congr lg_eq).mp c17)
                refine lv_iconst (v := 0) hx hb dX12_sum_43 (by decide +kernel) ?_
                exact j44 _ _ _ _ (lv_sub hl [0, 1, 2, 3, 4] rfl) hW hS hf
              · replace hf := hf.2 (lg_eq.mp c17)
                refine lv_iconst (v := 1) hx hb dX12_sum_39 (by decide +kernel) ?_
                refine lv_goto (tgt := 44) hx hb dX12_sum_40 (by decide) ?_
                exact j44 _ _ _ _ (lv_sub hl [0, 1, 2, 3, 4] rfl) hW hS hf
        exact lp24 n24 _ _ _ _ _ (lv_sub hl [2, 3, 1, 4, 0] rfl) hW hS hf
  exact lp7 n7 _ _ _ _ _ (lv_sub hl [2, 4, 1, 0] rfl) hW hS hf

abbrev rm_X12_set : Room := { frames := 2, cells := 0, slots := 0, locals := 80 }
def L_X12_set_3 (Y : Ly) (v0 : Nat) (v1 : Int32) (v2 : Int64) (v4 : Int32) (Kn : Mm → Prop) (x1 : Int32) (M2 : Mm) (again3 : Int32 → Mm → Prop) : Prop :=
  (v4 ≤ x1 → (Kn M2)) ∧ (¬ (v4 ≤ x1) → (yK Y v0 = 101 ∧ (vp_in (v1 + x1) (yN Y v0) ∧ (∀ M6 : Mm, M6 = sI M2 v0 (m1 (mI M2 v0) (v1 + x1).toNatClampNeg (((v2 >>> ((8 * ((v4 - 1) - x1)).toInt64 &&& 63)).toInt32) &&& 255)) → (∀ x7 : Int32, x7 = x1 + 1 → (again3 x7 M6))))))
def f_X12_set (Y : Ly) (v0 : Nat) (v1 : Int32) (v2 : Int64) (v4 : Int32) (M : Mm) (Kn : Mm → Prop) : Prop :=
  ∃ n, LOOP2 (L_X12_set_3 Y v0 v1 v2 v4 Kn) n 0 M
set_option maxHeartbeats 4000000 in
set_option maxRecDepth 100000 in
theorem m_X12_set (l : Launch) (D : va_G) (cy : Cy) (tq sz : Nat) (Y : Ly) (v0 : Nat) (v1 : Int32) (v2 : Int64) (v4 : Int32) (M : Mm) (Kn : Mm → Prop) : Met l yX12_set (Cond.code yX12_set cX12_set 6 none :: TT) rm_X12_set (PcG D cy tq [.ref v0, .int v1, .long v2, .int v4] sz Y M (f_X12_set Y v0 v1 v2 v4 M Kn)) (va_Qv Kn (BG D cy (Am Y sz) Y) (Am Y sz)) 0 0 (Am Y sz) := by
  refine Met.ofW (cc := cX12_set) (maxL := 6) (ret := none) (by decide) rfl ?_
  intro p e s m args below meth c s₁ B hml hv
  obtain ⟨hargs, hsz, hW, hK, hC, hf⟩ := hv
  subst hsz
  have hx := B.exec
  have hb := B.bytes
  have hr := B.returns
  have hts : ∀ w ∈ TT, w.before args s = true := fun w h => atoms_spec (ws := Cond.code yX12_set cX12_set 6 none :: TT) B.pre w (List.mem_cons_of_mem _ h)
  have hown : s.vm.findClass RX12 = some m.cls := findClass_of_methodNamed B.named
  have hlocks := B.notSynchronized
  replace hW := Wd_self (sz := s.heap.size) hW
  generalize hAe : Am Y s.heap.size = A at hW hC ⊢
  have hA : ∀ q : Nat, s.heap.size ≤ q → A q := fun q h => by rw [← hAe]; exact Or.inr h
  clear hAe
  have hS : va_S A s.heap s.heap [] := va_S.rf
  obtain ⟨ls, hE, hl⟩ := gm_entry m [.ref v0, .int v1, .long v2, .int v4] (n := 6) hargs (Nat.le_of_ble_eq_true rfl)
  rw [hE]
  have hl : lv_has ls 6 [(0, .ref v0), (1, .int v1), (2, .long v2), (4, .int v4)] := hl
  show W p l e rm_X12_set s m args below meth c s.heap [] 0 0 (MQ below (va_Qv Kn (BG D cy A Y) A) args s 0 0 A) (F0 m 0 ls [])
  unfold f_X12_set at hf
  refine lv_iconst (v := 0) hx hb dX12_set_0 (by decide +kernel) ?_
  refine lv_istore (lv' := [(5, .int 0), (0, .ref v0), (1, .int v1), (2, .long v2), (4, .int v4)]) hx hb dX12_set_1 hl (by decide) rfl (fun ls hl => ?_)
  obtain ⟨n3, hf⟩ := hf
  have lp3 : ∀ (n3 : Nat) (x1 : Int32) (M2 : Mm) (H : Heap) (locs : List Loc) (ls : Array Slot), lv_has ls 6 [(0, .ref v0), (1, .int v1), (2, .long v2), (4, .int v4), (5, .int x1)] → Wd D cy A Y M2 H → va_S A s.heap H locs → LOOP2 (L_X12_set_3 Y v0 v1 v2 v4 Kn) n3 x1 M2 → W p l e rm_X12_set s m args below meth c H locs 0 0 (MQ below (va_Qv Kn (BG D cy A Y) A) args s 0 0 A) (F0 m 3 ls []) := by
    intro n3
    induction n3 with
    | zero => intro x1 M2 H locs ls hl hW hS hf; exact hf.elim
    | succ n3 ih3 =>
      intro x1 M2 H locs ls hl hW hS hf
      replace hf : L_X12_set_3 Y v0 v1 v2 v4 Kn x1 M2 (LOOP2 (L_X12_set_3 Y v0 v1 v2 v4 Kn) n3) := hf
      unfold L_X12_set_3 at hf
      refine lv_iload hx hb dX12_set_3 (lv_at hl 4 rfl) ?_
      refine lv_iload hx hb dX12_set_5 (lv_at hl 3 rfl) ?_
      refine lv_icmp_ge (tgt := 39) hx hb dX12_set_7 (by decide) (fun c3 => ?_) (fun c3 => ?_)
      · replace hf := hf.1 c3
        exact gm_vret hx hb hr hlocks hW hS hf dX12_set_39
      · replace hf := hf.2 c3
        refine lv_aload_n hx hb dX12_set_10 rfl (lv_at hl 0 rfl) ?_
        refine lv_iload_n hx hb dX12_set_11 rfl (lv_at hl 1 rfl) ?_
        refine lv_iload hx hb dX12_set_12 (lv_at hl 4 rfl) ?_
        refine lv_iadd hx hb dX12_set_14 ?_
        refine lv_lload_n hx hb dX12_set_15 rfl (lv_at hl 2 rfl) ?_
        refine lv_bipush (v := 8) hx hb dX12_set_16 (by decide +kernel) ?_
        refine lv_iload hx hb dX12_set_18 (lv_at hl 3 rfl) ?_
        refine lv_iconst (v := 1) hx hb dX12_set_20 (by decide +kernel) ?_
        refine lv_isub hx hb dX12_set_21 ?_
        refine lv_iload hx hb dX12_set_22 (lv_at hl 4 rfl) ?_
        refine lv_isub hx hb dX12_set_24 ?_
        refine lv_imul hx hb dX12_set_25 ?_
        refine lv_lshr hx hb dX12_set_26 rfl ?_
        refine lv_l2i hx hb dX12_set_27 rfl ?_
        refine lv_sipush (v := 255) hx hb dX12_set_28 (by decide +kernel) ?_
        refine lv_iand hx hb dX12_set_31 ?_
        obtain ⟨k4, hf⟩ := hf
        obtain ⟨h5, hf⟩ := hf
        refine gm_iast hx hb hK hW hS k4 h5 dX12_set_32 (fun H locs M6 eM6 hW hS => ?_)
        replace hf := hf M6 eM6
        obtain ⟨x7, ex7⟩ : ∃ y : Int32, y = x1 + 1 := ⟨_, rfl⟩
        replace hf := hf x7 ex7
        refine lv_iinc (v := x7) (lv' := [(5, .int x7), (0, .ref v0), (1, .int v1), (2, .long v2), (4, .int v4)]) hx hb dX12_set_33 hl (k := 4) rfl (by rw [ex7]; rfl) (by decide) rfl (fun ls hl => ?_)
        refine lv_goto (tgt := 3) hx hb dX12_set_36 (by decide) ?_
        exact ih3 _ _ _ _ _ (lv_sub hl [1, 2, 3, 4, 0] rfl) hW hS hf
  exact lp3 n3 _ _ _ _ _ (lv_sub hl [1, 2, 3, 4, 0] rfl) hW hS hf

abbrev rm_X12_width : Room := { frames := 2, cells := 0, slots := 0, locals := 80 }
def f_X12_width_39 (Y : Ly) (x2 : Int64) (x3 : Int32) (again25 : Int64 → Int32 → Prop) : Prop :=
  ∀ x4 : Int64, x4 = (x2.toUInt64 >>> ((7 : Int32).toInt64.toUInt64 &&& Int64.toUInt64 63)).toInt64 → (∀ x5 : Int32, x5 = x3 + 1 → (again25 x4 x5))
def L_X12_width_25 (Y : Ly) (M : Mm) (Kn : Int32 → Mm → Prop) (x2 : Int64) (x3 : Int32) (again25 : Int64 → Int32 → Prop) : Prop :=
  (x2 < 0 → (f_X12_width_39 Y x2 x3 again25)) ∧ (¬ (x2 < 0) → ((x2 ≤ 127 → (Kn x3 M)) ∧ (¬ (x2 ≤ 127) → (f_X12_width_39 Y x2 x3 again25))))
def f_X12_width_21 (Y : Ly) (M : Mm) (Kn : Int32 → Mm → Prop) (y1 : Int64) : Prop :=
  ∃ n, LOOP2 (L_X12_width_25 Y M Kn) n y1 1
def f_X12_width (Y : Ly) (v0 : Int64) (M : Mm) (Kn : Int32 → Mm → Prop) : Prop :=
  (0 ≤ v0 → (f_X12_width_21 Y M Kn (2 * v0))) ∧ (¬ (0 ≤ v0) → (f_X12_width_21 Y M Kn (((-2) * v0) - 1)))
set_option maxHeartbeats 4000000 in
set_option maxRecDepth 100000 in
theorem m_X12_width (l : Launch) (D : va_G) (cy : Cy) (tq sz : Nat) (Y : Ly) (v0 : Int64) (M : Mm) (Kn : Int32 → Mm → Prop) : Met l yX12_width (Cond.code yX12_width cX12_width 5 (some .int) :: TT) rm_X12_width (PcG D cy tq [.long v0] sz Y M (f_X12_width Y v0 M Kn)) (va_Qi Kn (BG D cy (Am Y sz) Y) (Am Y sz)) 0 0 (Am Y sz) := by
  refine Met.ofW (cc := cX12_width) (maxL := 5) (ret := (some .int)) (by decide) rfl ?_
  intro p e s m args below meth c s₁ B hml hv
  obtain ⟨hargs, hsz, hW, hK, hC, hf⟩ := hv
  subst hsz
  have hx := B.exec
  have hb := B.bytes
  have hr := B.returns
  have hts : ∀ w ∈ TT, w.before args s = true := fun w h => atoms_spec (ws := Cond.code yX12_width cX12_width 5 (some .int) :: TT) B.pre w (List.mem_cons_of_mem _ h)
  have hown : s.vm.findClass RX12 = some m.cls := findClass_of_methodNamed B.named
  have hlocks := B.notSynchronized
  replace hW := Wd_self (sz := s.heap.size) hW
  generalize hAe : Am Y s.heap.size = A at hW hC ⊢
  have hA : ∀ q : Nat, s.heap.size ≤ q → A q := fun q h => by rw [← hAe]; exact Or.inr h
  clear hAe
  have hS : va_S A s.heap s.heap [] := va_S.rf
  obtain ⟨ls, hE, hl⟩ := gm_entry m [.long v0] (n := 5) hargs (Nat.le_of_ble_eq_true rfl)
  rw [hE]
  have hl : lv_has ls 5 [(0, .long v0)] := hl
  show W p l e rm_X12_width s m args below meth c s.heap [] 0 0 (MQ below (va_Qi Kn (BG D cy A Y) A) args s 0 0 A) (F0 m 0 ls [])
  unfold f_X12_width at hf
  refine lv_lload_n hx hb dX12_width_0 rfl (lv_at hl 0 rfl) ?_
  refine lv_lconst (v := 0) hx hb dX12_width_1 (by decide) ?_
  refine W.lcmp hx hb dX12_width_2 ?_
  have j21 : ∀ (y1 : Int64) (H : Heap) (locs : List Loc) (ls : Array Slot), lv_has ls 5 [] → Wd D cy A Y M H → va_S A s.heap H locs → f_X12_width_21 Y M Kn y1 → W p l e rm_X12_width s m args below meth c H locs 0 0 (MQ below (va_Qi Kn (BG D cy A Y) A) args s 0 0 A) (F0 m 21 ls [.long y1]) := by
    intro y1 H locs ls hl hW hS hf
    unfold f_X12_width_21 at hf
    refine lv_lstore_n (lv' := [(2, .long y1)]) hx hb dX12_width_21 rfl hl (by decide) rfl (fun ls hl => ?_)
    refine lv_iconst (v := 1) hx hb dX12_width_22 (by decide +kernel) ?_
    refine lv_istore (lv' := [(4, .int 1), (2, .long y1)]) hx hb dX12_width_23 hl (by decide) rfl (fun ls hl => ?_)
    obtain ⟨n25, hf⟩ := hf
    have lp25 : ∀ (n25 : Nat) (x2 : Int64) (x3 : Int32) (H : Heap) (locs : List Loc) (ls : Array Slot), lv_has ls 5 [(2, .long x2), (4, .int x3)] → Wd D cy A Y M H → va_S A s.heap H locs → LOOP2 (L_X12_width_25 Y M Kn) n25 x2 x3 → W p l e rm_X12_width s m args below meth c H locs 0 0 (MQ below (va_Qi Kn (BG D cy A Y) A) args s 0 0 A) (F0 m 25 ls []) := by
      intro n25
      induction n25 with
      | zero => intro x2 x3 H locs ls hl hW hS hf; exact hf.elim
      | succ n25 ih25 =>
        intro x2 x3 H locs ls hl hW hS hf
        replace hf : L_X12_width_25 Y M Kn x2 x3 (LOOP2 (L_X12_width_25 Y M Kn) n25) := hf
        unfold L_X12_width_25 at hf
        refine lv_lload_n hx hb dX12_width_25 rfl (lv_at hl 0 rfl) ?_
        refine lv_lconst (v := 0) hx hb dX12_width_26 (by decide) ?_
        refine W.lcmp hx hb dX12_width_27 ?_
        have j39 : ∀ (H : Heap) (locs : List Loc) (ls : Array Slot), lv_has ls 5 [(2, .long x2), (4, .int x3)] → Wd D cy A Y M H → va_S A s.heap H locs → f_X12_width_39 Y x2 x3 (LOOP2 (L_X12_width_25 Y M Kn) n25)  → W p l e rm_X12_width s m args below meth c H locs 0 0 (MQ below (va_Qi Kn (BG D cy A Y) A) args s 0 0 A) (F0 m 39 ls []) := by
          intro  H locs ls hl hW hS hf
          unfold f_X12_width_39 at hf
          refine lv_lload_n hx hb dX12_width_39 rfl (lv_at hl 0 rfl) ?_
          refine lv_bipush (v := 7) hx hb dX12_width_40 (by decide +kernel) ?_
          refine lv_lushr hx hb dX12_width_42 rfl ?_
          refine lv_topl (fun x4 ex4 => ?_)
          replace hf := hf x4 ex4
          refine lv_lstore_n (lv' := [(2, .long x4), (4, .int x3)]) hx hb dX12_width_43 rfl hl (by decide) rfl (fun ls hl => ?_)
          obtain ⟨x5, ex5⟩ : ∃ y : Int32, y = x3 + 1 := ⟨_, rfl⟩
          replace hf := hf x5 ex5
          refine lv_iinc (v := x5) (lv' := [(4, .int x5), (2, .long x4)]) hx hb dX12_width_44 hl (k := 1) rfl (by rw [ex5]; rfl) (by decide) rfl (fun ls hl => ?_)
          refine lv_goto (tgt := 25) hx hb dX12_width_47 (by decide) ?_
          exact ih25 _ _ _ _ _ (lv_sub hl [1, 0] rfl) hW hS hf
        refine lv_if_lt (tgt := 39) hx hb dX12_width_28 (by decide) (fun c6 => ?_) (fun c6 => ?_)
        · replace hf := hf.1 (lg_lt.mp c6)
          exact j39  _ _ _ (lv_sub hl [0, 1] rfl) hW hS hf
        · replace hf := hf.2 (fun z => c6 (lg_lt.mpr z))
          refine lv_lload_n hx hb dX12_width_31 rfl (lv_at hl 0 rfl) ?_
          refine lv_ldc2 (v := 127) hx hb hown (hts _ kw_1489) dX12_width_32 ?_
          refine W.lcmp hx hb dX12_width_35 ?_
          refine lv_if_le (tgt := 50) hx hb dX12_width_36 (by decide) (fun c7 => ?_) (fun c7 => ?_)
          · replace hf := hf.1 (lg_le.mp c7)
            refine lv_iload hx hb dX12_width_50 (lv_at hl 1 rfl) ?_
            exact gm_iret hx hb hr hlocks hW hS hf dX12_width_52
          · replace hf := hf.2 (fun z => c7 (lg_le.mpr z))
            exact j39  _ _ _ (lv_sub hl [0, 1] rfl) hW hS hf
    exact lp25 n25 _ _ _ _ _ (lv_sub hl [1, 0] rfl) hW hS hf
  refine lv_if_ge (tgt := 16) hx hb dX12_width_3 (by decide) (fun c8 => ?_) (fun c8 => ?_)
  · replace hf := hf.1 (lg_ge.mp c8)
    refine lv_ldc2 (v := 2) hx hb hown (hts _ kw_1488) dX12_width_16 ?_
    refine lv_lload_n hx hb dX12_width_19 rfl (lv_at hl 0 rfl) ?_
    refine lv_lmul hx hb dX12_width_20 ?_
    exact j21 _ _ _ _ (lv_sub hl [] rfl) hW hS hf
  · replace hf := hf.2 (fun z => c8 (lg_ge.mpr z))
    refine lv_ldc2 (v := -2) hx hb hown (hts _ kw_1487) dX12_width_6 ?_
    refine lv_lload_n hx hb dX12_width_9 rfl (lv_at hl 0 rfl) ?_
    refine lv_lmul hx hb dX12_width_10 ?_
    refine lv_lconst (v := 1) hx hb dX12_width_11 (by decide) ?_
    refine lv_lsub hx hb dX12_width_12 ?_
    refine lv_goto (tgt := 21) hx hb dX12_width_13 (by decide) ?_
    exact j21 _ _ _ _ (lv_sub hl [] rfl) hW hS hf

abbrev rm_X12_body : Room := { frames := 3, cells := 0, slots := 0, locals := 104 }
def f_X12_body_83 (Y : Ly) (Kn : Int32 → Mm → Prop) (M17 : Mm) (x24 : Int32) (y28 : Int32) : Prop :=
  Kn (x24 + y28) M17
def f_X12_body_61 (Y : Ly) (v0 : Nat) (v1 : Int32) (Kn : Int32 → Mm → Prop) (M17 : Mm) (x19 : Int32) (y23 : Int32) : Prop :=
  ∀ x24 : Int32, x24 = x19 + y23 → (∃ b25 : Nat, mR M17 v0 16 = some b25 ∧ (yK Y b25 = 101 ∧ (vp_in v1 (yN Y b25) ∧ (((mI M17 b25 v1.toNatClampNeg) ≤ 0 → (f_X12_body_83 Y Kn M17 x24 0)) ∧ (¬ ((mI M17 b25 v1.toNatClampNeg) ≤ 0) → (∃ b30 : Nat, mR M17 v0 16 = some b30 ∧ (yK Y b30 = 101 ∧ (vp_in v1 (yN Y b30) ∧ (f_X12_body_83 Y Kn M17 x24 (mI M17 b30 v1.toNatClampNeg))))))))))
def f_X12_body (Y : Ly) (v0 : Nat) (v1 : Int32) (M : Mm) (Kn : Int32 → Mm → Prop) : Prop :=
  yK Y v0 = 12 ∧ (∃ b2 : Nat, mR M v0 17 = some b2 ∧ (yK Y b2 = 101 ∧ (vp_in v1 (yN Y b2) ∧ (f_X12_width Y ((mI M b2 v1.toNatClampNeg).toInt64) M (fun r6 M5 => (f_X12_width Y v1.toInt64 M5 (fun r8 M7 => (∃ b9 : Nat, mR M7 v0 14 = some b9 ∧ (yK Y b9 = 101 ∧ (vp_in v1 (yN Y b9) ∧ (f_X12_width Y ((mI M7 b9 v1.toNatClampNeg).toInt64) M7 (fun r13 M12 => (∃ b14 : Nat, mR M12 v0 16 = some b14 ∧ (yK Y b14 = 101 ∧ (vp_in v1 (yN Y b14) ∧ (f_X12_width Y ((mI M12 b14 v1.toNatClampNeg).toInt64) M12 (fun r18 M17 => (∀ x19 : Int32, x19 = (((2 + r6) + r8) + r13) + r18 → (∃ b20 : Nat, mR M17 v0 14 = some b20 ∧ (yK Y b20 = 101 ∧ (vp_in v1 (yN Y b20) ∧ (((mI M17 b20 v1.toNatClampNeg) ≤ 0 → (f_X12_body_61 Y v0 v1 Kn M17 x19 0)) ∧ (¬ ((mI M17 b20 v1.toNatClampNeg) ≤ 0) → (∃ b34 : Nat, mR M17 v0 14 = some b34 ∧ (yK Y b34 = 101 ∧ (vp_in v1 (yN Y b34) ∧ (f_X12_body_61 Y v0 v1 Kn M17 x19 (mI M17 b34 v1.toNatClampNeg))))))))))))))))))))))))))))
set_option maxHeartbeats 4000000 in
set_option maxRecDepth 100000 in
theorem m_X12_body (l : Launch) (D : va_G) (cy : Cy) (tq sz : Nat) (Y : Ly) (v0 : Nat) (v1 : Int32) (M : Mm) (Kn : Int32 → Mm → Prop) : Met l yX12_body (Cond.code yX12_body cX12_body 3 (some .int) :: TT) rm_X12_body (PcG D cy tq [.ref v0, .int v1] sz Y M (f_X12_body Y v0 v1 M Kn)) (va_Qi Kn (BG D cy (Am Y sz) Y) (Am Y sz)) 0 0 (Am Y sz) := by
  refine Met.ofW (cc := cX12_body) (maxL := 3) (ret := (some .int)) (by decide) rfl ?_
  intro p e s m args below meth c s₁ B hml hv
  obtain ⟨hargs, hsz, hW, hK, hC, hf⟩ := hv
  subst hsz
  have hx := B.exec
  have hb := B.bytes
  have hr := B.returns
  have hts : ∀ w ∈ TT, w.before args s = true := fun w h => atoms_spec (ws := Cond.code yX12_body cX12_body 3 (some .int) :: TT) B.pre w (List.mem_cons_of_mem _ h)
  have hown : s.vm.findClass RX12 = some m.cls := findClass_of_methodNamed B.named
  have hlocks := B.notSynchronized
  replace hW := Wd_self (sz := s.heap.size) hW
  generalize hAe : Am Y s.heap.size = A at hW hC ⊢
  have hA : ∀ q : Nat, s.heap.size ≤ q → A q := fun q h => by rw [← hAe]; exact Or.inr h
  clear hAe
  have hS : va_S A s.heap s.heap [] := va_S.rf
  obtain ⟨ls, hE, hl⟩ := gm_entry m [.ref v0, .int v1] (n := 3) hargs (Nat.le_of_ble_eq_true rfl)
  rw [hE]
  have hl : lv_has ls 3 [(0, .ref v0), (1, .int v1)] := hl
  show W p l e rm_X12_body s m args below meth c s.heap [] 0 0 (MQ below (va_Qi Kn (BG D cy A Y) A) args s 0 0 A) (F0 m 0 ls [])
  unfold f_X12_body at hf
  refine lv_iconst (v := 2) hx hb dX12_body_0 (by decide +kernel) ?_
  refine lv_aload_n hx hb dX12_body_1 rfl (lv_at hl 0 rfl) ?_
  obtain ⟨k1, hf⟩ := hf
  obtain ⟨b2, hb2, hf⟩ := hf
  refine gm_getR (C := RX12) (T := TX12) (N := 68) (j := 17) hx hb hts inT_12 hown hK hW k1 (by decide) rfl (by decide) rfl (hts _ kw_1333) rfl dX12_body_2 hb2 ?_
  refine lv_iload_n hx hb dX12_body_5 rfl (lv_at hl 1 rfl) ?_
  obtain ⟨k3, hf⟩ := hf
  obtain ⟨h4, hf⟩ := hf
  refine gm_iald hx hb hK hW k3 h4 dX12_body_6 ?_
  refine lv_i2l hx hb dX12_body_7 rfl ?_
  refine gm_ci (va_runS (As := [.long ((mI M b2 v1.toNatClampNeg).toInt64)]) (rest := [.int 2]) ⟨hx, hb, hml, hown, hts⟩ (m_X12_width l D cy tq _ Y _ _ _) (va_cwS 1 hts (good_S kw_1484 kw_1485 kw_12 kw_1486) rfl rfl rfl (by decide +kernel) ⟨Nat.le_of_ble_eq_true rfl, Nat.le_of_ble_eq_true rfl⟩) (gm_preS hK hW hC hS hA hf) rfl rfl hl.1 rfl (lv_room (Nat.le_of_ble_eq_true rfl)) dX12_body_8 ⟨Nat.le_of_ble_eq_true rfl, Nat.le_of_ble_eq_true rfl⟩) hW hS hA (fun r6 M5 H locs hW hS hf => ?_)
  refine lv_iadd hx hb dX12_body_11 ?_
  refine lv_iload_n hx hb dX12_body_12 rfl (lv_at hl 1 rfl) ?_
  refine lv_i2l hx hb dX12_body_13 rfl ?_
  refine gm_ci (va_runS (As := [.long v1.toInt64]) (rest := [.int (2 + r6)]) ⟨hx, hb, hml, hown, hts⟩ (m_X12_width l D cy tq _ Y _ _ _) (va_cwS 1 hts (good_S kw_1484 kw_1485 kw_12 kw_1486) rfl rfl rfl (by decide +kernel) ⟨Nat.le_of_ble_eq_true rfl, Nat.le_of_ble_eq_true rfl⟩) (gm_preS hK hW hC hS hA hf) rfl rfl hl.1 rfl (lv_room (Nat.le_of_ble_eq_true rfl)) dX12_body_14 ⟨Nat.le_of_ble_eq_true rfl, Nat.le_of_ble_eq_true rfl⟩) hW hS hA (fun r8 M7 H locs hW hS hf => ?_)
  refine lv_iadd hx hb dX12_body_17 ?_
  refine lv_aload_n hx hb dX12_body_18 rfl (lv_at hl 0 rfl) ?_
  obtain ⟨b9, hb9, hf⟩ := hf
  refine gm_getR (C := RX12) (T := TX12) (N := 68) (j := 14) hx hb hts inT_12 hown hK hW k1 (by decide) rfl (by decide) rfl (hts _ kw_1330) rfl dX12_body_19 hb9 ?_
  refine lv_iload_n hx hb dX12_body_22 rfl (lv_at hl 1 rfl) ?_
  obtain ⟨k10, hf⟩ := hf
  obtain ⟨h11, hf⟩ := hf
  refine gm_iald hx hb hK hW k10 h11 dX12_body_23 ?_
  refine lv_i2l hx hb dX12_body_24 rfl ?_
  refine gm_ci (va_runS (As := [.long ((mI M7 b9 v1.toNatClampNeg).toInt64)]) (rest := [.int ((2 + r6) + r8)]) ⟨hx, hb, hml, hown, hts⟩ (m_X12_width l D cy tq _ Y _ _ _) (va_cwS 1 hts (good_S kw_1484 kw_1485 kw_12 kw_1486) rfl rfl rfl (by decide +kernel) ⟨Nat.le_of_ble_eq_true rfl, Nat.le_of_ble_eq_true rfl⟩) (gm_preS hK hW hC hS hA hf) rfl rfl hl.1 rfl (lv_room (Nat.le_of_ble_eq_true rfl)) dX12_body_25 ⟨Nat.le_of_ble_eq_true rfl, Nat.le_of_ble_eq_true rfl⟩) hW hS hA (fun r13 M12 H locs hW hS hf => ?_)
  refine lv_iadd hx hb dX12_body_28 ?_
  refine lv_aload_n hx hb dX12_body_29 rfl (lv_at hl 0 rfl) ?_
  obtain ⟨b14, hb14, hf⟩ := hf
  refine gm_getR (C := RX12) (T := TX12) (N := 68) (j := 16) hx hb hts inT_12 hown hK hW k1 (by decide) rfl (by decide) rfl (hts _ kw_1332) rfl dX12_body_30 hb14 ?_
  refine lv_iload_n hx hb dX12_body_33 rfl (lv_at hl 1 rfl) ?_
  obtain ⟨k15, hf⟩ := hf
  obtain ⟨h16, hf⟩ := hf
  refine gm_iald hx hb hK hW k15 h16 dX12_body_34 ?_
  refine lv_i2l hx hb dX12_body_35 rfl ?_
  refine gm_ci (va_runS (As := [.long ((mI M12 b14 v1.toNatClampNeg).toInt64)]) (rest := [.int (((2 + r6) + r8) + r13)]) ⟨hx, hb, hml, hown, hts⟩ (m_X12_width l D cy tq _ Y _ _ _) (va_cwS 1 hts (good_S kw_1484 kw_1485 kw_12 kw_1486) rfl rfl rfl (by decide +kernel) ⟨Nat.le_of_ble_eq_true rfl, Nat.le_of_ble_eq_true rfl⟩) (gm_preS hK hW hC hS hA hf) rfl rfl hl.1 rfl (lv_room (Nat.le_of_ble_eq_true rfl)) dX12_body_36 ⟨Nat.le_of_ble_eq_true rfl, Nat.le_of_ble_eq_true rfl⟩) hW hS hA (fun r18 M17 H locs hW hS hf => ?_)
  refine lv_iadd hx hb dX12_body_39 ?_
  refine lv_topi (fun x19 ex19 => ?_)
  replace hf := hf x19 ex19
  refine lv_istore_n (lv' := [(2, .int x19), (0, .ref v0), (1, .int v1)]) hx hb dX12_body_40 rfl hl (by decide) rfl (fun ls hl => ?_)
  refine lv_iload_n hx hb dX12_body_41 rfl (lv_at hl 0 rfl) ?_
  refine lv_aload_n hx hb dX12_body_42 rfl (lv_at hl 1 rfl) ?_
  obtain ⟨b20, hb20, hf⟩ := hf
  refine gm_getR (C := RX12) (T := TX12) (N := 68) (j := 14) hx hb hts inT_12 hown hK hW k1 (by decide) rfl (by decide) rfl (hts _ kw_1330) rfl dX12_body_43 hb20 ?_
  refine lv_iload_n hx hb dX12_body_46 rfl (lv_at hl 2 rfl) ?_
  obtain ⟨k21, hf⟩ := hf
  obtain ⟨h22, hf⟩ := hf
  refine gm_iald hx hb hK hW k21 h22 dX12_body_47 ?_
  have j61 : ∀ (y23 : Int32) (H : Heap) (locs : List Loc) (ls : Array Slot), lv_has ls 3 [(0, .ref v0), (1, .int v1)] → Wd D cy A Y M17 H → va_S A s.heap H locs → f_X12_body_61 Y v0 v1 Kn M17 x19 y23 → W p l e rm_X12_body s m args below meth c H locs 0 0 (MQ below (va_Qi Kn (BG D cy A Y) A) args s 0 0 A) (F0 m 61 ls [.int y23, .int x19]) := by
    intro y23 H locs ls hl hW hS hf
    unfold f_X12_body_61 at hf
    refine lv_iadd hx hb dX12_body_61 ?_
    refine lv_topi (fun x24 ex24 => ?_)
    replace hf := hf x24 ex24
    refine lv_istore_n (lv' := [(2, .int x24), (0, .ref v0), (1, .int v1)]) hx hb dX12_body_62 rfl hl (by decide) rfl (fun ls hl => ?_)
    refine lv_iload_n hx hb dX12_body_63 rfl (lv_at hl 0 rfl) ?_
    refine lv_aload_n hx hb dX12_body_64 rfl (lv_at hl 1 rfl) ?_
    obtain ⟨b25, hb25, hf⟩ := hf
    refine gm_getR (C := RX12) (T := TX12) (N := 68) (j := 16) hx hb hts inT_12 hown hK hW k1 (by decide) rfl (by decide) rfl (hts _ kw_1332) rfl dX12_body_65 hb25 ?_
    refine lv_iload_n hx hb dX12_body_68 rfl (lv_at hl 2 rfl) ?_
    obtain ⟨k26, hf⟩ := hf
    obtain ⟨h27, hf⟩ := hf
    refine gm_iald hx hb hK hW k26 h27 dX12_body_69 ?_
    have j83 : ∀ (y28 : Int32) (H : Heap) (locs : List Loc) (ls : Array Slot), lv_has ls 3 [] → Wd D cy A Y M17 H → va_S A s.heap H locs → f_X12_body_83 Y Kn M17 x24 y28 → W p l e rm_X12_body s m args below meth c H locs 0 0 (MQ below (va_Qi Kn (BG D cy A Y) A) args s 0 0 A) (F0 m 83 ls [.int y28, .int x24]) := by
      intro y28 H locs ls hl hW hS hf
      unfold f_X12_body_83 at hf
      refine lv_iadd hx hb dX12_body_83 ?_
      exact gm_iret hx hb hr hlocks hW hS hf dX12_body_84
    refine lv_if_le (tgt := 82) hx hb dX12_body_70 (by decide) (fun c29 => ?_) (fun c29 => ?_)
    · replace hf := hf.1 c29
      refine lv_iconst (v := 0) hx hb dX12_body_82 (by decide +kernel) ?_
      exact j83 _ _ _ _ (lv_sub hl [] rfl) hW hS hf
    · replace hf := hf.2 c29
      refine lv_aload_n hx hb dX12_body_73 rfl (lv_at hl 1 rfl) ?_
      obtain ⟨b30, hb30, hf⟩ := hf
      refine gm_getR (C := RX12) (T := TX12) (N := 68) (j := 16) hx hb hts inT_12 hown hK hW k1 (by decide) rfl (by decide) rfl (hts _ kw_1332) rfl dX12_body_74 hb30 ?_
      refine lv_iload_n hx hb dX12_body_77 rfl (lv_at hl 2 rfl) ?_
      obtain ⟨k31, hf⟩ := hf
      obtain ⟨h32, hf⟩ := hf
      refine gm_iald hx hb hK hW k31 h32 dX12_body_78 ?_
      refine lv_goto (tgt := 83) hx hb dX12_body_79 (by decide) ?_
      exact j83 _ _ _ _ (lv_sub hl [] rfl) hW hS hf
  refine lv_if_le (tgt := 60) hx hb dX12_body_48 (by decide) (fun c33 => ?_) (fun c33 => ?_)
  · replace hf := hf.1 c33
    refine lv_iconst (v := 0) hx hb dX12_body_60 (by decide +kernel) ?_
    exact j61 _ _ _ _ (lv_sub hl [1, 2] rfl) hW hS hf
  · replace hf := hf.2 c33
    refine lv_aload_n hx hb dX12_body_51 rfl (lv_at hl 1 rfl) ?_
    obtain ⟨b34, hb34, hf⟩ := hf
    refine gm_getR (C := RX12) (T := TX12) (N := 68) (j := 14) hx hb hts inT_12 hown hK hW k1 (by decide) rfl (by decide) rfl (hts _ kw_1330) rfl dX12_body_52 hb34 ?_
    refine lv_iload_n hx hb dX12_body_55 rfl (lv_at hl 2 rfl) ?_
    obtain ⟨k35, hf⟩ := hf
    obtain ⟨h36, hf⟩ := hf
    refine gm_iald hx hb hK hW k35 h36 dX12_body_56 ?_
    refine lv_goto (tgt := 61) hx hb dX12_body_57 (by decide) ?_
    exact j61 _ _ _ _ (lv_sub hl [1, 2] rfl) hW hS hf

abbrev rm_X12_weight : Room := { frames := 4, cells := 0, slots := 0, locals := 126 }
def L_X12_weight_4 (Y : Ly) (v0 : Nat) (Kn : Int32 → Mm → Prop) (x1 : Int32) (x2 : Int32) (M3 : Mm) (again4 : Int32 → Int32 → Mm → Prop) : Prop :=
  yK Y v0 = 12 ∧ (((mI M3 v0 12) ≤ x2 → (Kn x1 M3)) ∧ (¬ ((mI M3 v0 12) ≤ x2) → (f_X12_body Y v0 x2 M3 (fun r7 M6 => (f_X12_width Y r7.toInt64 M6 (fun r9 M8 => (f_X12_body Y v0 x2 M8 (fun r11 M10 => (∀ x12 : Int32, x12 = x1 + (r9 + r11) → (∀ x13 : Int32, x13 = x2 + 1 → (again4 x12 x13 M10)))))))))))
def f_X12_weight (Y : Ly) (v0 : Nat) (M : Mm) (Kn : Int32 → Mm → Prop) : Prop :=
  ∃ n, LOOP3 (L_X12_weight_4 Y v0 Kn) n 0 0 M
set_option maxHeartbeats 4000000 in
set_option maxRecDepth 100000 in
theorem m_X12_weight (l : Launch) (D : va_G) (cy : Cy) (tq sz : Nat) (Y : Ly) (v0 : Nat) (M : Mm) (Kn : Int32 → Mm → Prop) : Met l yX12_weight (Cond.code yX12_weight cX12_weight 3 (some .int) :: TT) rm_X12_weight (PcG D cy tq [.ref v0] sz Y M (f_X12_weight Y v0 M Kn)) (va_Qi Kn (BG D cy (Am Y sz) Y) (Am Y sz)) 0 0 (Am Y sz) := by
  refine Met.ofW (cc := cX12_weight) (maxL := 3) (ret := (some .int)) (by decide) rfl ?_
  intro p e s m args below meth c s₁ B hml hv
  obtain ⟨hargs, hsz, hW, hK, hC, hf⟩ := hv
  subst hsz
  have hx := B.exec
  have hb := B.bytes
  have hr := B.returns
  have hts : ∀ w ∈ TT, w.before args s = true := fun w h => atoms_spec (ws := Cond.code yX12_weight cX12_weight 3 (some .int) :: TT) B.pre w (List.mem_cons_of_mem _ h)
  have hown : s.vm.findClass RX12 = some m.cls := findClass_of_methodNamed B.named
  have hlocks := B.notSynchronized
  replace hW := Wd_self (sz := s.heap.size) hW
  generalize hAe : Am Y s.heap.size = A at hW hC ⊢
  have hA : ∀ q : Nat, s.heap.size ≤ q → A q := fun q h => by rw [← hAe]; exact Or.inr h
  clear hAe
  have hS : va_S A s.heap s.heap [] := va_S.rf
  obtain ⟨ls, hE, hl⟩ := gm_entry m [.ref v0] (n := 3) hargs (Nat.le_of_ble_eq_true rfl)
  rw [hE]
  have hl : lv_has ls 3 [(0, .ref v0)] := hl
  show W p l e rm_X12_weight s m args below meth c s.heap [] 0 0 (MQ below (va_Qi Kn (BG D cy A Y) A) args s 0 0 A) (F0 m 0 ls [])
  unfold f_X12_weight at hf
  refine lv_iconst (v := 0) hx hb dX12_weight_0 (by decide +kernel) ?_
  refine lv_istore_n (lv' := [(1, .int 0), (0, .ref v0)]) hx hb dX12_weight_1 rfl hl (by decide) rfl (fun ls hl => ?_)
  refine lv_iconst (v := 0) hx hb dX12_weight_2 (by decide +kernel) ?_
  refine lv_istore_n (lv' := [(2, .int 0), (1, .int 0), (0, .ref v0)]) hx hb dX12_weight_3 rfl hl (by decide) rfl (fun ls hl => ?_)
  obtain ⟨n4, hf⟩ := hf
  have lp4 : ∀ (n4 : Nat) (x1 : Int32) (x2 : Int32) (M3 : Mm) (H : Heap) (locs : List Loc) (ls : Array Slot), lv_has ls 3 [(0, .ref v0), (1, .int x1), (2, .int x2)] → Wd D cy A Y M3 H → va_S A s.heap H locs → LOOP3 (L_X12_weight_4 Y v0 Kn) n4 x1 x2 M3 → W p l e rm_X12_weight s m args below meth c H locs 0 0 (MQ below (va_Qi Kn (BG D cy A Y) A) args s 0 0 A) (F0 m 4 ls []) := by
    intro n4
    induction n4 with
    | zero => intro x1 x2 M3 H locs ls hl hW hS hf; exact hf.elim
    | succ n4 ih4 =>
      intro x1 x2 M3 H locs ls hl hW hS hf
      replace hf : L_X12_weight_4 Y v0 Kn x1 x2 M3 (LOOP3 (L_X12_weight_4 Y v0 Kn) n4) := hf
      unfold L_X12_weight_4 at hf
      refine lv_iload_n hx hb dX12_weight_4 rfl (lv_at hl 2 rfl) ?_
      refine lv_aload_n hx hb dX12_weight_5 rfl (lv_at hl 0 rfl) ?_
      obtain ⟨k4, hf⟩ := hf
      refine gm_getI (C := RX12) (T := TX12) (N := 68) (j := 12) hx hb hts inT_12 hown hK hW k4 (by decide) rfl (by decide) rfl (hts _ kw_1328) rfl dX12_weight_6 ?_
      refine lv_icmp_ge (tgt := 36) hx hb dX12_weight_9 (by decide) (fun c5 => ?_) (fun c5 => ?_)
      · replace hf := hf.1 c5
        refine lv_iload_n hx hb dX12_weight_36 rfl (lv_at hl 1 rfl) ?_
        exact gm_iret hx hb hr hlocks hW hS hf dX12_weight_37
      · replace hf := hf.2 c5
        refine lv_iload_n hx hb dX12_weight_12 rfl (lv_at hl 1 rfl) ?_
        refine lv_aload_n hx hb dX12_weight_13 rfl (lv_at hl 0 rfl) ?_
        refine lv_iload_n hx hb dX12_weight_14 rfl (lv_at hl 2 rfl) ?_
        refine gm_ci (va_runV (As := [.int x2]) (rest := [.int x1]) ⟨hx, hb, hml, hown, hts⟩ (m_X12_body l D cy tq _ Y _ _ _ _) (cwV 1 hts (good_V kw_1481 kw_1482 kw_1825 kw_12 kw_1483) rfl rfl rfl (by decide +kernel) ⟨Nat.le_of_ble_eq_true rfl, Nat.le_of_ble_eq_true rfl⟩) (gm_preV hK hW hC hS hA k4 (by decide) (q := (RX12, TX12, 68)) rfl rfl hf) rfl rfl hl.1 rfl (lv_room (Nat.le_of_ble_eq_true rfl)) dX12_weight_15 ⟨Nat.le_of_ble_eq_true rfl, Nat.le_of_ble_eq_true rfl⟩) hW hS hA (fun r7 M6 H locs hW hS hf => ?_)
        refine lv_i2l hx hb dX12_weight_18 rfl ?_
        refine gm_ci (va_runS (As := [.long r7.toInt64]) (rest := [.int x1]) ⟨hx, hb, hml, hown, hts⟩ (m_X12_width l D cy tq _ Y _ _ _) (va_cwS 1 hts (good_S kw_1484 kw_1485 kw_12 kw_1486) rfl rfl rfl (by decide +kernel) ⟨Nat.le_of_ble_eq_true rfl, Nat.le_of_ble_eq_true rfl⟩) (gm_preS hK hW hC hS hA hf) rfl rfl hl.1 rfl (lv_room (Nat.le_of_ble_eq_true rfl)) dX12_weight_19 ⟨Nat.le_of_ble_eq_true rfl, Nat.le_of_ble_eq_true rfl⟩) hW hS hA (fun r9 M8 H locs hW hS hf => ?_)
        refine lv_aload_n hx hb dX12_weight_22 rfl (lv_at hl 0 rfl) ?_
        refine lv_iload_n hx hb dX12_weight_23 rfl (lv_at hl 2 rfl) ?_
        refine gm_ci (va_runV (As := [.int x2]) (rest := [.int r9, .int x1]) ⟨hx, hb, hml, hown, hts⟩ (m_X12_body l D cy tq _ Y _ _ _ _) (cwV 1 hts (good_V kw_1481 kw_1482 kw_1825 kw_12 kw_1483) rfl rfl rfl (by decide +kernel) ⟨Nat.le_of_ble_eq_true rfl, Nat.le_of_ble_eq_true rfl⟩) (gm_preV hK hW hC hS hA k4 (by decide) (q := (RX12, TX12, 68)) rfl rfl hf) rfl rfl hl.1 rfl (lv_room (Nat.le_of_ble_eq_true rfl)) dX12_weight_24 ⟨Nat.le_of_ble_eq_true rfl, Nat.le_of_ble_eq_true rfl⟩) hW hS hA (fun r11 M10 H locs hW hS hf => ?_)
        refine lv_iadd hx hb dX12_weight_27 ?_
        refine lv_iadd hx hb dX12_weight_28 ?_
        refine lv_topi (fun x12 ex12 => ?_)
        replace hf := hf x12 ex12
        refine lv_istore_n (lv' := [(1, .int x12), (0, .ref v0), (2, .int x2)]) hx hb dX12_weight_29 rfl hl (by decide) rfl (fun ls hl => ?_)
        obtain ⟨x13, ex13⟩ : ∃ y : Int32, y = x2 + 1 := ⟨_, rfl⟩
        replace hf := hf x13 ex13
        refine lv_iinc (v := x13) (lv' := [(2, .int x13), (1, .int x12), (0, .ref v0)]) hx hb dX12_weight_30 hl (k := 2) rfl (by rw [ex13]; rfl) (by decide) rfl (fun ls hl => ?_)
        refine lv_goto (tgt := 4) hx hb dX12_weight_33 (by decide) ?_
        exact ih4 _ _ _ _ _ _ (lv_sub hl [2, 1, 0] rfl) hW hS hf
  exact lp4 n4 _ _ _ _ _ _ (lv_sub hl [2, 1, 0] rfl) hW hS hf

abbrev rm_X12_record : Room := { frames := 5, cells := 0, slots := 0, locals := 148 }
def L_X12_record_93 (Y : Ly) (v0 : Nat) (v1 : Int32) (v2 : Int64) (v4 : Int32) (v5 : Int64) (v7 : Int32) (v8 : Int32) (Kn : Int32 → Mm → Prop) (x5 : Int32) (x6 : Int32) (M7 : Mm) (again93 : Int32 → Mm → Prop) : Prop :=
  (v1 ≤ x6 → (f_X12_weight Y v0 M7 (fun r10 M9 => ((r10 ≤ 16000 → (Kn (mI M9 v0 12) M9)) ∧ (¬ (r10 ≤ 16000) → (∀ M12 : Mm, M12 = sI M9 v0 (m1 (mI M9 v0) 12 x5) → (∀ M13 : Mm, M13 = sI M12 v0 (m1 (mI M12 v0) 0 2) → (Kn 0 M13)))))))) ∧ (¬ (v1 ≤ x6) → (∃ b14 : Nat, mR M7 v0 13 = some b14 ∧ (yK Y b14 = 102 ∧ (vp_in (mI M7 v0 12) (yN Y b14) ∧ (∀ M17 : Mm, M17 = sJ M7 b14 (m1 (mJ M7 b14) (mI M7 v0 12).toNatClampNeg (v2 + x6.toInt64)) → (∃ b18 : Nat, mR M17 v0 14 = some b18 ∧ (yK Y b18 = 101 ∧ (vp_in (mI M17 v0 12) (yN Y b18) ∧ (∀ M21 : Mm, M21 = sI M17 b18 (m1 (mI M17 b18) (mI M17 v0 12).toNatClampNeg v4) → (∃ b22 : Nat, mR M21 v0 15 = some b22 ∧ (yK Y b22 = 102 ∧ (vp_in (mI M21 v0 12) (yN Y b22) ∧ (∀ M25 : Mm, M25 = sJ M21 b22 (m1 (mJ M21 b22) (mI M21 v0 12).toNatClampNeg (v5 + x6.toInt64)) → (∃ b26 : Nat, mR M25 v0 16 = some b26 ∧ (yK Y b26 = 101 ∧ (vp_in (mI M25 v0 12) (yN Y b26) ∧ (∀ M29 : Mm, M29 = sI M25 b26 (m1 (mI M25 b26) (mI M25 v0 12).toNatClampNeg v7) → (∃ b30 : Nat, mR M29 v0 17 = some b30 ∧ (yK Y b30 = 101 ∧ (vp_in (mI M29 v0 12) (yN Y b30) ∧ (∀ M33 : Mm, M33 = sI M29 b30 (m1 (mI M29 b30) (mI M29 v0 12).toNatClampNeg (v8 + x6)) → (∀ M34 : Mm, M34 = sI M33 v0 (m1 (mI M33 v0) 12 ((mI M33 v0 12) + 1)) → (∀ x35 : Int32, x35 = x6 + 1 → (again93 x35 M34))))))))))))))))))))))))
def f_X12_record_72 (Y : Ly) (v0 : Nat) (v1 : Int32) (v2 : Int64) (v4 : Int32) (v5 : Int64) (v7 : Int32) (v8 : Int32) (M : Mm) (Kn : Int32 → Mm → Prop) (y1 : Int32) : Prop :=
  yK Y v0 = 12 ∧ (∀ M3 : Mm, M3 = sI M v0 (m1 (mI M v0) 0 y1) → (((mI M3 v0 0) ≤ 0 → (∀ x5 : Int32, x5 = mI M3 v0 12 → (∃ n, LOOP2 (L_X12_record_93 Y v0 v1 v2 v4 v5 v7 v8 Kn x5) n 0 M3))) ∧ (¬ ((mI M3 v0 0) ≤ 0) → (Kn 0 M3))))
def f_X12_record_51 (Y : Ly) (v0 : Nat) (v1 : Int32) (v2 : Int64) (v4 : Int32) (v5 : Int64) (v7 : Int32) (v8 : Int32) (M : Mm) (Kn : Int32 → Mm → Prop) : Prop :=
  f_X12_record_72 Y v0 v1 v2 v4 v5 v7 v8 M Kn 1
def f_X12_record (Y : Ly) (v0 : Nat) (v1 : Int32) (v2 : Int64) (v4 : Int32) (v5 : Int64) (v7 : Int32) (v8 : Int32) (M : Mm) (Kn : Int32 → Mm → Prop) : Prop :=
  (v1 < 1 → (f_X12_record_51 Y v0 v1 v2 v4 v5 v7 v8 M Kn)) ∧ (¬ (v1 < 1) → ((100 < v1 → (f_X12_record_51 Y v0 v1 v2 v4 v5 v7 v8 M Kn)) ∧ (¬ (100 < v1) → ((v4 < (-1) → (f_X12_record_51 Y v0 v1 v2 v4 v5 v7 v8 M Kn)) ∧ (¬ (v4 < (-1)) → ((8 < v4 → (f_X12_record_51 Y v0 v1 v2 v4 v5 v7 v8 M Kn)) ∧ (¬ (8 < v4) → ((v7 < (-1) → (f_X12_record_51 Y v0 v1 v2 v4 v5 v7 v8 M Kn)) ∧ (¬ (v7 < (-1)) → ((300 < v7 → (f_X12_record_51 Y v0 v1 v2 v4 v5 v7 v8 M Kn)) ∧ (¬ (300 < v7) → ((v8 < 0 → (f_X12_record_51 Y v0 v1 v2 v4 v5 v7 v8 M Kn)) ∧ (¬ (v8 < 0) → ((v8 ≤ 1000000 → (yK Y v0 = 12 ∧ ((((mI M v0 12) + v1) ≤ 1000 → (f_X12_record_72 Y v0 v1 v2 v4 v5 v7 v8 M Kn 0)) ∧ (¬ (((mI M v0 12) + v1) ≤ 1000) → (f_X12_record_72 Y v0 v1 v2 v4 v5 v7 v8 M Kn 2))))) ∧ (¬ (v8 ≤ 1000000) → (f_X12_record_51 Y v0 v1 v2 v4 v5 v7 v8 M Kn))))))))))))))))
set_option maxHeartbeats 4000000 in
set_option maxRecDepth 100000 in
theorem m_X12_record (l : Launch) (D : va_G) (cy : Cy) (tq sz : Nat) (Y : Ly) (v0 : Nat) (v1 : Int32) (v2 : Int64) (v4 : Int32) (v5 : Int64) (v7 : Int32) (v8 : Int32) (M : Mm) (Kn : Int32 → Mm → Prop) : Met l yX12_record (Cond.code yX12_record cX12_record 11 (some .int) :: TT) rm_X12_record (PcG D cy tq [.ref v0, .int v1, .long v2, .int v4, .long v5, .int v7, .int v8] sz Y M (f_X12_record Y v0 v1 v2 v4 v5 v7 v8 M Kn)) (va_Qi Kn (BG D cy (Am Y sz) Y) (Am Y sz)) 0 0 (Am Y sz) := by
  refine Met.ofW (cc := cX12_record) (maxL := 11) (ret := (some .int)) (by decide) rfl ?_
  intro p e s m args below meth c s₁ B hml hv
  obtain ⟨hargs, hsz, hW, hK, hC, hf⟩ := hv
  subst hsz
  have hx := B.exec
  have hb := B.bytes
  have hr := B.returns
  have hts : ∀ w ∈ TT, w.before args s = true := fun w h => atoms_spec (ws := Cond.code yX12_record cX12_record 11 (some .int) :: TT) B.pre w (List.mem_cons_of_mem _ h)
  have hown : s.vm.findClass RX12 = some m.cls := findClass_of_methodNamed B.named
  have hlocks := B.notSynchronized
  replace hW := Wd_self (sz := s.heap.size) hW
  generalize hAe : Am Y s.heap.size = A at hW hC ⊢
  have hA : ∀ q : Nat, s.heap.size ≤ q → A q := fun q h => by rw [← hAe]; exact Or.inr h
  clear hAe
  have hS : va_S A s.heap s.heap [] := va_S.rf
  obtain ⟨ls, hE, hl⟩ := gm_entry m [.ref v0, .int v1, .long v2, .int v4, .long v5, .int v7, .int v8] (n := 11) hargs (Nat.le_of_ble_eq_true rfl)
  rw [hE]
  have hl : lv_has ls 11 [(0, .ref v0), (1, .int v1), (2, .long v2), (4, .int v4), (5, .long v5), (7, .int v7), (8, .int v8)] := hl
  show W p l e rm_X12_record s m args below meth c s.heap [] 0 0 (MQ below (va_Qi Kn (BG D cy A Y) A) args s 0 0 A) (F0 m 0 ls [])
  unfold f_X12_record at hf
  refine lv_aload_n hx hb dX12_record_0 rfl (lv_at hl 0 rfl) ?_
  refine lv_iload_n hx hb dX12_record_1 rfl (lv_at hl 1 rfl) ?_
  refine lv_iconst (v := 1) hx hb dX12_record_2 (by decide +kernel) ?_
  have j72 : ∀ (y1 : Int32) (H : Heap) (locs : List Loc) (ls : Array Slot), lv_has ls 11 [(0, .ref v0), (1, .int v1), (2, .long v2), (4, .int v4), (5, .long v5), (7, .int v7), (8, .int v8)] → Wd D cy A Y M H → va_S A s.heap H locs → f_X12_record_72 Y v0 v1 v2 v4 v5 v7 v8 M Kn y1 → W p l e rm_X12_record s m args below meth c H locs 0 0 (MQ below (va_Qi Kn (BG D cy A Y) A) args s 0 0 A) (F0 m 72 ls [.int y1, .ref v0]) := by
    intro y1 H locs ls hl hW hS hf
    unfold f_X12_record_72 at hf
    obtain ⟨k2, hf⟩ := hf
    refine gm_putI (C := RX12) (T := TX12) (N := 68) (j := 0) hx hb hts inT_12 tyX12 tyX12_ok nmX12 hown hK hW hS k2 (by decide) rfl (by decide) rfl (hts _ kw_1316) rfl rfl rfl rfl dX12_record_72 (fun H locs M3 eM3 hW hS => ?_)
    replace hf := hf M3 eM3
    refine lv_aload_n hx hb dX12_record_75 rfl (lv_at hl 0 rfl) ?_
    refine gm_getI (C := RX12) (T := TX12) (N := 68) (j := 0) hx hb hts inT_12 hown hK hW k2 (by decide) rfl (by decide) rfl (hts _ kw_1316) rfl dX12_record_76 ?_
    refine lv_if_le (tgt := 84) hx hb dX12_record_79 (by decide) (fun c4 => ?_) (fun c4 => ?_)
    · replace hf := hf.1 c4
      refine lv_aload_n hx hb dX12_record_84 rfl (lv_at hl 0 rfl) ?_
      refine gm_getI (C := RX12) (T := TX12) (N := 68) (j := 12) hx hb hts inT_12 hown hK hW k2 (by decide) rfl (by decide) rfl (hts _ kw_1328) rfl dX12_record_85 ?_
      refine lv_topi (fun x5 ex5 => ?_)
      replace hf := hf x5 ex5
      refine lv_istore (lv' := [(9, .int x5), (0, .ref v0), (1, .int v1), (2, .long v2), (4, .int v4), (5, .long v5), (7, .int v7), (8, .int v8)]) hx hb dX12_record_88 hl (by decide) rfl (fun ls hl => ?_)
      refine lv_iconst (v := 0) hx hb dX12_record_90 (by decide +kernel) ?_
      refine lv_istore (lv' := [(10, .int 0), (9, .int x5), (0, .ref v0), (1, .int v1), (2, .long v2), (4, .int v4), (5, .long v5), (7, .int v7), (8, .int v8)]) hx hb dX12_record_91 hl (by decide) rfl (fun ls hl => ?_)
      obtain ⟨n93, hf⟩ := hf
      have lp93 : ∀ (n93 : Nat) (x6 : Int32) (M7 : Mm) (H : Heap) (locs : List Loc) (ls : Array Slot), lv_has ls 11 [(0, .ref v0), (1, .int v1), (2, .long v2), (4, .int v4), (5, .long v5), (7, .int v7), (8, .int v8), (9, .int x5), (10, .int x6)] → Wd D cy A Y M7 H → va_S A s.heap H locs → LOOP2 (L_X12_record_93 Y v0 v1 v2 v4 v5 v7 v8 Kn x5) n93 x6 M7 → W p l e rm_X12_record s m args below meth c H locs 0 0 (MQ below (va_Qi Kn (BG D cy A Y) A) args s 0 0 A) (F0 m 93 ls []) := by
        intro n93
        induction n93 with
        | zero => intro x6 M7 H locs ls hl hW hS hf; exact hf.elim
        | succ n93 ih93 =>
          intro x6 M7 H locs ls hl hW hS hf
          replace hf : L_X12_record_93 Y v0 v1 v2 v4 v5 v7 v8 Kn x5 x6 M7 (LOOP2 (L_X12_record_93 Y v0 v1 v2 v4 v5 v7 v8 Kn x5) n93) := hf
          unfold L_X12_record_93 at hf
          refine lv_iload hx hb dX12_record_93 (lv_at hl 8 rfl) ?_
          refine lv_iload_n hx hb dX12_record_95 rfl (lv_at hl 1 rfl) ?_
          refine lv_icmp_ge (tgt := 180) hx hb dX12_record_96 (by decide) (fun c8 => ?_) (fun c8 => ?_)
          · replace hf := hf.1 c8
            refine lv_aload_n hx hb dX12_record_180 rfl (lv_at hl 0 rfl) ?_
            refine gm_ci (va_runV (As := []) (rest := []) ⟨hx, hb, hml, hown, hts⟩ (m_X12_weight l D cy tq _ Y _ _ _) (cwV 0 hts (good_V kw_1478 kw_1479 kw_1824 kw_12 kw_1480) rfl rfl rfl (by decide +kernel) ⟨Nat.le_of_ble_eq_true rfl, Nat.le_of_ble_eq_true rfl⟩) (gm_preV hK hW hC hS hA k2 (by decide) (q := (RX12, TX12, 68)) rfl rfl hf) rfl rfl hl.1 rfl (lv_room (Nat.le_of_ble_eq_true rfl)) dX12_record_181 ⟨Nat.le_of_ble_eq_true rfl, Nat.le_of_ble_eq_true rfl⟩) hW hS hA (fun r10 M9 H locs hW hS hf => ?_)
            refine lv_sipush (v := 16000) hx hb dX12_record_184 (by decide +kernel) ?_
            refine lv_icmp_le (tgt := 203) hx hb dX12_record_187 (by decide) (fun c11 => ?_) (fun c11 => ?_)
            · replace hf := hf.1 c11
              refine lv_aload_n hx hb dX12_record_203 rfl (lv_at hl 0 rfl) ?_
              refine gm_getI (C := RX12) (T := TX12) (N := 68) (j := 12) hx hb hts inT_12 hown hK hW k2 (by decide) rfl (by decide) rfl (hts _ kw_1328) rfl dX12_record_204 ?_
              exact gm_iret hx hb hr hlocks hW hS hf dX12_record_207
            · replace hf := hf.2 c11
              refine lv_aload_n hx hb dX12_record_190 rfl (lv_at hl 0 rfl) ?_
              refine lv_iload hx hb dX12_record_191 (lv_at hl 7 rfl) ?_
              refine gm_putI (C := RX12) (T := TX12) (N := 68) (j := 12) hx hb hts inT_12 tyX12 tyX12_ok nmX12 hown hK hW hS k2 (by decide) rfl (by decide) rfl (hts _ kw_1328) rfl rfl rfl rfl dX12_record_193 (fun H locs M12 eM12 hW hS => ?_)
              replace hf := hf M12 eM12
              refine lv_aload_n hx hb dX12_record_196 rfl (lv_at hl 0 rfl) ?_
              refine lv_iconst (v := 2) hx hb dX12_record_197 (by decide +kernel) ?_
              refine gm_putI (C := RX12) (T := TX12) (N := 68) (j := 0) hx hb hts inT_12 tyX12 tyX12_ok nmX12 hown hK hW hS k2 (by decide) rfl (by decide) rfl (hts _ kw_1316) rfl rfl rfl rfl dX12_record_198 (fun H locs M13 eM13 hW hS => ?_)
              replace hf := hf M13 eM13
              refine lv_iconst (v := 0) hx hb dX12_record_201 (by decide +kernel) ?_
              exact gm_iret hx hb hr hlocks hW hS hf dX12_record_202
          · replace hf := hf.2 c8
            refine lv_aload_n hx hb dX12_record_99 rfl (lv_at hl 0 rfl) ?_
            obtain ⟨b14, hb14, hf⟩ := hf
            refine gm_getR (C := RX12) (T := TX12) (N := 68) (j := 13) hx hb hts inT_12 hown hK hW k2 (by decide) rfl (by decide) rfl (hts _ kw_1329) rfl dX12_record_100 hb14 ?_
            refine lv_aload_n hx hb dX12_record_103 rfl (lv_at hl 0 rfl) ?_
            refine gm_getI (C := RX12) (T := TX12) (N := 68) (j := 12) hx hb hts inT_12 hown hK hW k2 (by decide) rfl (by decide) rfl (hts _ kw_1328) rfl dX12_record_104 ?_
            refine lv_lload_n hx hb dX12_record_107 rfl (lv_at hl 2 rfl) ?_
            refine lv_iload hx hb dX12_record_108 (lv_at hl 8 rfl) ?_
            refine lv_i2l hx hb dX12_record_110 rfl ?_
            refine lv_ladd hx hb dX12_record_111 ?_
            obtain ⟨k15, hf⟩ := hf
            obtain ⟨h16, hf⟩ := hf
            refine gm_last hx hb hK hW hS k15 h16 dX12_record_112 (fun H locs M17 eM17 hW hS => ?_)
            replace hf := hf M17 eM17
            refine lv_aload_n hx hb dX12_record_113 rfl (lv_at hl 0 rfl) ?_
            obtain ⟨b18, hb18, hf⟩ := hf
            refine gm_getR (C := RX12) (T := TX12) (N := 68) (j := 14) hx hb hts inT_12 hown hK hW k2 (by decide) rfl (by decide) rfl (hts _ kw_1330) rfl dX12_record_114 hb18 ?_
            refine lv_aload_n hx hb dX12_record_117 rfl (lv_at hl 0 rfl) ?_
            refine gm_getI (C := RX12) (T := TX12) (N := 68) (j := 12) hx hb hts inT_12 hown hK hW k2 (by decide) rfl (by decide) rfl (hts _ kw_1328) rfl dX12_record_118 ?_
            refine lv_iload hx hb dX12_record_121 (lv_at hl 3 rfl) ?_
            obtain ⟨k19, hf⟩ := hf
            obtain ⟨h20, hf⟩ := hf
            refine gm_iast hx hb hK hW hS k19 h20 dX12_record_123 (fun H locs M21 eM21 hW hS => ?_)
            replace hf := hf M21 eM21
            refine lv_aload_n hx hb dX12_record_124 rfl (lv_at hl 0 rfl) ?_
            obtain ⟨b22, hb22, hf⟩ := hf
            refine gm_getR (C := RX12) (T := TX12) (N := 68) (j := 15) hx hb hts inT_12 hown hK hW k2 (by decide) rfl (by decide) rfl (hts _ kw_1331) rfl dX12_record_125 hb22 ?_
            refine lv_aload_n hx hb dX12_record_128 rfl (lv_at hl 0 rfl) ?_
            refine gm_getI (C := RX12) (T := TX12) (N := 68) (j := 12) hx hb hts inT_12 hown hK hW k2 (by decide) rfl (by decide) rfl (hts _ kw_1328) rfl dX12_record_129 ?_
            refine lv_lload hx hb dX12_record_132 (lv_at hl 4 rfl) ?_
            refine lv_iload hx hb dX12_record_134 (lv_at hl 8 rfl) ?_
            refine lv_i2l hx hb dX12_record_136 rfl ?_
            refine lv_ladd hx hb dX12_record_137 ?_
            obtain ⟨k23, hf⟩ := hf
            obtain ⟨h24, hf⟩ := hf
            refine gm_last hx hb hK hW hS k23 h24 dX12_record_138 (fun H locs M25 eM25 hW hS => ?_)
            replace hf := hf M25 eM25
            refine lv_aload_n hx hb dX12_record_139 rfl (lv_at hl 0 rfl) ?_
            obtain ⟨b26, hb26, hf⟩ := hf
            refine gm_getR (C := RX12) (T := TX12) (N := 68) (j := 16) hx hb hts inT_12 hown hK hW k2 (by decide) rfl (by decide) rfl (hts _ kw_1332) rfl dX12_record_140 hb26 ?_
            refine lv_aload_n hx hb dX12_record_143 rfl (lv_at hl 0 rfl) ?_
            refine gm_getI (C := RX12) (T := TX12) (N := 68) (j := 12) hx hb hts inT_12 hown hK hW k2 (by decide) rfl (by decide) rfl (hts _ kw_1328) rfl dX12_record_144 ?_
            refine lv_iload hx hb dX12_record_147 (lv_at hl 5 rfl) ?_
            obtain ⟨k27, hf⟩ := hf
            obtain ⟨h28, hf⟩ := hf
            refine gm_iast hx hb hK hW hS k27 h28 dX12_record_149 (fun H locs M29 eM29 hW hS => ?_)
            replace hf := hf M29 eM29
            refine lv_aload_n hx hb dX12_record_150 rfl (lv_at hl 0 rfl) ?_
            obtain ⟨b30, hb30, hf⟩ := hf
            refine gm_getR (C := RX12) (T := TX12) (N := 68) (j := 17) hx hb hts inT_12 hown hK hW k2 (by decide) rfl (by decide) rfl (hts _ kw_1333) rfl dX12_record_151 hb30 ?_
            refine lv_aload_n hx hb dX12_record_154 rfl (lv_at hl 0 rfl) ?_
            refine gm_getI (C := RX12) (T := TX12) (N := 68) (j := 12) hx hb hts inT_12 hown hK hW k2 (by decide) rfl (by decide) rfl (hts _ kw_1328) rfl dX12_record_155 ?_
            refine lv_iload hx hb dX12_record_158 (lv_at hl 6 rfl) ?_
            refine lv_iload hx hb dX12_record_160 (lv_at hl 8 rfl) ?_
            refine lv_iadd hx hb dX12_record_162 ?_
            obtain ⟨k31, hf⟩ := hf
            obtain ⟨h32, hf⟩ := hf
            refine gm_iast hx hb hK hW hS k31 h32 dX12_record_163 (fun H locs M33 eM33 hW hS => ?_)
            replace hf := hf M33 eM33
            refine lv_aload_n hx hb dX12_record_164 rfl (lv_at hl 0 rfl) ?_
            refine lv_dup hx hb dX12_record_165 rfl ?_
            refine gm_getI (C := RX12) (T := TX12) (N := 68) (j := 12) hx hb hts inT_12 hown hK hW k2 (by decide) rfl (by decide) rfl (hts _ kw_1328) rfl dX12_record_166 ?_
            refine lv_iconst (v := 1) hx hb dX12_record_169 (by decide +kernel) ?_
            refine lv_iadd hx hb dX12_record_170 ?_
            refine gm_putI (C := RX12) (T := TX12) (N := 68) (j := 12) hx hb hts inT_12 tyX12 tyX12_ok nmX12 hown hK hW hS k2 (by decide) rfl (by decide) rfl (hts _ kw_1328) rfl rfl rfl rfl dX12_record_171 (fun H locs M34 eM34 hW hS => ?_)
            replace hf := hf M34 eM34
            obtain ⟨x35, ex35⟩ : ∃ y : Int32, y = x6 + 1 := ⟨_, rfl⟩
            replace hf := hf x35 ex35
            refine lv_iinc (v := x35) (lv' := [(10, .int x35), (0, .ref v0), (1, .int v1), (2, .long v2), (4, .int v4), (5, .long v5), (7, .int v7), (8, .int v8), (9, .int x5)]) hx hb dX12_record_174 hl (k := 8) rfl (by rw [ex35]; rfl) (by decide) rfl (fun ls hl => ?_)
            refine lv_goto (tgt := 93) hx hb dX12_record_177 (by decide) ?_
            exact ih93 _ _ _ _ _ (lv_sub hl [1, 2, 3, 4, 5, 6, 7, 8, 0] rfl) hW hS hf
      exact lp93 n93 _ _ _ _ _ (lv_sub hl [2, 3, 4, 5, 6, 7, 8, 1, 0] rfl) hW hS hf
    · replace hf := hf.2 c4
      refine lv_iconst (v := 0) hx hb dX12_record_82 (by decide +kernel) ?_
      exact gm_iret hx hb hr hlocks hW hS hf dX12_record_83
  have j51 : ∀ (H : Heap) (locs : List Loc) (ls : Array Slot), lv_has ls 11 [(0, .ref v0), (1, .int v1), (2, .long v2), (4, .int v4), (5, .long v5), (7, .int v7), (8, .int v8)] → Wd D cy A Y M H → va_S A s.heap H locs → f_X12_record_51 Y v0 v1 v2 v4 v5 v7 v8 M Kn  → W p l e rm_X12_record s m args below meth c H locs 0 0 (MQ below (va_Qi Kn (BG D cy A Y) A) args s 0 0 A) (F0 m 51 ls [.ref v0]) := by
    intro  H locs ls hl hW hS hf
    unfold f_X12_record_51 at hf
    refine lv_iconst (v := 1) hx hb dX12_record_51 (by decide +kernel) ?_
    refine lv_goto (tgt := 72) hx hb dX12_record_52 (by decide) ?_
    exact j72 _ _ _ _ (lv_sub hl [0, 1, 2, 3, 4, 5, 6] rfl) hW hS hf
  refine lv_icmp_lt (tgt := 51) hx hb dX12_record_3 (by decide) (fun c36 => ?_) (fun c36 => ?_)
  · replace hf := hf.1 c36
    exact j51  _ _ _ (lv_sub hl [0, 1, 2, 3, 4, 5, 6] rfl) hW hS hf
  · replace hf := hf.2 c36
    refine lv_iload_n hx hb dX12_record_6 rfl (lv_at hl 1 rfl) ?_
    refine lv_bipush (v := 100) hx hb dX12_record_7 (by decide +kernel) ?_
    refine lv_icmp_gt (tgt := 51) hx hb dX12_record_9 (by decide) (fun c37 => ?_) (fun c37 => ?_)
    · replace hf := hf.1 c37
      exact j51  _ _ _ (lv_sub hl [0, 1, 2, 3, 4, 5, 6] rfl) hW hS hf
    · replace hf := hf.2 c37
      refine lv_iload hx hb dX12_record_12 (lv_at hl 3 rfl) ?_
      refine lv_iconst (v := -1) hx hb dX12_record_14 (by decide +kernel) ?_
      refine lv_icmp_lt (tgt := 51) hx hb dX12_record_15 (by decide) (fun c38 => ?_) (fun c38 => ?_)
      · replace hf := hf.1 c38
        exact j51  _ _ _ (lv_sub hl [0, 1, 2, 3, 4, 5, 6] rfl) hW hS hf
      · replace hf := hf.2 c38
        refine lv_iload hx hb dX12_record_18 (lv_at hl 3 rfl) ?_
        refine lv_bipush (v := 8) hx hb dX12_record_20 (by decide +kernel) ?_
        refine lv_icmp_gt (tgt := 51) hx hb dX12_record_22 (by decide) (fun c39 => ?_) (fun c39 => ?_)
        · replace hf := hf.1 c39
          exact j51  _ _ _ (lv_sub hl [0, 1, 2, 3, 4, 5, 6] rfl) hW hS hf
        · replace hf := hf.2 c39
          refine lv_iload hx hb dX12_record_25 (lv_at hl 5 rfl) ?_
          refine lv_iconst (v := -1) hx hb dX12_record_27 (by decide +kernel) ?_
          refine lv_icmp_lt (tgt := 51) hx hb dX12_record_28 (by decide) (fun c40 => ?_) (fun c40 => ?_)
          · replace hf := hf.1 c40
            exact j51  _ _ _ (lv_sub hl [0, 1, 2, 3, 4, 5, 6] rfl) hW hS hf
          · replace hf := hf.2 c40
            refine lv_iload hx hb dX12_record_31 (lv_at hl 5 rfl) ?_
            refine lv_sipush (v := 300) hx hb dX12_record_33 (by decide +kernel) ?_
            refine lv_icmp_gt (tgt := 51) hx hb dX12_record_36 (by decide) (fun c41 => ?_) (fun c41 => ?_)
            · replace hf := hf.1 c41
              exact j51  _ _ _ (lv_sub hl [0, 1, 2, 3, 4, 5, 6] rfl) hW hS hf
            · replace hf := hf.2 c41
              refine lv_iload hx hb dX12_record_39 (lv_at hl 6 rfl) ?_
              refine lv_if_lt (tgt := 51) hx hb dX12_record_41 (by decide) (fun c42 => ?_) (fun c42 => ?_)
              · replace hf := hf.1 c42
                exact j51  _ _ _ (lv_sub hl [0, 1, 2, 3, 4, 5, 6] rfl) hW hS hf
              · replace hf := hf.2 c42
                refine lv_iload hx hb dX12_record_44 (lv_at hl 6 rfl) ?_
                refine lv_ldc (v := 1000000) hx hb hown (hts _ kw_1477) dX12_record_46 ?_
                refine lv_icmp_le (tgt := 55) hx hb dX12_record_48 (by decide) (fun c43 => ?_) (fun c43 => ?_)
                · replace hf := hf.1 c43
                  refine lv_aload_n hx hb dX12_record_55 rfl (lv_at hl 0 rfl) ?_
                  obtain ⟨k44, hf⟩ := hf
                  refine gm_getI (C := RX12) (T := TX12) (N := 68) (j := 12) hx hb hts inT_12 hown hK hW k44 (by decide) rfl (by decide) rfl (hts _ kw_1328) rfl dX12_record_56 ?_
                  refine lv_iload_n hx hb dX12_record_59 rfl (lv_at hl 1 rfl) ?_
                  refine lv_iadd hx hb dX12_record_60 ?_
                  refine lv_sipush (v := 1000) hx hb dX12_record_61 (by decide +kernel) ?_
                  refine lv_icmp_le (tgt := 71) hx hb dX12_record_64 (by decide) (fun c45 => ?_) (fun c45 => ?_)
                  · replace hf := hf.1 c45
                    refine lv_iconst (v := 0) hx hb dX12_record_71 (by decide +kernel) ?_
                    exact j72 _ _ _ _ (lv_sub hl [0, 1, 2, 3, 4, 5, 6] rfl) hW hS hf
                  · replace hf := hf.2 c45
                    refine lv_iconst (v := 2) hx hb dX12_record_67 (by decide +kernel) ?_
                    refine lv_goto (tgt := 72) hx hb dX12_record_68 (by decide) ?_
                    exact j72 _ _ _ _ (lv_sub hl [0, 1, 2, 3, 4, 5, 6] rfl) hW hS hf
                · replace hf := hf.2 c43
                  exact j51  _ _ _ (lv_sub hl [0, 1, 2, 3, 4, 5, 6] rfl) hW hS hf

abbrev rm_X12_varint : Room := { frames := 3, cells := 0, slots := 0, locals := 104 }
def f_X12_varint_52 (Y : Ly) (v0 : Nat) (x4 : Int64) (x5 : Int32) (M6 : Mm) (again28 : Int64 → Int32 → Mm → Prop) (y8 : Int64) : Prop :=
  yK Y v0 = 12 ∧ (f_X12_put Y v0 ((x4 &&& 127) + y8) 1 M6 (fun M9 => (∀ x11 : Int64, x11 = (x4.toUInt64 >>> ((7 : Int32).toInt64.toUInt64 &&& Int64.toUInt64 63)).toInt64 → (∀ x12 : Int32, x12 = x5 + (-1) → (again28 x11 x12 M9)))))
def L_X12_varint_28 (Y : Ly) (v0 : Nat) (Kn : Mm → Prop) (x4 : Int64) (x5 : Int32) (M6 : Mm) (again28 : Int64 → Int32 → Mm → Prop) : Prop :=
  (x5 ≤ 0 → (Kn M6)) ∧ (¬ (x5 ≤ 0) → ((x5 ≤ 1 → (f_X12_varint_52 Y v0 x4 x5 M6 again28 0)) ∧ (¬ (x5 ≤ 1) → (f_X12_varint_52 Y v0 x4 x5 M6 again28 128))))
def f_X12_varint_21 (Y : Ly) (v0 : Nat) (v1 : Int64) (M : Mm) (Kn : Mm → Prop) (y1 : Int64) : Prop :=
  f_X12_width Y v1 M (fun r3 M2 => (∃ n, LOOP3 (L_X12_varint_28 Y v0 Kn) n y1 r3 M2))
def f_X12_varint (Y : Ly) (v0 : Nat) (v1 : Int64) (M : Mm) (Kn : Mm → Prop) : Prop :=
  (0 ≤ v1 → (f_X12_varint_21 Y v0 v1 M Kn (2 * v1))) ∧ (¬ (0 ≤ v1) → (f_X12_varint_21 Y v0 v1 M Kn (((-2) * v1) - 1)))
set_option maxHeartbeats 4000000 in
set_option maxRecDepth 100000 in
theorem m_X12_varint (l : Launch) (D : va_G) (cy : Cy) (tq sz : Nat) (Y : Ly) (v0 : Nat) (v1 : Int64) (M : Mm) (Kn : Mm → Prop) : Met l yX12_varint (Cond.code yX12_varint cX12_varint 6 none :: TT) rm_X12_varint (PcG D cy tq [.ref v0, .long v1] sz Y M (f_X12_varint Y v0 v1 M Kn)) (va_Qv Kn (BG D cy (Am Y sz) Y) (Am Y sz)) 0 0 (Am Y sz) := by
  refine Met.ofW (cc := cX12_varint) (maxL := 6) (ret := none) (by decide) rfl ?_
  intro p e s m args below meth c s₁ B hml hv
  obtain ⟨hargs, hsz, hW, hK, hC, hf⟩ := hv
  subst hsz
  have hx := B.exec
  have hb := B.bytes
  have hr := B.returns
  have hts : ∀ w ∈ TT, w.before args s = true := fun w h => atoms_spec (ws := Cond.code yX12_varint cX12_varint 6 none :: TT) B.pre w (List.mem_cons_of_mem _ h)
  have hown : s.vm.findClass RX12 = some m.cls := findClass_of_methodNamed B.named
  have hlocks := B.notSynchronized
  replace hW := Wd_self (sz := s.heap.size) hW
  generalize hAe : Am Y s.heap.size = A at hW hC ⊢
  have hA : ∀ q : Nat, s.heap.size ≤ q → A q := fun q h => by rw [← hAe]; exact Or.inr h
  clear hAe
  have hS : va_S A s.heap s.heap [] := va_S.rf
  obtain ⟨ls, hE, hl⟩ := gm_entry m [.ref v0, .long v1] (n := 6) hargs (Nat.le_of_ble_eq_true rfl)
  rw [hE]
  have hl : lv_has ls 6 [(0, .ref v0), (1, .long v1)] := hl
  show W p l e rm_X12_varint s m args below meth c s.heap [] 0 0 (MQ below (va_Qv Kn (BG D cy A Y) A) args s 0 0 A) (F0 m 0 ls [])
  unfold f_X12_varint at hf
  refine lv_lload_n hx hb dX12_varint_0 rfl (lv_at hl 1 rfl) ?_
  refine lv_lconst (v := 0) hx hb dX12_varint_1 (by decide) ?_
  refine W.lcmp hx hb dX12_varint_2 ?_
  have j21 : ∀ (y1 : Int64) (H : Heap) (locs : List Loc) (ls : Array Slot), lv_has ls 6 [(0, .ref v0), (1, .long v1)] → Wd D cy A Y M H → va_S A s.heap H locs → f_X12_varint_21 Y v0 v1 M Kn y1 → W p l e rm_X12_varint s m args below meth c H locs 0 0 (MQ below (va_Qv Kn (BG D cy A Y) A) args s 0 0 A) (F0 m 21 ls [.long y1]) := by
    intro y1 H locs ls hl hW hS hf
    unfold f_X12_varint_21 at hf
    refine lv_lstore_n (lv' := [(3, .long y1), (0, .ref v0), (1, .long v1)]) hx hb dX12_varint_21 rfl hl (by decide) rfl (fun ls hl => ?_)
    refine lv_lload_n hx hb dX12_varint_22 rfl (lv_at hl 2 rfl) ?_
    refine gm_ci (va_runS (As := [.long v1]) (rest := []) ⟨hx, hb, hml, hown, hts⟩ (m_X12_width l D cy tq _ Y _ _ _) (va_cwS 1 hts (good_S kw_1484 kw_1485 kw_12 kw_1486) rfl rfl rfl (by decide +kernel) ⟨Nat.le_of_ble_eq_true rfl, Nat.le_of_ble_eq_true rfl⟩) (gm_preS hK hW hC hS hA hf) rfl rfl hl.1 rfl (lv_room (Nat.le_of_ble_eq_true rfl)) dX12_varint_23 ⟨Nat.le_of_ble_eq_true rfl, Nat.le_of_ble_eq_true rfl⟩) hW hS hA (fun r3 M2 H locs hW hS hf => ?_)
    refine lv_istore (lv' := [(5, .int r3), (3, .long y1), (0, .ref v0), (1, .long v1)]) hx hb dX12_varint_26 hl (by decide) rfl (fun ls hl => ?_)
    obtain ⟨n28, hf⟩ := hf
    have lp28 : ∀ (n28 : Nat) (x4 : Int64) (x5 : Int32) (M6 : Mm) (H : Heap) (locs : List Loc) (ls : Array Slot), lv_has ls 6 [(0, .ref v0), (3, .long x4), (5, .int x5)] → Wd D cy A Y M6 H → va_S A s.heap H locs → LOOP3 (L_X12_varint_28 Y v0 Kn) n28 x4 x5 M6 → W p l e rm_X12_varint s m args below meth c H locs 0 0 (MQ below (va_Qv Kn (BG D cy A Y) A) args s 0 0 A) (F0 m 28 ls []) := by
      intro n28
      induction n28 with
      | zero => intro x4 x5 M6 H locs ls hl hW hS hf; exact hf.elim
      | succ n28 ih28 =>
        intro x4 x5 M6 H locs ls hl hW hS hf
        replace hf : L_X12_varint_28 Y v0 Kn x4 x5 M6 (LOOP3 (L_X12_varint_28 Y v0 Kn) n28) := hf
        unfold L_X12_varint_28 at hf
        refine lv_iload hx hb dX12_varint_28 (lv_at hl 2 rfl) ?_
        refine lv_if_le (tgt := 68) hx hb dX12_varint_30 (by decide) (fun c7 => ?_) (fun c7 => ?_)
        · replace hf := hf.1 c7
          exact gm_vret hx hb hr hlocks hW hS hf dX12_varint_68
        · replace hf := hf.2 c7
          refine lv_aload_n hx hb dX12_varint_33 rfl (lv_at hl 0 rfl) ?_
          refine lv_lload_n hx hb dX12_varint_34 rfl (lv_at hl 1 rfl) ?_
          refine lv_ldc2 (v := 127) hx hb hown (hts _ kw_1489) dX12_varint_35 ?_
          refine lv_land hx hb dX12_varint_38 ?_
          refine lv_iload hx hb dX12_varint_39 (lv_at hl 2 rfl) ?_
          refine lv_iconst (v := 1) hx hb dX12_varint_41 (by decide +kernel) ?_
          have j52 : ∀ (y8 : Int64) (H : Heap) (locs : List Loc) (ls : Array Slot), lv_has ls 6 [(0, .ref v0), (3, .long x4), (5, .int x5)] → Wd D cy A Y M6 H → va_S A s.heap H locs → f_X12_varint_52 Y v0 x4 x5 M6 (LOOP3 (L_X12_varint_28 Y v0 Kn) n28) y8 → W p l e rm_X12_varint s m args below meth c H locs 0 0 (MQ below (va_Qv Kn (BG D cy A Y) A) args s 0 0 A) (F0 m 52 ls [.long y8, .long (x4 &&& 127), .ref v0]) := by
            intro y8 H locs ls hl hW hS hf
            unfold f_X12_varint_52 at hf
            refine lv_ladd hx hb dX12_varint_52 ?_
            refine lv_iconst (v := 1) hx hb dX12_varint_53 (by decide +kernel) ?_
            obtain ⟨k10, hf⟩ := hf
            refine gm_cv (va_runV (As := [.long ((x4 &&& 127) + y8), .int 1]) (rest := []) ⟨hx, hb, hml, hown, hts⟩ (m_X12_put l D cy tq _ Y _ _ _ _ _) (cwV 2 hts (good_V kw_1462 kw_1463 kw_1823 kw_12 kw_1464) rfl rfl rfl (by decide +kernel) ⟨Nat.le_of_ble_eq_true rfl, Nat.le_of_ble_eq_true rfl⟩) (gm_preV hK hW hC hS hA k10 (by decide) (q := (RX12, TX12, 68)) rfl rfl hf) rfl rfl hl.1 rfl (lv_room (Nat.le_of_ble_eq_true rfl)) dX12_varint_54 ⟨Nat.le_of_ble_eq_true rfl, Nat.le_of_ble_eq_true rfl⟩) hW hS hA (fun M9 H locs hW hS hf => ?_)
            refine lv_lload_n hx hb dX12_varint_57 rfl (lv_at hl 1 rfl) ?_
            refine lv_bipush (v := 7) hx hb dX12_varint_58 (by decide +kernel) ?_
            refine lv_lushr hx hb dX12_varint_60 rfl ?_
            refine lv_topl (fun x11 ex11 => ?_)
            replace hf := hf x11 ex11
            refine lv_lstore_n (lv' := [(3, .long x11), (0, .ref v0), (5, .int x5)]) hx hb dX12_varint_61 rfl hl (by decide) rfl (fun ls hl => ?_)
            obtain ⟨x12, ex12⟩ : ∃ y : Int32, y = x5 + (-1) := ⟨_, rfl⟩
            replace hf := hf x12 ex12
            refine lv_iinc (v := x12) (lv' := [(5, .int x12), (3, .long x11), (0, .ref v0)]) hx hb dX12_varint_62 hl (k := 2) rfl (by rw [ex12]; rfl) (by decide) rfl (fun ls hl => ?_)
            refine lv_goto (tgt := 28) hx hb dX12_varint_65 (by decide) ?_
            exact ih28 _ _ _ _ _ _ (lv_sub hl [2, 1, 0] rfl) hW hS hf
          refine lv_icmp_le (tgt := 51) hx hb dX12_varint_42 (by decide) (fun c13 => ?_) (fun c13 => ?_)
          · replace hf := hf.1 c13
            refine lv_lconst (v := 0) hx hb dX12_varint_51 (by decide) ?_
            exact j52 _ _ _ _ (lv_sub hl [0, 1, 2] rfl) hW hS hf
          · replace hf := hf.2 c13
            refine lv_ldc2 (v := 128) hx hb hown (hts _ kw_1504) dX12_varint_45 ?_
            refine lv_goto (tgt := 52) hx hb dX12_varint_48 (by decide) ?_
            exact j52 _ _ _ _ (lv_sub hl [0, 1, 2] rfl) hW hS hf
    exact lp28 n28 _ _ _ _ _ _ (lv_sub hl [2, 1, 0] rfl) hW hS hf
  refine lv_if_ge (tgt := 16) hx hb dX12_varint_3 (by decide) (fun c14 => ?_) (fun c14 => ?_)
  · replace hf := hf.1 (lg_ge.mp c14)
    refine lv_ldc2 (v := 2) hx hb hown (hts _ kw_1488) dX12_varint_16 ?_
    refine lv_lload_n hx hb dX12_varint_19 rfl (lv_at hl 1 rfl) ?_
    refine lv_lmul hx hb dX12_varint_20 ?_
    exact j21 _ _ _ _ (lv_sub hl [0, 1] rfl) hW hS hf
  · replace hf := hf.2 (fun z => c14 (lg_ge.mpr z))
    refine lv_ldc2 (v := -2) hx hb hown (hts _ kw_1487) dX12_varint_6 ?_
    refine lv_lload_n hx hb dX12_varint_9 rfl (lv_at hl 1 rfl) ?_
    refine lv_lmul hx hb dX12_varint_10 ?_
    refine lv_lconst (v := 1) hx hb dX12_varint_11 (by decide) ?_
    refine lv_lsub hx hb dX12_varint_12 ?_
    refine lv_goto (tgt := 21) hx hb dX12_varint_13 (by decide) ?_
    exact j21 _ _ _ _ (lv_sub hl [0, 1] rfl) hW hS hf

abbrev rm_X12_putRecord : Room := { frames := 4, cells := 0, slots := 0, locals := 129 }
def L_X12_putRecord_82 (Y : Ly) (v0 : Nat) (v1 : Int32) (Kn : Mm → Prop) (x23 : Int32) (M24 : Mm) (again82 : Int32 → Mm → Prop) : Prop :=
  ∃ b25 : Nat, mR M24 v0 16 = some b25 ∧ (yK Y b25 = 101 ∧ (vp_in v1 (yN Y b25) ∧ (((mI M24 b25 v1.toNatClampNeg) ≤ x23 → (f_X12_put Y v0 0 1 M24 (fun M29 => (Kn M29)))) ∧ (¬ ((mI M24 b25 v1.toNatClampNeg) ≤ x23) → (∃ b30 : Nat, mR M24 v0 15 = some b30 ∧ (yK Y b30 = 102 ∧ (vp_in v1 (yN Y b30) ∧ (f_X12_put Y v0 ((mJ M24 b30 v1.toNatClampNeg) >>> ((8 * (x23 - x23 / 8 * 8)).toInt64 &&& 63)) 1 M24 (fun M34 => (∀ x35 : Int32, x35 = x23 + 1 → (again82 x35 M34)))))))))))
def f_X12_putRecord_69 (Y : Ly) (v0 : Nat) (v1 : Int32) (Kn : Mm → Prop) (M18 : Mm) : Prop :=
  ∃ b19 : Nat, mR M18 v0 16 = some b19 ∧ (yK Y b19 = 101 ∧ (vp_in v1 (yN Y b19) ∧ (f_X12_varint Y v0 ((mI M18 b19 v1.toNatClampNeg).toInt64) M18 (fun M22 => (∃ n, LOOP2 (L_X12_putRecord_82 Y v0 v1 Kn) n 0 M22)))))
def f_X12_putRecord (Y : Ly) (v0 : Nat) (v1 : Int32) (M : Mm) (Kn : Mm → Prop) : Prop :=
  yK Y v0 = 12 ∧ (f_X12_body Y v0 v1 M (fun r2 M1 => (f_X12_varint Y v0 r2.toInt64 M1 (fun M4 => (f_X12_put Y v0 0 1 M4 (fun M5 => (∃ b6 : Nat, mR M5 v0 17 = some b6 ∧ (yK Y b6 = 101 ∧ (vp_in v1 (yN Y b6) ∧ (f_X12_varint Y v0 ((mI M5 b6 v1.toNatClampNeg).toInt64) M5 (fun M9 => (f_X12_varint Y v0 v1.toInt64 M9 (fun M10 => (∃ b11 : Nat, mR M10 v0 14 = some b11 ∧ (yK Y b11 = 101 ∧ (vp_in v1 (yN Y b11) ∧ (f_X12_varint Y v0 ((mI M10 b11 v1.toNatClampNeg).toInt64) M10 (fun M14 => (∃ b15 : Nat, mR M14 v0 14 = some b15 ∧ (yK Y b15 = 101 ∧ (vp_in v1 (yN Y b15) ∧ (((mI M14 b15 v1.toNatClampNeg) ≤ 0 → (f_X12_putRecord_69 Y v0 v1 Kn M14)) ∧ (¬ ((mI M14 b15 v1.toNatClampNeg) ≤ 0) → (∃ b37 : Nat, mR M14 v0 13 = some b37 ∧ (yK Y b37 = 102 ∧ (vp_in v1 (yN Y b37) ∧ (∃ b40 : Nat, mR M14 v0 14 = some b40 ∧ (yK Y b40 = 101 ∧ (vp_in v1 (yN Y b40) ∧ (f_X12_put Y v0 (mJ M14 b37 v1.toNatClampNeg) (mI M14 b40 v1.toNatClampNeg) M14 (fun M43 => (f_X12_putRecord_69 Y v0 v1 Kn M43))))))))))))))))))))))))))))))))
set_option maxHeartbeats 4000000 in
set_option maxRecDepth 100000 in
theorem m_X12_putRecord (l : Launch) (D : va_G) (cy : Cy) (tq sz : Nat) (Y : Ly) (v0 : Nat) (v1 : Int32) (M : Mm) (Kn : Mm → Prop) : Met l yX12_putRecord (Cond.code yX12_putRecord cX12_putRecord 3 none :: TT) rm_X12_putRecord (PcG D cy tq [.ref v0, .int v1] sz Y M (f_X12_putRecord Y v0 v1 M Kn)) (va_Qv Kn (BG D cy (Am Y sz) Y) (Am Y sz)) 0 0 (Am Y sz) := by
  refine Met.ofW (cc := cX12_putRecord) (maxL := 3) (ret := none) (by decide) rfl ?_
  intro p e s m args below meth c s₁ B hml hv
  obtain ⟨hargs, hsz, hW, hK, hC, hf⟩ := hv
  subst hsz
  have hx := B.exec
  have hb := B.bytes
  have hr := B.returns
  have hts : ∀ w ∈ TT, w.before args s = true := fun w h => atoms_spec (ws := Cond.code yX12_putRecord cX12_putRecord 3 none :: TT) B.pre w (List.mem_cons_of_mem _ h)
  have hown : s.vm.findClass RX12 = some m.cls := findClass_of_methodNamed B.named
  have hlocks := B.notSynchronized
  replace hW := Wd_self (sz := s.heap.size) hW
  generalize hAe : Am Y s.heap.size = A at hW hC ⊢
  have hA : ∀ q : Nat, s.heap.size ≤ q → A q := fun q h => by rw [← hAe]; exact Or.inr h
  clear hAe
  have hS : va_S A s.heap s.heap [] := va_S.rf
  obtain ⟨ls, hE, hl⟩ := gm_entry m [.ref v0, .int v1] (n := 3) hargs (Nat.le_of_ble_eq_true rfl)
  rw [hE]
  have hl : lv_has ls 3 [(0, .ref v0), (1, .int v1)] := hl
  show W p l e rm_X12_putRecord s m args below meth c s.heap [] 0 0 (MQ below (va_Qv Kn (BG D cy A Y) A) args s 0 0 A) (F0 m 0 ls [])
  unfold f_X12_putRecord at hf
  refine lv_aload_n hx hb dX12_putRecord_0 rfl (lv_at hl 0 rfl) ?_
  refine lv_aload_n hx hb dX12_putRecord_1 rfl (lv_at hl 0 rfl) ?_
  refine lv_iload_n hx hb dX12_putRecord_2 rfl (lv_at hl 1 rfl) ?_
  obtain ⟨k3, hf⟩ := hf
  refine gm_ci (va_runV (As := [.int v1]) (rest := [.ref v0]) ⟨hx, hb, hml, hown, hts⟩ (m_X12_body l D cy tq _ Y _ _ _ _) (cwV 1 hts (good_V kw_1481 kw_1482 kw_1825 kw_12 kw_1483) rfl rfl rfl (by decide +kernel) ⟨Nat.le_of_ble_eq_true rfl, Nat.le_of_ble_eq_true rfl⟩) (gm_preV hK hW hC hS hA k3 (by decide) (q := (RX12, TX12, 68)) rfl rfl hf) rfl rfl hl.1 rfl (lv_room (Nat.le_of_ble_eq_true rfl)) dX12_putRecord_3 ⟨Nat.le_of_ble_eq_true rfl, Nat.le_of_ble_eq_true rfl⟩) hW hS hA (fun r2 M1 H locs hW hS hf => ?_)
  refine lv_i2l hx hb dX12_putRecord_6 rfl ?_
  refine gm_cv (va_runV (As := [.long r2.toInt64]) (rest := []) ⟨hx, hb, hml, hown, hts⟩ (m_X12_varint l D cy tq _ Y _ _ _ _) (cwV 1 hts (good_V kw_1501 kw_1502 kw_1828 kw_12 kw_1503) rfl rfl rfl (by decide +kernel) ⟨Nat.le_of_ble_eq_true rfl, Nat.le_of_ble_eq_true rfl⟩) (gm_preV hK hW hC hS hA k3 (by decide) (q := (RX12, TX12, 68)) rfl rfl hf) rfl rfl hl.1 rfl (lv_room (Nat.le_of_ble_eq_true rfl)) dX12_putRecord_7 ⟨Nat.le_of_ble_eq_true rfl, Nat.le_of_ble_eq_true rfl⟩) hW hS hA (fun M4 H locs hW hS hf => ?_)
  refine lv_aload_n hx hb dX12_putRecord_10 rfl (lv_at hl 0 rfl) ?_
  refine lv_lconst (v := 0) hx hb dX12_putRecord_11 (by decide) ?_
  refine lv_iconst (v := 1) hx hb dX12_putRecord_12 (by decide +kernel) ?_
  refine gm_cv (va_runV (As := [.long 0, .int 1]) (rest := []) ⟨hx, hb, hml, hown, hts⟩ (m_X12_put l D cy tq _ Y _ _ _ _ _) (cwV 2 hts (good_V kw_1462 kw_1463 kw_1823 kw_12 kw_1464) rfl rfl rfl (by decide +kernel) ⟨Nat.le_of_ble_eq_true rfl, Nat.le_of_ble_eq_true rfl⟩) (gm_preV hK hW hC hS hA k3 (by decide) (q := (RX12, TX12, 68)) rfl rfl hf) rfl rfl hl.1 rfl (lv_room (Nat.le_of_ble_eq_true rfl)) dX12_putRecord_13 ⟨Nat.le_of_ble_eq_true rfl, Nat.le_of_ble_eq_true rfl⟩) hW hS hA (fun M5 H locs hW hS hf => ?_)
  refine lv_aload_n hx hb dX12_putRecord_16 rfl (lv_at hl 0 rfl) ?_
  refine lv_aload_n hx hb dX12_putRecord_17 rfl (lv_at hl 0 rfl) ?_
  obtain ⟨b6, hb6, hf⟩ := hf
  refine gm_getR (C := RX12) (T := TX12) (N := 68) (j := 17) hx hb hts inT_12 hown hK hW k3 (by decide) rfl (by decide) rfl (hts _ kw_1333) rfl dX12_putRecord_18 hb6 ?_
  refine lv_iload_n hx hb dX12_putRecord_21 rfl (lv_at hl 1 rfl) ?_
  obtain ⟨k7, hf⟩ := hf
  obtain ⟨h8, hf⟩ := hf
  refine gm_iald hx hb hK hW k7 h8 dX12_putRecord_22 ?_
  refine lv_i2l hx hb dX12_putRecord_23 rfl ?_
  refine gm_cv (va_runV (As := [.long ((mI M5 b6 v1.toNatClampNeg).toInt64)]) (rest := []) ⟨hx, hb, hml, hown, hts⟩ (m_X12_varint l D cy tq _ Y _ _ _ _) (cwV 1 hts (good_V kw_1501 kw_1502 kw_1828 kw_12 kw_1503) rfl rfl rfl (by decide +kernel) ⟨Nat.le_of_ble_eq_true rfl, Nat.le_of_ble_eq_true rfl⟩) (gm_preV hK hW hC hS hA k3 (by decide) (q := (RX12, TX12, 68)) rfl rfl hf) rfl rfl hl.1 rfl (lv_room (Nat.le_of_ble_eq_true rfl)) dX12_putRecord_24 ⟨Nat.le_of_ble_eq_true rfl, Nat.le_of_ble_eq_true rfl⟩) hW hS hA (fun M9 H locs hW hS hf => ?_)
  refine lv_aload_n hx hb dX12_putRecord_27 rfl (lv_at hl 0 rfl) ?_
  refine lv_iload_n hx hb dX12_putRecord_28 rfl (lv_at hl 1 rfl) ?_
  refine lv_i2l hx hb dX12_putRecord_29 rfl ?_
  refine gm_cv (va_runV (As := [.long v1.toInt64]) (rest := []) ⟨hx, hb, hml, hown, hts⟩ (m_X12_varint l D cy tq _ Y _ _ _ _) (cwV 1 hts (good_V kw_1501 kw_1502 kw_1828 kw_12 kw_1503) rfl rfl rfl (by decide +kernel) ⟨Nat.le_of_ble_eq_true rfl, Nat.le_of_ble_eq_true rfl⟩) (gm_preV hK hW hC hS hA k3 (by decide) (q := (RX12, TX12, 68)) rfl rfl hf) rfl rfl hl.1 rfl (lv_room (Nat.le_of_ble_eq_true rfl)) dX12_putRecord_30 ⟨Nat.le_of_ble_eq_true rfl, Nat.le_of_ble_eq_true rfl⟩) hW hS hA (fun M10 H locs hW hS hf => ?_)
  refine lv_aload_n hx hb dX12_putRecord_33 rfl (lv_at hl 0 rfl) ?_
  refine lv_aload_n hx hb dX12_putRecord_34 rfl (lv_at hl 0 rfl) ?_
  obtain ⟨b11, hb11, hf⟩ := hf
  refine gm_getR (C := RX12) (T := TX12) (N := 68) (j := 14) hx hb hts inT_12 hown hK hW k3 (by decide) rfl (by decide) rfl (hts _ kw_1330) rfl dX12_putRecord_35 hb11 ?_
  refine lv_iload_n hx hb dX12_putRecord_38 rfl (lv_at hl 1 rfl) ?_
  obtain ⟨k12, hf⟩ := hf
  obtain ⟨h13, hf⟩ := hf
  refine gm_iald hx hb hK hW k12 h13 dX12_putRecord_39 ?_
  refine lv_i2l hx hb dX12_putRecord_40 rfl ?_
  refine gm_cv (va_runV (As := [.long ((mI M10 b11 v1.toNatClampNeg).toInt64)]) (rest := []) ⟨hx, hb, hml, hown, hts⟩ (m_X12_varint l D cy tq _ Y _ _ _ _) (cwV 1 hts (good_V kw_1501 kw_1502 kw_1828 kw_12 kw_1503) rfl rfl rfl (by decide +kernel) ⟨Nat.le_of_ble_eq_true rfl, Nat.le_of_ble_eq_true rfl⟩) (gm_preV hK hW hC hS hA k3 (by decide) (q := (RX12, TX12, 68)) rfl rfl hf) rfl rfl hl.1 rfl (lv_room (Nat.le_of_ble_eq_true rfl)) dX12_putRecord_41 ⟨Nat.le_of_ble_eq_true rfl, Nat.le_of_ble_eq_true rfl⟩) hW hS hA (fun M14 H locs hW hS hf => ?_)
  refine lv_aload_n hx hb dX12_putRecord_44 rfl (lv_at hl 0 rfl) ?_
  obtain ⟨b15, hb15, hf⟩ := hf
  refine gm_getR (C := RX12) (T := TX12) (N := 68) (j := 14) hx hb hts inT_12 hown hK hW k3 (by decide) rfl (by decide) rfl (hts _ kw_1330) rfl dX12_putRecord_45 hb15 ?_
  refine lv_iload_n hx hb dX12_putRecord_48 rfl (lv_at hl 1 rfl) ?_
  obtain ⟨k16, hf⟩ := hf
  obtain ⟨h17, hf⟩ := hf
  refine gm_iald hx hb hK hW k16 h17 dX12_putRecord_49 ?_
  have j69 : ∀ (M18 : Mm) (H : Heap) (locs : List Loc) (ls : Array Slot), lv_has ls 3 [(0, .ref v0), (1, .int v1)] → Wd D cy A Y M18 H → va_S A s.heap H locs → f_X12_putRecord_69 Y v0 v1 Kn M18 → W p l e rm_X12_putRecord s m args below meth c H locs 0 0 (MQ below (va_Qv Kn (BG D cy A Y) A) args s 0 0 A) (F0 m 69 ls []) := by
    intro M18 H locs ls hl hW hS hf
    unfold f_X12_putRecord_69 at hf
    refine lv_aload_n hx hb dX12_putRecord_69 rfl (lv_at hl 0 rfl) ?_
    refine lv_aload_n hx hb dX12_putRecord_70 rfl (lv_at hl 0 rfl) ?_
    obtain ⟨b19, hb19, hf⟩ := hf
    refine gm_getR (C := RX12) (T := TX12) (N := 68) (j := 16) hx hb hts inT_12 hown hK hW k3 (by decide) rfl (by decide) rfl (hts _ kw_1332) rfl dX12_putRecord_71 hb19 ?_
    refine lv_iload_n hx hb dX12_putRecord_74 rfl (lv_at hl 1 rfl) ?_
    obtain ⟨k20, hf⟩ := hf
    obtain ⟨h21, hf⟩ := hf
    refine gm_iald hx hb hK hW k20 h21 dX12_putRecord_75 ?_
    refine lv_i2l hx hb dX12_putRecord_76 rfl ?_
    refine gm_cv (va_runV (As := [.long ((mI M18 b19 v1.toNatClampNeg).toInt64)]) (rest := []) ⟨hx, hb, hml, hown, hts⟩ (m_X12_varint l D cy tq _ Y _ _ _ _) (cwV 1 hts (good_V kw_1501 kw_1502 kw_1828 kw_12 kw_1503) rfl rfl rfl (by decide +kernel) ⟨Nat.le_of_ble_eq_true rfl, Nat.le_of_ble_eq_true rfl⟩) (gm_preV hK hW hC hS hA k3 (by decide) (q := (RX12, TX12, 68)) rfl rfl hf) rfl rfl hl.1 rfl (lv_room (Nat.le_of_ble_eq_true rfl)) dX12_putRecord_77 ⟨Nat.le_of_ble_eq_true rfl, Nat.le_of_ble_eq_true rfl⟩) hW hS hA (fun M22 H locs hW hS hf => ?_)
    refine lv_iconst (v := 0) hx hb dX12_putRecord_80 (by decide +kernel) ?_
    refine lv_istore_n (lv' := [(2, .int 0), (0, .ref v0), (1, .int v1)]) hx hb dX12_putRecord_81 rfl hl (by decide) rfl (fun ls hl => ?_)
    obtain ⟨n82, hf⟩ := hf
    have lp82 : ∀ (n82 : Nat) (x23 : Int32) (M24 : Mm) (H : Heap) (locs : List Loc) (ls : Array Slot), lv_has ls 3 [(0, .ref v0), (1, .int v1), (2, .int x23)] → Wd D cy A Y M24 H → va_S A s.heap H locs → LOOP2 (L_X12_putRecord_82 Y v0 v1 Kn) n82 x23 M24 → W p l e rm_X12_putRecord s m args below meth c H locs 0 0 (MQ below (va_Qv Kn (BG D cy A Y) A) args s 0 0 A) (F0 m 82 ls []) := by
      intro n82
      induction n82 with
      | zero => intro x23 M24 H locs ls hl hW hS hf; exact hf.elim
      | succ n82 ih82 =>
        intro x23 M24 H locs ls hl hW hS hf
        replace hf : L_X12_putRecord_82 Y v0 v1 Kn x23 M24 (LOOP2 (L_X12_putRecord_82 Y v0 v1 Kn) n82) := hf
        unfold L_X12_putRecord_82 at hf
        refine lv_iload_n hx hb dX12_putRecord_82 rfl (lv_at hl 2 rfl) ?_
        refine lv_aload_n hx hb dX12_putRecord_83 rfl (lv_at hl 0 rfl) ?_
        obtain ⟨b25, hb25, hf⟩ := hf
        refine gm_getR (C := RX12) (T := TX12) (N := 68) (j := 16) hx hb hts inT_12 hown hK hW k3 (by decide) rfl (by decide) rfl (hts _ kw_1332) rfl dX12_putRecord_84 hb25 ?_
        refine lv_iload_n hx hb dX12_putRecord_87 rfl (lv_at hl 1 rfl) ?_
        obtain ⟨k26, hf⟩ := hf
        obtain ⟨h27, hf⟩ := hf
        refine gm_iald hx hb hK hW k26 h27 dX12_putRecord_88 ?_
        refine lv_icmp_ge (tgt := 117) hx hb dX12_putRecord_89 (by decide) (fun c28 => ?_) (fun c28 => ?_)
        · replace hf := hf.1 c28
          refine lv_aload_n hx hb dX12_putRecord_117 rfl (lv_at hl 0 rfl) ?_
          refine lv_lconst (v := 0) hx hb dX12_putRecord_118 (by decide) ?_
          refine lv_iconst (v := 1) hx hb dX12_putRecord_119 (by decide +kernel) ?_
          refine gm_cv (va_runV (As := [.long 0, .int 1]) (rest := []) ⟨hx, hb, hml, hown, hts⟩ (m_X12_put l D cy tq _ Y _ _ _ _ _) (cwV 2 hts (good_V kw_1462 kw_1463 kw_1823 kw_12 kw_1464) rfl rfl rfl (by decide +kernel) ⟨Nat.le_of_ble_eq_true rfl, Nat.le_of_ble_eq_true rfl⟩) (gm_preV hK hW hC hS hA k3 (by decide) (q := (RX12, TX12, 68)) rfl rfl hf) rfl rfl hl.1 rfl (lv_room (Nat.le_of_ble_eq_true rfl)) dX12_putRecord_120 ⟨Nat.le_of_ble_eq_true rfl, Nat.le_of_ble_eq_true rfl⟩) hW hS hA (fun M29 H locs hW hS hf => ?_)
          exact gm_vret hx hb hr hlocks hW hS hf dX12_putRecord_123
        · replace hf := hf.2 c28
          refine lv_aload_n hx hb dX12_putRecord_92 rfl (lv_at hl 0 rfl) ?_
          refine lv_aload_n hx hb dX12_putRecord_93 rfl (lv_at hl 0 rfl) ?_
          obtain ⟨b30, hb30, hf⟩ := hf
          refine gm_getR (C := RX12) (T := TX12) (N := 68) (j := 15) hx hb hts inT_12 hown hK hW k3 (by decide) rfl (by decide) rfl (hts _ kw_1331) rfl dX12_putRecord_94 hb30 ?_
          refine lv_iload_n hx hb dX12_putRecord_97 rfl (lv_at hl 1 rfl) ?_
          obtain ⟨k31, hf⟩ := hf
          obtain ⟨h32, hf⟩ := hf
          refine gm_lald hx hb hK hW k31 h32 dX12_putRecord_98 ?_
          refine lv_bipush (v := 8) hx hb dX12_putRecord_99 (by decide +kernel) ?_
          refine lv_iload_n hx hb dX12_putRecord_101 rfl (lv_at hl 2 rfl) ?_
          refine lv_bipush (v := 8) hx hb dX12_putRecord_102 (by decide +kernel) ?_
          refine lv_irem hx hb dX12_putRecord_104 (by decide) ?_
          refine lv_imul hx hb dX12_putRecord_105 ?_
          refine lv_lshr hx hb dX12_putRecord_106 rfl ?_
          refine lv_iconst (v := 1) hx hb dX12_putRecord_107 (by decide +kernel) ?_
          refine gm_cv (va_runV (As := [.long ((mJ M24 b30 v1.toNatClampNeg) >>> ((8 * (x23 - x23 / 8 * 8)).toInt64 &&& 63)), .int 1]) (rest := []) ⟨hx, hb, hml, hown, hts⟩ (m_X12_put l D cy tq _ Y _ _ _ _ _) (cwV 2 hts (good_V kw_1462 kw_1463 kw_1823 kw_12 kw_1464) rfl rfl rfl (by decide +kernel) ⟨Nat.le_of_ble_eq_true rfl, Nat.le_of_ble_eq_true rfl⟩) (gm_preV hK hW hC hS hA k3 (by decide) (q := (RX12, TX12, 68)) rfl rfl hf) rfl rfl hl.1 rfl (lv_room (Nat.le_of_ble_eq_true rfl)) dX12_putRecord_108 ⟨Nat.le_of_ble_eq_true rfl, Nat.le_of_ble_eq_true rfl⟩) hW hS hA (fun M34 H locs hW hS hf => ?_)
          obtain ⟨x35, ex35⟩ : ∃ y : Int32, y = x23 + 1 := ⟨_, rfl⟩
          replace hf := hf x35 ex35
          refine lv_iinc (v := x35) (lv' := [(2, .int x35), (0, .ref v0), (1, .int v1)]) hx hb dX12_putRecord_111 hl (k := 2) rfl (by rw [ex35]; rfl) (by decide) rfl (fun ls hl => ?_)
          refine lv_goto (tgt := 82) hx hb dX12_putRecord_114 (by decide) ?_
          exact ih82 _ _ _ _ _ (lv_sub hl [1, 2, 0] rfl) hW hS hf
    exact lp82 n82 _ _ _ _ _ (lv_sub hl [1, 2, 0] rfl) hW hS hf
  refine lv_if_le (tgt := 69) hx hb dX12_putRecord_50 (by decide) (fun c36 => ?_) (fun c36 => ?_)
  · replace hf := hf.1 c36
    exact j69 _ _ _ _ (lv_sub hl [0, 1] rfl) hW hS hf
  · replace hf := hf.2 c36
    refine lv_aload_n hx hb dX12_putRecord_53 rfl (lv_at hl 0 rfl) ?_
    refine lv_aload_n hx hb dX12_putRecord_54 rfl (lv_at hl 0 rfl) ?_
    obtain ⟨b37, hb37, hf⟩ := hf
    refine gm_getR (C := RX12) (T := TX12) (N := 68) (j := 13) hx hb hts inT_12 hown hK hW k3 (by decide) rfl (by decide) rfl (hts _ kw_1329) rfl dX12_putRecord_55 hb37 ?_
    refine lv_iload_n hx hb dX12_putRecord_58 rfl (lv_at hl 1 rfl) ?_
    obtain ⟨k38, hf⟩ := hf
    obtain ⟨h39, hf⟩ := hf
    refine gm_lald hx hb hK hW k38 h39 dX12_putRecord_59 ?_
    refine lv_aload_n hx hb dX12_putRecord_60 rfl (lv_at hl 0 rfl) ?_
    obtain ⟨b40, hb40, hf⟩ := hf
    refine gm_getR (C := RX12) (T := TX12) (N := 68) (j := 14) hx hb hts inT_12 hown hK hW k3 (by decide) rfl (by decide) rfl (hts _ kw_1330) rfl dX12_putRecord_61 hb40 ?_
    refine lv_iload_n hx hb dX12_putRecord_64 rfl (lv_at hl 1 rfl) ?_
    obtain ⟨k41, hf⟩ := hf
    obtain ⟨h42, hf⟩ := hf
    refine gm_iald hx hb hK hW k41 h42 dX12_putRecord_65 ?_
    refine gm_cv (va_runV (As := [.long (mJ M14 b37 v1.toNatClampNeg), .int (mI M14 b40 v1.toNatClampNeg)]) (rest := []) ⟨hx, hb, hml, hown, hts⟩ (m_X12_put l D cy tq _ Y _ _ _ _ _) (cwV 2 hts (good_V kw_1462 kw_1463 kw_1823 kw_12 kw_1464) rfl rfl rfl (by decide +kernel) ⟨Nat.le_of_ble_eq_true rfl, Nat.le_of_ble_eq_true rfl⟩) (gm_preV hK hW hC hS hA k3 (by decide) (q := (RX12, TX12, 68)) rfl rfl hf) rfl rfl hl.1 rfl (lv_room (Nat.le_of_ble_eq_true rfl)) dX12_putRecord_66 ⟨Nat.le_of_ble_eq_true rfl, Nat.le_of_ble_eq_true rfl⟩) hW hS hA (fun M43 H locs hW hS hf => ?_)
    exact j69 _ _ _ _ (lv_sub hl [0, 1] rfl) hW hS hf

abbrev rm_X12_sealed : Room := { frames := 5, cells := 0, slots := 0, locals := 151 }
def L_X12_sealed_171 (Y : Ly) (v0 : Nat) (Kn : Mm → Prop) (x2 : Int32) (x21 : Int32) (M22 : Mm) (again171 : Int32 → Mm → Prop) : Prop :=
  ((mI M22 v0 12) ≤ x21 → (∃ b24 : Nat, mR M22 v0 10 = some b24 ∧ (∃ b25 : Nat, mR M22 v0 10 = some b25 ∧ (f_X12_sum Y b25 (x2 + 21) (mI M22 v0 11) M22 (fun r27 M26 => (f_X12_set Y b24 (x2 + 17) r27 4 M26 (fun M28 => (∀ M29 : Mm, M29 = sI M28 v0 (m1 (mI M28 v0) 12 0) → (Kn M29))))))))) ∧ (¬ ((mI M22 v0 12) ≤ x21) → (f_X12_putRecord Y v0 x21 M22 (fun M30 => (∀ x31 : Int32, x31 = x21 + 1 → (again171 x31 M30)))))
def f_X12_sealed_54 (Y : Ly) (x4 : Int32) (again12 : Int64 → Int32 → Prop) (y35 : Int64) : Prop :=
  ∀ x36 : Int32, x36 = x4 + 1 → (again12 y35 x36)
def L_X12_sealed_12 (Y : Ly) (v0 : Nat) (v1 : Int64) (v3 : Int32) (v4 : Int32) (v5 : Int64) (M : Mm) (Kn : Mm → Prop) (x2 : Int32) (x3 : Int64) (x4 : Int32) (again12 : Int64 → Int32 → Prop) : Prop :=
  ((mI M v0 12) ≤ x4 → (f_X12_put Y v0 0 8 M (fun M6 => (f_X12_weight Y v0 M6 (fun r8 M7 => (f_X12_put Y v0 ((49 + r8).toInt64) 4 M7 (fun M9 => (f_X12_put Y v0 0 4 M9 (fun M10 => (f_X12_put Y v0 2 1 M10 (fun M11 => (f_X12_put Y v0 0 4 M11 (fun M12 => (f_X12_put Y v0 0 2 M12 (fun M13 => (f_X12_put Y v0 (((mI M13 v0 12) - 1).toInt64) 4 M13 (fun M14 => (f_X12_put Y v0 v5 8 M14 (fun M15 => (f_X12_put Y v0 x3 8 M15 (fun M16 => (f_X12_put Y v0 v1 8 M16 (fun M17 => (f_X12_put Y v0 v3.toInt64 2 M17 (fun M18 => (f_X12_put Y v0 v4.toInt64 4 M18 (fun M19 => (f_X12_put Y v0 ((mI M19 v0 12).toInt64) 4 M19 (fun M20 => (∃ n, LOOP2 (L_X12_sealed_171 Y v0 Kn x2) n 0 M20)))))))))))))))))))))))))))))) ∧ (¬ ((mI M v0 12) ≤ x4) → (∃ b32 : Nat, mR M v0 17 = some b32 ∧ (yK Y b32 = 101 ∧ (vp_in x4 (yN Y b32) ∧ (((v5 + ((mI M b32 x4.toNatClampNeg).toInt64)) ≤ x3 → (f_X12_sealed_54 Y x4 again12 x3)) ∧ (¬ ((v5 + ((mI M b32 x4.toNatClampNeg).toInt64)) ≤ x3) → (∃ b38 : Nat, mR M v0 17 = some b38 ∧ (yK Y b38 = 101 ∧ (vp_in x4 (yN Y b38) ∧ (f_X12_sealed_54 Y x4 again12 (v5 + ((mI M b38 x4.toNatClampNeg).toInt64))))))))))))
def f_X12_sealed (Y : Ly) (v0 : Nat) (v1 : Int64) (v3 : Int32) (v4 : Int32) (v5 : Int64) (M : Mm) (Kn : Mm → Prop) : Prop :=
  yK Y v0 = 12 ∧ (∀ x2 : Int32, x2 = mI M v0 11 → (∃ n, LOOP2 (L_X12_sealed_12 Y v0 v1 v3 v4 v5 M Kn x2) n 0 0))
set_option maxHeartbeats 4000000 in
set_option maxRecDepth 100000 in
theorem m_X12_sealed (l : Launch) (D : va_G) (cy : Cy) (tq sz : Nat) (Y : Ly) (v0 : Nat) (v1 : Int64) (v3 : Int32) (v4 : Int32) (v5 : Int64) (M : Mm) (Kn : Mm → Prop) : Met l yX12_sealed (Cond.code yX12_sealed cX12_sealed 11 none :: TT) rm_X12_sealed (PcG D cy tq [.ref v0, .long v1, .int v3, .int v4, .long v5] sz Y M (f_X12_sealed Y v0 v1 v3 v4 v5 M Kn)) (va_Qv Kn (BG D cy (Am Y sz) Y) (Am Y sz)) 0 0 (Am Y sz) := by
  refine Met.ofW (cc := cX12_sealed) (maxL := 11) (ret := none) (by decide) rfl ?_
  intro p e s m args below meth c s₁ B hml hv
  obtain ⟨hargs, hsz, hW, hK, hC, hf⟩ := hv
  subst hsz
  have hx := B.exec
  have hb := B.bytes
  have hr := B.returns
  have hts : ∀ w ∈ TT, w.before args s = true := fun w h => atoms_spec (ws := Cond.code yX12_sealed cX12_sealed 11 none :: TT) B.pre w (List.mem_cons_of_mem _ h)
  have hown : s.vm.findClass RX12 = some m.cls := findClass_of_methodNamed B.named
  have hlocks := B.notSynchronized
  replace hW := Wd_self (sz := s.heap.size) hW
  generalize hAe : Am Y s.heap.size = A at hW hC ⊢
  have hA : ∀ q : Nat, s.heap.size ≤ q → A q := fun q h => by rw [← hAe]; exact Or.inr h
  clear hAe
  have hS : va_S A s.heap s.heap [] := va_S.rf
  obtain ⟨ls, hE, hl⟩ := gm_entry m [.ref v0, .long v1, .int v3, .int v4, .long v5] (n := 11) hargs (Nat.le_of_ble_eq_true rfl)
  rw [hE]
  have hl : lv_has ls 11 [(0, .ref v0), (1, .long v1), (3, .int v3), (4, .int v4), (5, .long v5)] := hl
  show W p l e rm_X12_sealed s m args below meth c s.heap [] 0 0 (MQ below (va_Qv Kn (BG D cy A Y) A) args s 0 0 A) (F0 m 0 ls [])
  unfold f_X12_sealed at hf
  refine lv_aload_n hx hb dX12_sealed_0 rfl (lv_at hl 0 rfl) ?_
  obtain ⟨k1, hf⟩ := hf
  refine gm_getI (C := RX12) (T := TX12) (N := 68) (j := 11) hx hb hts inT_12 hown hK hW k1 (by decide) rfl (by decide) rfl (hts _ kw_1327) rfl dX12_sealed_1 ?_
  refine lv_topi (fun x2 ex2 => ?_)
  replace hf := hf x2 ex2
  refine lv_istore (lv' := [(7, .int x2), (0, .ref v0), (1, .long v1), (3, .int v3), (4, .int v4), (5, .long v5)]) hx hb dX12_sealed_4 hl (by decide) rfl (fun ls hl => ?_)
  refine lv_lconst (v := 0) hx hb dX12_sealed_6 (by decide) ?_
  refine lv_lstore (lv' := [(8, .long 0), (7, .int x2), (0, .ref v0), (1, .long v1), (3, .int v3), (4, .int v4), (5, .long v5)]) hx hb dX12_sealed_7 hl (by decide) rfl (fun ls hl => ?_)
  refine lv_iconst (v := 0) hx hb dX12_sealed_9 (by decide +kernel) ?_
  refine lv_istore (lv' := [(10, .int 0), (8, .long 0), (7, .int x2), (0, .ref v0), (1, .long v1), (3, .int v3), (4, .int v4), (5, .long v5)]) hx hb dX12_sealed_10 hl (by decide) rfl (fun ls hl => ?_)
  obtain ⟨n12, hf⟩ := hf
  have lp12 : ∀ (n12 : Nat) (x3 : Int64) (x4 : Int32) (H : Heap) (locs : List Loc) (ls : Array Slot), lv_has ls 11 [(0, .ref v0), (1, .long v1), (3, .int v3), (4, .int v4), (5, .long v5), (7, .int x2), (8, .long x3), (10, .int x4)] → Wd D cy A Y M H → va_S A s.heap H locs → LOOP2 (L_X12_sealed_12 Y v0 v1 v3 v4 v5 M Kn x2) n12 x3 x4 → W p l e rm_X12_sealed s m args below meth c H locs 0 0 (MQ below (va_Qv Kn (BG D cy A Y) A) args s 0 0 A) (F0 m 12 ls []) := by
    intro n12
    induction n12 with
    | zero => intro x3 x4 H locs ls hl hW hS hf; exact hf.elim
    | succ n12 ih12 =>
      intro x3 x4 H locs ls hl hW hS hf
      replace hf : L_X12_sealed_12 Y v0 v1 v3 v4 v5 M Kn x2 x3 x4 (LOOP2 (L_X12_sealed_12 Y v0 v1 v3 v4 v5 M Kn x2) n12) := hf
      unfold L_X12_sealed_12 at hf
      refine lv_iload hx hb dX12_sealed_12 (lv_at hl 7 rfl) ?_
      refine lv_aload_n hx hb dX12_sealed_14 rfl (lv_at hl 0 rfl) ?_
      refine gm_getI (C := RX12) (T := TX12) (N := 68) (j := 12) hx hb hts inT_12 hown hK hW k1 (by decide) rfl (by decide) rfl (hts _ kw_1328) rfl dX12_sealed_15 ?_
      refine lv_icmp_ge (tgt := 62) hx hb dX12_sealed_18 (by decide) (fun c5 => ?_) (fun c5 => ?_)
      · replace hf := hf.1 c5
        refine lv_aload_n hx hb dX12_sealed_62 rfl (lv_at hl 0 rfl) ?_
        refine lv_lconst (v := 0) hx hb dX12_sealed_63 (by decide) ?_
        refine lv_bipush (v := 8) hx hb dX12_sealed_64 (by decide +kernel) ?_
        refine gm_cv (va_runV (As := [.long 0, .int 8]) (rest := []) ⟨hx, hb, hml, hown, hts⟩ (m_X12_put l D cy tq _ Y _ _ _ _ _) (cwV 2 hts (good_V kw_1462 kw_1463 kw_1823 kw_12 kw_1464) rfl rfl rfl (by decide +kernel) ⟨Nat.le_of_ble_eq_true rfl, Nat.le_of_ble_eq_true rfl⟩) (gm_preV hK hW hC hS hA k1 (by decide) (q := (RX12, TX12, 68)) rfl rfl hf) rfl rfl hl.1 rfl (lv_room (Nat.le_of_ble_eq_true rfl)) dX12_sealed_66 ⟨Nat.le_of_ble_eq_true rfl, Nat.le_of_ble_eq_true rfl⟩) hW hS hA (fun M6 H locs hW hS hf => ?_)
        refine lv_aload_n hx hb dX12_sealed_69 rfl (lv_at hl 0 rfl) ?_
        refine lv_bipush (v := 49) hx hb dX12_sealed_70 (by decide +kernel) ?_
        refine lv_aload_n hx hb dX12_sealed_72 rfl (lv_at hl 0 rfl) ?_
        refine gm_ci (va_runV (As := []) (rest := [.int 49, .ref v0]) ⟨hx, hb, hml, hown, hts⟩ (m_X12_weight l D cy tq _ Y _ _ _) (cwV 0 hts (good_V kw_1478 kw_1479 kw_1824 kw_12 kw_1480) rfl rfl rfl (by decide +kernel) ⟨Nat.le_of_ble_eq_true rfl, Nat.le_of_ble_eq_true rfl⟩) (gm_preV hK hW hC hS hA k1 (by decide) (q := (RX12, TX12, 68)) rfl rfl hf) rfl rfl hl.1 rfl (lv_room (Nat.le_of_ble_eq_true rfl)) dX12_sealed_73 ⟨Nat.le_of_ble_eq_true rfl, Nat.le_of_ble_eq_true rfl⟩) hW hS hA (fun r8 M7 H locs hW hS hf => ?_)
        refine lv_iadd hx hb dX12_sealed_76 ?_
        refine lv_i2l hx hb dX12_sealed_77 rfl ?_
        refine lv_iconst (v := 4) hx hb dX12_sealed_78 (by decide +kernel) ?_
        refine gm_cv (va_runV (As := [.long ((49 + r8).toInt64), .int 4]) (rest := []) ⟨hx, hb, hml, hown, hts⟩ (m_X12_put l D cy tq _ Y _ _ _ _ _) (cwV 2 hts (good_V kw_1462 kw_1463 kw_1823 kw_12 kw_1464) rfl rfl rfl (by decide +kernel) ⟨Nat.le_of_ble_eq_true rfl, Nat.le_of_ble_eq_true rfl⟩) (gm_preV hK hW hC hS hA k1 (by decide) (q := (RX12, TX12, 68)) rfl rfl hf) rfl rfl hl.1 rfl (lv_room (Nat.le_of_ble_eq_true rfl)) dX12_sealed_79 ⟨Nat.le_of_ble_eq_true rfl, Nat.le_of_ble_eq_true rfl⟩) hW hS hA (fun M9 H locs hW hS hf => ?_)
        refine lv_aload_n hx hb dX12_sealed_82 rfl (lv_at hl 0 rfl) ?_
        refine lv_lconst (v := 0) hx hb dX12_sealed_83 (by decide) ?_
        refine lv_iconst (v := 4) hx hb dX12_sealed_84 (by decide +kernel) ?_
        refine gm_cv (va_runV (As := [.long 0, .int 4]) (rest := []) ⟨hx, hb, hml, hown, hts⟩ (m_X12_put l D cy tq _ Y _ _ _ _ _) (cwV 2 hts (good_V kw_1462 kw_1463 kw_1823 kw_12 kw_1464) rfl rfl rfl (by decide +kernel) ⟨Nat.le_of_ble_eq_true rfl, Nat.le_of_ble_eq_true rfl⟩) (gm_preV hK hW hC hS hA k1 (by decide) (q := (RX12, TX12, 68)) rfl rfl hf) rfl rfl hl.1 rfl (lv_room (Nat.le_of_ble_eq_true rfl)) dX12_sealed_85 ⟨Nat.le_of_ble_eq_true rfl, Nat.le_of_ble_eq_true rfl⟩) hW hS hA (fun M10 H locs hW hS hf => ?_)
        refine lv_aload_n hx hb dX12_sealed_88 rfl (lv_at hl 0 rfl) ?_
        refine lv_ldc2 (v := 2) hx hb hown (hts _ kw_1488) dX12_sealed_89 ?_
        refine lv_iconst (v := 1) hx hb dX12_sealed_92 (by decide +kernel) ?_
        refine gm_cv (va_runV (As := [.long 2, .int 1]) (rest := []) ⟨hx, hb, hml, hown, hts⟩ (m_X12_put l D cy tq _ Y _ _ _ _ _) (cwV 2 hts (good_V kw_1462 kw_1463 kw_1823 kw_12 kw_1464) rfl rfl rfl (by decide +kernel) ⟨Nat.le_of_ble_eq_true rfl, Nat.le_of_ble_eq_true rfl⟩) (gm_preV hK hW hC hS hA k1 (by decide) (q := (RX12, TX12, 68)) rfl rfl hf) rfl rfl hl.1 rfl (lv_room (Nat.le_of_ble_eq_true rfl)) dX12_sealed_93 ⟨Nat.le_of_ble_eq_true rfl, Nat.le_of_ble_eq_true rfl⟩) hW hS hA (fun M11 H locs hW hS hf => ?_)
        refine lv_aload_n hx hb dX12_sealed_96 rfl (lv_at hl 0 rfl) ?_
        refine lv_lconst (v := 0) hx hb dX12_sealed_97 (by decide) ?_
        refine lv_iconst (v := 4) hx hb dX12_sealed_98 (by decide +kernel) ?_
        refine gm_cv (va_runV (As := [.long 0, .int 4]) (rest := []) ⟨hx, hb, hml, hown, hts⟩ (m_X12_put l D cy tq _ Y _ _ _ _ _) (cwV 2 hts (good_V kw_1462 kw_1463 kw_1823 kw_12 kw_1464) rfl rfl rfl (by decide +kernel) ⟨Nat.le_of_ble_eq_true rfl, Nat.le_of_ble_eq_true rfl⟩) (gm_preV hK hW hC hS hA k1 (by decide) (q := (RX12, TX12, 68)) rfl rfl hf) rfl rfl hl.1 rfl (lv_room (Nat.le_of_ble_eq_true rfl)) dX12_sealed_99 ⟨Nat.le_of_ble_eq_true rfl, Nat.le_of_ble_eq_true rfl⟩) hW hS hA (fun M12 H locs hW hS hf => ?_)
        refine lv_aload_n hx hb dX12_sealed_102 rfl (lv_at hl 0 rfl) ?_
        refine lv_lconst (v := 0) hx hb dX12_sealed_103 (by decide) ?_
        refine lv_iconst (v := 2) hx hb dX12_sealed_104 (by decide +kernel) ?_
        refine gm_cv (va_runV (As := [.long 0, .int 2]) (rest := []) ⟨hx, hb, hml, hown, hts⟩ (m_X12_put l D cy tq _ Y _ _ _ _ _) (cwV 2 hts (good_V kw_1462 kw_1463 kw_1823 kw_12 kw_1464) rfl rfl rfl (by decide +kernel) ⟨Nat.le_of_ble_eq_true rfl, Nat.le_of_ble_eq_true rfl⟩) (gm_preV hK hW hC hS hA k1 (by decide) (q := (RX12, TX12, 68)) rfl rfl hf) rfl rfl hl.1 rfl (lv_room (Nat.le_of_ble_eq_true rfl)) dX12_sealed_105 ⟨Nat.le_of_ble_eq_true rfl, Nat.le_of_ble_eq_true rfl⟩) hW hS hA (fun M13 H locs hW hS hf => ?_)
        refine lv_aload_n hx hb dX12_sealed_108 rfl (lv_at hl 0 rfl) ?_
        refine lv_aload_n hx hb dX12_sealed_109 rfl (lv_at hl 0 rfl) ?_
        refine gm_getI (C := RX12) (T := TX12) (N := 68) (j := 12) hx hb hts inT_12 hown hK hW k1 (by decide) rfl (by decide) rfl (hts _ kw_1328) rfl dX12_sealed_110 ?_
        refine lv_iconst (v := 1) hx hb dX12_sealed_113 (by decide +kernel) ?_
        refine lv_isub hx hb dX12_sealed_114 ?_
        refine lv_i2l hx hb dX12_sealed_115 rfl ?_
        refine lv_iconst (v := 4) hx hb dX12_sealed_116 (by decide +kernel) ?_
        refine gm_cv (va_runV (As := [.long (((mI M13 v0 12) - 1).toInt64), .int 4]) (rest := []) ⟨hx, hb, hml, hown, hts⟩ (m_X12_put l D cy tq _ Y _ _ _ _ _) (cwV 2 hts (good_V kw_1462 kw_1463 kw_1823 kw_12 kw_1464) rfl rfl rfl (by decide +kernel) ⟨Nat.le_of_ble_eq_true rfl, Nat.le_of_ble_eq_true rfl⟩) (gm_preV hK hW hC hS hA k1 (by decide) (q := (RX12, TX12, 68)) rfl rfl hf) rfl rfl hl.1 rfl (lv_room (Nat.le_of_ble_eq_true rfl)) dX12_sealed_117 ⟨Nat.le_of_ble_eq_true rfl, Nat.le_of_ble_eq_true rfl⟩) hW hS hA (fun M14 H locs hW hS hf => ?_)
        refine lv_aload_n hx hb dX12_sealed_120 rfl (lv_at hl 0 rfl) ?_
        refine lv_lload hx hb dX12_sealed_121 (lv_at hl 4 rfl) ?_
        refine lv_bipush (v := 8) hx hb dX12_sealed_123 (by decide +kernel) ?_
        refine gm_cv (va_runV (As := [.long v5, .int 8]) (rest := []) ⟨hx, hb, hml, hown, hts⟩ (m_X12_put l D cy tq _ Y _ _ _ _ _) (cwV 2 hts (good_V kw_1462 kw_1463 kw_1823 kw_12 kw_1464) rfl rfl rfl (by decide +kernel) ⟨Nat.le_of_ble_eq_true rfl, Nat.le_of_ble_eq_true rfl⟩) (gm_preV hK hW hC hS hA k1 (by decide) (q := (RX12, TX12, 68)) rfl rfl hf) rfl rfl hl.1 rfl (lv_room (Nat.le_of_ble_eq_true rfl)) dX12_sealed_125 ⟨Nat.le_of_ble_eq_true rfl, Nat.le_of_ble_eq_true rfl⟩) hW hS hA (fun M15 H locs hW hS hf => ?_)
        refine lv_aload_n hx hb dX12_sealed_128 rfl (lv_at hl 0 rfl) ?_
        refine lv_lload hx hb dX12_sealed_129 (lv_at hl 6 rfl) ?_
        refine lv_bipush (v := 8) hx hb dX12_sealed_131 (by decide +kernel) ?_
        refine gm_cv (va_runV (As := [.long x3, .int 8]) (rest := []) ⟨hx, hb, hml, hown, hts⟩ (m_X12_put l D cy tq _ Y _ _ _ _ _) (cwV 2 hts (good_V kw_1462 kw_1463 kw_1823 kw_12 kw_1464) rfl rfl rfl (by decide +kernel) ⟨Nat.le_of_ble_eq_true rfl, Nat.le_of_ble_eq_true rfl⟩) (gm_preV hK hW hC hS hA k1 (by decide) (q := (RX12, TX12, 68)) rfl rfl hf) rfl rfl hl.1 rfl (lv_room (Nat.le_of_ble_eq_true rfl)) dX12_sealed_133 ⟨Nat.le_of_ble_eq_true rfl, Nat.le_of_ble_eq_true rfl⟩) hW hS hA (fun M16 H locs hW hS hf => ?_)
        refine lv_aload_n hx hb dX12_sealed_136 rfl (lv_at hl 0 rfl) ?_
        refine lv_lload_n hx hb dX12_sealed_137 rfl (lv_at hl 1 rfl) ?_
        refine lv_bipush (v := 8) hx hb dX12_sealed_138 (by decide +kernel) ?_
        refine gm_cv (va_runV (As := [.long v1, .int 8]) (rest := []) ⟨hx, hb, hml, hown, hts⟩ (m_X12_put l D cy tq _ Y _ _ _ _ _) (cwV 2 hts (good_V kw_1462 kw_1463 kw_1823 kw_12 kw_1464) rfl rfl rfl (by decide +kernel) ⟨Nat.le_of_ble_eq_true rfl, Nat.le_of_ble_eq_true rfl⟩) (gm_preV hK hW hC hS hA k1 (by decide) (q := (RX12, TX12, 68)) rfl rfl hf) rfl rfl hl.1 rfl (lv_room (Nat.le_of_ble_eq_true rfl)) dX12_sealed_140 ⟨Nat.le_of_ble_eq_true rfl, Nat.le_of_ble_eq_true rfl⟩) hW hS hA (fun M17 H locs hW hS hf => ?_)
        refine lv_aload_n hx hb dX12_sealed_143 rfl (lv_at hl 0 rfl) ?_
        refine lv_iload_n hx hb dX12_sealed_144 rfl (lv_at hl 2 rfl) ?_
        refine lv_i2l hx hb dX12_sealed_145 rfl ?_
        refine lv_iconst (v := 2) hx hb dX12_sealed_146 (by decide +kernel) ?_
        refine gm_cv (va_runV (As := [.long v3.toInt64, .int 2]) (rest := []) ⟨hx, hb, hml, hown, hts⟩ (m_X12_put l D cy tq _ Y _ _ _ _ _) (cwV 2 hts (good_V kw_1462 kw_1463 kw_1823 kw_12 kw_1464) rfl rfl rfl (by decide +kernel) ⟨Nat.le_of_ble_eq_true rfl, Nat.le_of_ble_eq_true rfl⟩) (gm_preV hK hW hC hS hA k1 (by decide) (q := (RX12, TX12, 68)) rfl rfl hf) rfl rfl hl.1 rfl (lv_room (Nat.le_of_ble_eq_true rfl)) dX12_sealed_147 ⟨Nat.le_of_ble_eq_true rfl, Nat.le_of_ble_eq_true rfl⟩) hW hS hA (fun M18 H locs hW hS hf => ?_)
        refine lv_aload_n hx hb dX12_sealed_150 rfl (lv_at hl 0 rfl) ?_
        refine lv_iload hx hb dX12_sealed_151 (lv_at hl 3 rfl) ?_
        refine lv_i2l hx hb dX12_sealed_153 rfl ?_
        refine lv_iconst (v := 4) hx hb dX12_sealed_154 (by decide +kernel) ?_
        refine gm_cv (va_runV (As := [.long v4.toInt64, .int 4]) (rest := []) ⟨hx, hb, hml, hown, hts⟩ (m_X12_put l D cy tq _ Y _ _ _ _ _) (cwV 2 hts (good_V kw_1462 kw_1463 kw_1823 kw_12 kw_1464) rfl rfl rfl (by decide +kernel) ⟨Nat.le_of_ble_eq_true rfl, Nat.le_of_ble_eq_true rfl⟩) (gm_preV hK hW hC hS hA k1 (by decide) (q := (RX12, TX12, 68)) rfl rfl hf) rfl rfl hl.1 rfl (lv_room (Nat.le_of_ble_eq_true rfl)) dX12_sealed_155 ⟨Nat.le_of_ble_eq_true rfl, Nat.le_of_ble_eq_true rfl⟩) hW hS hA (fun M19 H locs hW hS hf => ?_)
        refine lv_aload_n hx hb dX12_sealed_158 rfl (lv_at hl 0 rfl) ?_
        refine lv_aload_n hx hb dX12_sealed_159 rfl (lv_at hl 0 rfl) ?_
        refine gm_getI (C := RX12) (T := TX12) (N := 68) (j := 12) hx hb hts inT_12 hown hK hW k1 (by decide) rfl (by decide) rfl (hts _ kw_1328) rfl dX12_sealed_160 ?_
        refine lv_i2l hx hb dX12_sealed_163 rfl ?_
        refine lv_iconst (v := 4) hx hb dX12_sealed_164 (by decide +kernel) ?_
        refine gm_cv (va_runV (As := [.long ((mI M19 v0 12).toInt64), .int 4]) (rest := []) ⟨hx, hb, hml, hown, hts⟩ (m_X12_put l D cy tq _ Y _ _ _ _ _) (cwV 2 hts (good_V kw_1462 kw_1463 kw_1823 kw_12 kw_1464) rfl rfl rfl (by decide +kernel) ⟨Nat.le_of_ble_eq_true rfl, Nat.le_of_ble_eq_true rfl⟩) (gm_preV hK hW hC hS hA k1 (by decide) (q := (RX12, TX12, 68)) rfl rfl hf) rfl rfl hl.1 rfl (lv_room (Nat.le_of_ble_eq_true rfl)) dX12_sealed_165 ⟨Nat.le_of_ble_eq_true rfl, Nat.le_of_ble_eq_true rfl⟩) hW hS hA (fun M20 H locs hW hS hf => ?_)
        refine lv_iconst (v := 0) hx hb dX12_sealed_168 (by decide +kernel) ?_
        refine lv_istore (lv' := [(10, .int 0), (0, .ref v0), (1, .long v1), (3, .int v3), (4, .int v4), (5, .long v5), (7, .int x2), (8, .long x3)]) hx hb dX12_sealed_169 hl (by decide) rfl (fun ls hl => ?_)
        obtain ⟨n171, hf⟩ := hf
        have lp171 : ∀ (n171 : Nat) (x21 : Int32) (M22 : Mm) (H : Heap) (locs : List Loc) (ls : Array Slot), lv_has ls 11 [(0, .ref v0), (7, .int x2), (10, .int x21)] → Wd D cy A Y M22 H → va_S A s.heap H locs → LOOP2 (L_X12_sealed_171 Y v0 Kn x2) n171 x21 M22 → W p l e rm_X12_sealed s m args below meth c H locs 0 0 (MQ below (va_Qv Kn (BG D cy A Y) A) args s 0 0 A) (F0 m 171 ls []) := by
          intro n171
          induction n171 with
          | zero => intro x21 M22 H locs ls hl hW hS hf; exact hf.elim
          | succ n171 ih171 =>
            intro x21 M22 H locs ls hl hW hS hf
            replace hf : L_X12_sealed_171 Y v0 Kn x2 x21 M22 (LOOP2 (L_X12_sealed_171 Y v0 Kn x2) n171) := hf
            unfold L_X12_sealed_171 at hf
            refine lv_iload hx hb dX12_sealed_171 (lv_at hl 2 rfl) ?_
            refine lv_aload_n hx hb dX12_sealed_173 rfl (lv_at hl 0 rfl) ?_
            refine gm_getI (C := RX12) (T := TX12) (N := 68) (j := 12) hx hb hts inT_12 hown hK hW k1 (by decide) rfl (by decide) rfl (hts _ kw_1328) rfl dX12_sealed_174 ?_
            refine lv_icmp_ge (tgt := 192) hx hb dX12_sealed_177 (by decide) (fun c23 => ?_) (fun c23 => ?_)
            · replace hf := hf.1 c23
              refine lv_aload_n hx hb dX12_sealed_192 rfl (lv_at hl 0 rfl) ?_
              obtain ⟨b24, hb24, hf⟩ := hf
              refine gm_getR (C := RX12) (T := TX12) (N := 68) (j := 10) hx hb hts inT_12 hown hK hW k1 (by decide) rfl (by decide) rfl (hts _ kw_1326) rfl dX12_sealed_193 hb24 ?_
              refine lv_iload hx hb dX12_sealed_196 (lv_at hl 1 rfl) ?_
              refine lv_bipush (v := 17) hx hb dX12_sealed_198 (by decide +kernel) ?_
              refine lv_iadd hx hb dX12_sealed_200 ?_
              refine lv_aload_n hx hb dX12_sealed_201 rfl (lv_at hl 0 rfl) ?_
              obtain ⟨b25, hb25, hf⟩ := hf
              refine gm_getR (C := RX12) (T := TX12) (N := 68) (j := 10) hx hb hts inT_12 hown hK hW k1 (by decide) rfl (by decide) rfl (hts _ kw_1326) rfl dX12_sealed_202 hb25 ?_
              refine lv_iload hx hb dX12_sealed_205 (lv_at hl 1 rfl) ?_
              refine lv_bipush (v := 21) hx hb dX12_sealed_207 (by decide +kernel) ?_
              refine lv_iadd hx hb dX12_sealed_209 ?_
              refine lv_aload_n hx hb dX12_sealed_210 rfl (lv_at hl 0 rfl) ?_
              refine gm_getI (C := RX12) (T := TX12) (N := 68) (j := 11) hx hb hts inT_12 hown hK hW k1 (by decide) rfl (by decide) rfl (hts _ kw_1327) rfl dX12_sealed_211 ?_
              refine gm_cl (va_runS (As := [.ref b25, .int (x2 + 21), .int (mI M22 v0 11)]) (rest := [.int (x2 + 17), .ref b24]) ⟨hx, hb, hml, hown, hts⟩ (m_X12_sum l D cy tq _ Y _ _ _ _ _) (va_cwS 3 hts (good_S kw_1505 kw_1506 kw_12 kw_1507) rfl rfl rfl (by decide +kernel) ⟨Nat.le_of_ble_eq_true rfl, Nat.le_of_ble_eq_true rfl⟩) (gm_preS hK hW hC hS hA hf) rfl rfl hl.1 rfl (lv_room (Nat.le_of_ble_eq_true rfl)) dX12_sealed_214 ⟨Nat.le_of_ble_eq_true rfl, Nat.le_of_ble_eq_true rfl⟩) hW hS hA (fun r27 M26 H locs hW hS hf => ?_)
              refine lv_iconst (v := 4) hx hb dX12_sealed_217 (by decide +kernel) ?_
              refine gm_cv (va_runS (As := [.ref b24, .int (x2 + 17), .long r27, .int 4]) (rest := []) ⟨hx, hb, hml, hown, hts⟩ (m_X12_set l D cy tq _ Y _ _ _ _ _ _) (va_cwS 4 hts (good_S kw_1510 kw_1511 kw_12 kw_1512) rfl rfl rfl (by decide +kernel) ⟨Nat.le_of_ble_eq_true rfl, Nat.le_of_ble_eq_true rfl⟩) (gm_preS hK hW hC hS hA hf) rfl rfl hl.1 rfl (lv_room (Nat.le_of_ble_eq_true rfl)) dX12_sealed_218 ⟨Nat.le_of_ble_eq_true rfl, Nat.le_of_ble_eq_true rfl⟩) hW hS hA (fun M28 H locs hW hS hf => ?_)
              refine lv_aload_n hx hb dX12_sealed_221 rfl (lv_at hl 0 rfl) ?_
              refine lv_iconst (v := 0) hx hb dX12_sealed_222 (by decide +kernel) ?_
              refine gm_putI (C := RX12) (T := TX12) (N := 68) (j := 12) hx hb hts inT_12 tyX12 tyX12_ok nmX12 hown hK hW hS k1 (by decide) rfl (by decide) rfl (hts _ kw_1328) rfl rfl rfl rfl dX12_sealed_223 (fun H locs M29 eM29 hW hS => ?_)
              replace hf := hf M29 eM29
              exact gm_vret hx hb hr hlocks hW hS hf dX12_sealed_226
            · replace hf := hf.2 c23
              refine lv_aload_n hx hb dX12_sealed_180 rfl (lv_at hl 0 rfl) ?_
              refine lv_iload hx hb dX12_sealed_181 (lv_at hl 2 rfl) ?_
              refine gm_cv (va_runV (As := [.int x21]) (rest := []) ⟨hx, hb, hml, hown, hts⟩ (m_X12_putRecord l D cy tq _ Y _ _ _ _) (cwV 1 hts (good_V kw_1498 kw_1499 kw_1827 kw_12 kw_1500) rfl rfl rfl (by decide +kernel) ⟨Nat.le_of_ble_eq_true rfl, Nat.le_of_ble_eq_true rfl⟩) (gm_preV hK hW hC hS hA k1 (by decide) (q := (RX12, TX12, 68)) rfl rfl hf) rfl rfl hl.1 rfl (lv_room (Nat.le_of_ble_eq_true rfl)) dX12_sealed_183 ⟨Nat.le_of_ble_eq_true rfl, Nat.le_of_ble_eq_true rfl⟩) hW hS hA (fun M30 H locs hW hS hf => ?_)
              obtain ⟨x31, ex31⟩ : ∃ y : Int32, y = x21 + 1 := ⟨_, rfl⟩
              replace hf := hf x31 ex31
              refine lv_iinc (v := x31) (lv' := [(10, .int x31), (0, .ref v0), (7, .int x2)]) hx hb dX12_sealed_186 hl (k := 2) rfl (by rw [ex31]; rfl) (by decide) rfl (fun ls hl => ?_)
              refine lv_goto (tgt := 171) hx hb dX12_sealed_189 (by decide) ?_
              exact ih171 _ _ _ _ _ (lv_sub hl [1, 2, 0] rfl) hW hS hf
        exact lp171 n171 _ _ _ _ _ (lv_sub hl [1, 6, 0] rfl) hW hS hf
      · replace hf := hf.2 c5
        refine lv_lload hx hb dX12_sealed_21 (lv_at hl 4 rfl) ?_
        refine lv_aload_n hx hb dX12_sealed_23 rfl (lv_at hl 0 rfl) ?_
        obtain ⟨b32, hb32, hf⟩ := hf
        refine gm_getR (C := RX12) (T := TX12) (N := 68) (j := 17) hx hb hts inT_12 hown hK hW k1 (by decide) rfl (by decide) rfl (hts _ kw_1333) rfl dX12_sealed_24 hb32 ?_
        refine lv_iload hx hb dX12_sealed_27 (lv_at hl 7 rfl) ?_
        obtain ⟨k33, hf⟩ := hf
        obtain ⟨h34, hf⟩ := hf
        refine gm_iald hx hb hK hW k33 h34 dX12_sealed_29 ?_
        refine lv_i2l hx hb dX12_sealed_30 rfl ?_
        refine lv_ladd hx hb dX12_sealed_31 ?_
        refine lv_lload hx hb dX12_sealed_32 (lv_at hl 6 rfl) ?_
        refine W.lcmp hx hb dX12_sealed_34 ?_
        have j54 : ∀ (y35 : Int64) (H : Heap) (locs : List Loc) (ls : Array Slot), lv_has ls 11 [(0, .ref v0), (1, .long v1), (3, .int v3), (4, .int v4), (5, .long v5), (7, .int x2), (10, .int x4)] → Wd D cy A Y M H → va_S A s.heap H locs → f_X12_sealed_54 Y x4 (LOOP2 (L_X12_sealed_12 Y v0 v1 v3 v4 v5 M Kn x2) n12) y35 → W p l e rm_X12_sealed s m args below meth c H locs 0 0 (MQ below (va_Qv Kn (BG D cy A Y) A) args s 0 0 A) (F0 m 54 ls [.long y35]) := by
          intro y35 H locs ls hl hW hS hf
          unfold f_X12_sealed_54 at hf
          refine lv_lstore (lv' := [(8, .long y35), (0, .ref v0), (1, .long v1), (3, .int v3), (4, .int v4), (5, .long v5), (7, .int x2), (10, .int x4)]) hx hb dX12_sealed_54 hl (by decide) rfl (fun ls hl => ?_)
          obtain ⟨x36, ex36⟩ : ∃ y : Int32, y = x4 + 1 := ⟨_, rfl⟩
          replace hf := hf x36 ex36
          refine lv_iinc (v := x36) (lv' := [(10, .int x36), (8, .long y35), (0, .ref v0), (1, .long v1), (3, .int v3), (4, .int v4), (5, .long v5), (7, .int x2)]) hx hb dX12_sealed_56 hl (k := 7) rfl (by rw [ex36]; rfl) (by decide) rfl (fun ls hl => ?_)
          refine lv_goto (tgt := 12) hx hb dX12_sealed_59 (by decide) ?_
          exact ih12 _ _ _ _ _ (lv_sub hl [2, 3, 4, 5, 6, 7, 1, 0] rfl) hW hS hf
        refine lv_if_le (tgt := 52) hx hb dX12_sealed_35 (by decide) (fun c37 => ?_) (fun c37 => ?_)
        · replace hf := hf.1 (lg_le.mp c37)
          refine lv_lload hx hb dX12_sealed_52 (lv_at hl 6 rfl) ?_
          exact j54 _ _ _ _ (lv_sub hl [0, 1, 2, 3, 4, 5, 7] rfl) hW hS hf
        · replace hf := hf.2 (fun z => c37 (lg_le.mpr z))
          refine lv_lload hx hb dX12_sealed_38 (lv_at hl 4 rfl) ?_
          refine lv_aload_n hx hb dX12_sealed_40 rfl (lv_at hl 0 rfl) ?_
          obtain ⟨b38, hb38, hf⟩ := hf
          refine gm_getR (C := RX12) (T := TX12) (N := 68) (j := 17) hx hb hts inT_12 hown hK hW k1 (by decide) rfl (by decide) rfl (hts _ kw_1333) rfl dX12_sealed_41 hb38 ?_
          refine lv_iload hx hb dX12_sealed_44 (lv_at hl 7 rfl) ?_
          obtain ⟨k39, hf⟩ := hf
          obtain ⟨h40, hf⟩ := hf
          refine gm_iald hx hb hK hW k39 h40 dX12_sealed_46 ?_
          refine lv_i2l hx hb dX12_sealed_47 rfl ?_
          refine lv_ladd hx hb dX12_sealed_48 ?_
          refine lv_goto (tgt := 54) hx hb dX12_sealed_49 (by decide) ?_
          exact j54 _ _ _ _ (lv_sub hl [0, 1, 2, 3, 4, 5, 7] rfl) hW hS hf
  exact lp12 n12 _ _ _ _ _ (lv_sub hl [3, 4, 5, 6, 7, 2, 1, 0] rfl) hW hS hf

abbrev rm_X12_seal : Room := { frames := 6, cells := 0, slots := 0, locals := 181 }
def f_X12_seal_44 (Y : Ly) (v0 : Nat) (v1 : Int64) (v3 : Int32) (v4 : Int32) (v5 : Int64) (Kn : Int32 → Mm → Prop) (y1 : Int32) (M2 : Mm) : Prop :=
  yK Y v0 = 12 ∧ (∀ M4 : Mm, M4 = sI M2 v0 (m1 (mI M2 v0) 0 y1) → (((mI M4 v0 0) ≤ 0 → (f_X12_sealed Y v0 v1 v3 v4 v5 M4 (fun M6 => (Kn (mI M6 v0 11) M6)))) ∧ (¬ ((mI M4 v0 0) ≤ 0) → (Kn 0 M4))))
def f_X12_seal_17 (Y : Ly) (v0 : Nat) (v1 : Int64) (v3 : Int32) (v4 : Int32) (v5 : Int64) (M : Mm) (Kn : Int32 → Mm → Prop) : Prop :=
  f_X12_seal_44 Y v0 v1 v3 v4 v5 Kn 1 M
def f_X12_seal (Y : Ly) (v0 : Nat) (v1 : Int64) (v3 : Int32) (v4 : Int32) (v5 : Int64) (M : Mm) (Kn : Int32 → Mm → Prop) : Prop :=
  (v5 < 0 → (f_X12_seal_17 Y v0 v1 v3 v4 v5 M Kn)) ∧ (¬ (v5 < 0) → ((v5 ≤ 562949953421312 → (yK Y v0 = 12 ∧ (f_X12_weight Y v0 M (fun r11 M10 => (((((mI M v0 11) + 61) + r11) ≤ 16384 → (f_X12_seal_44 Y v0 v1 v3 v4 v5 Kn 0 M10)) ∧ (¬ ((((mI M v0 11) + 61) + r11) ≤ 16384) → (f_X12_seal_44 Y v0 v1 v3 v4 v5 Kn 2 M10))))))) ∧ (¬ (v5 ≤ 562949953421312) → (f_X12_seal_17 Y v0 v1 v3 v4 v5 M Kn))))
set_option maxHeartbeats 4000000 in
set_option maxRecDepth 100000 in
theorem m_X12_seal (l : Launch) (D : va_G) (cy : Cy) (tq sz : Nat) (Y : Ly) (v0 : Nat) (v1 : Int64) (v3 : Int32) (v4 : Int32) (v5 : Int64) (M : Mm) (Kn : Int32 → Mm → Prop) : Met l yX12_seal (Cond.code yX12_seal cX12_seal 7 (some .int) :: TT) rm_X12_seal (PcG D cy tq [.ref v0, .long v1, .int v3, .int v4, .long v5] sz Y M (f_X12_seal Y v0 v1 v3 v4 v5 M Kn)) (va_Qi Kn (BG D cy (Am Y sz) Y) (Am Y sz)) 0 0 (Am Y sz) := by
  refine Met.ofW (cc := cX12_seal) (maxL := 7) (ret := (some .int)) (by decide) rfl ?_
  intro p e s m args below meth c s₁ B hml hv
  obtain ⟨hargs, hsz, hW, hK, hC, hf⟩ := hv
  subst hsz
  have hx := B.exec
  have hb := B.bytes
  have hr := B.returns
  have hts : ∀ w ∈ TT, w.before args s = true := fun w h => atoms_spec (ws := Cond.code yX12_seal cX12_seal 7 (some .int) :: TT) B.pre w (List.mem_cons_of_mem _ h)
  have hown : s.vm.findClass RX12 = some m.cls := findClass_of_methodNamed B.named
  have hlocks := B.notSynchronized
  replace hW := Wd_self (sz := s.heap.size) hW
  generalize hAe : Am Y s.heap.size = A at hW hC ⊢
  have hA : ∀ q : Nat, s.heap.size ≤ q → A q := fun q h => by rw [← hAe]; exact Or.inr h
  clear hAe
  have hS : va_S A s.heap s.heap [] := va_S.rf
  obtain ⟨ls, hE, hl⟩ := gm_entry m [.ref v0, .long v1, .int v3, .int v4, .long v5] (n := 7) hargs (Nat.le_of_ble_eq_true rfl)
  rw [hE]
  have hl : lv_has ls 7 [(0, .ref v0), (1, .long v1), (3, .int v3), (4, .int v4), (5, .long v5)] := hl
  show W p l e rm_X12_seal s m args below meth c s.heap [] 0 0 (MQ below (va_Qi Kn (BG D cy A Y) A) args s 0 0 A) (F0 m 0 ls [])
  unfold f_X12_seal at hf
  refine lv_aload_n hx hb dX12_seal_0 rfl (lv_at hl 0 rfl) ?_
  refine lv_lload hx hb dX12_seal_1 (lv_at hl 4 rfl) ?_
  refine lv_lconst (v := 0) hx hb dX12_seal_3 (by decide) ?_
  refine W.lcmp hx hb dX12_seal_4 ?_
  have j44 : ∀ (y1 : Int32) (M2 : Mm) (H : Heap) (locs : List Loc) (ls : Array Slot), lv_has ls 7 [(0, .ref v0), (1, .long v1), (3, .int v3), (4, .int v4), (5, .long v5)] → Wd D cy A Y M2 H → va_S A s.heap H locs → f_X12_seal_44 Y v0 v1 v3 v4 v5 Kn y1 M2 → W p l e rm_X12_seal s m args below meth c H locs 0 0 (MQ below (va_Qi Kn (BG D cy A Y) A) args s 0 0 A) (F0 m 44 ls [.int y1, .ref v0]) := by
    intro y1 M2 H locs ls hl hW hS hf
    unfold f_X12_seal_44 at hf
    obtain ⟨k3, hf⟩ := hf
    refine gm_putI (C := RX12) (T := TX12) (N := 68) (j := 0) hx hb hts inT_12 tyX12 tyX12_ok nmX12 hown hK hW hS k3 (by decide) rfl (by decide) rfl (hts _ kw_1316) rfl rfl rfl rfl dX12_seal_44 (fun H locs M4 eM4 hW hS => ?_)
    replace hf := hf M4 eM4
    refine lv_aload_n hx hb dX12_seal_47 rfl (lv_at hl 0 rfl) ?_
    refine gm_getI (C := RX12) (T := TX12) (N := 68) (j := 0) hx hb hts inT_12 hown hK hW k3 (by decide) rfl (by decide) rfl (hts _ kw_1316) rfl dX12_seal_48 ?_
    refine lv_if_le (tgt := 56) hx hb dX12_seal_51 (by decide) (fun c5 => ?_) (fun c5 => ?_)
    · replace hf := hf.1 c5
      refine lv_aload_n hx hb dX12_seal_56 rfl (lv_at hl 0 rfl) ?_
      refine lv_lload_n hx hb dX12_seal_57 rfl (lv_at hl 1 rfl) ?_
      refine lv_iload_n hx hb dX12_seal_58 rfl (lv_at hl 2 rfl) ?_
      refine lv_iload hx hb dX12_seal_59 (lv_at hl 3 rfl) ?_
      refine lv_lload hx hb dX12_seal_61 (lv_at hl 4 rfl) ?_
      refine gm_cv (va_runV (As := [.long v1, .int v3, .int v4, .long v5]) (rest := []) ⟨hx, hb, hml, hown, hts⟩ (m_X12_sealed l D cy tq _ Y _ _ _ _ _ _ _) (cwV 4 hts (good_V kw_1495 kw_1496 kw_1826 kw_12 kw_1497) rfl rfl rfl (by decide +kernel) ⟨Nat.le_of_ble_eq_true rfl, Nat.le_of_ble_eq_true rfl⟩) (gm_preV hK hW hC hS hA k3 (by decide) (q := (RX12, TX12, 68)) rfl rfl hf) rfl rfl hl.1 rfl (lv_room (Nat.le_of_ble_eq_true rfl)) dX12_seal_63 ⟨Nat.le_of_ble_eq_true rfl, Nat.le_of_ble_eq_true rfl⟩) hW hS hA (fun M6 H locs hW hS hf => ?_)
      refine lv_aload_n hx hb dX12_seal_66 rfl (lv_at hl 0 rfl) ?_
      refine gm_getI (C := RX12) (T := TX12) (N := 68) (j := 11) hx hb hts inT_12 hown hK hW k3 (by decide) rfl (by decide) rfl (hts _ kw_1327) rfl dX12_seal_67 ?_
      exact gm_iret hx hb hr hlocks hW hS hf dX12_seal_70
    · replace hf := hf.2 c5
      refine lv_iconst (v := 0) hx hb dX12_seal_54 (by decide +kernel) ?_
      exact gm_iret hx hb hr hlocks hW hS hf dX12_seal_55
  have j17 : ∀ (H : Heap) (locs : List Loc) (ls : Array Slot), lv_has ls 7 [(0, .ref v0), (1, .long v1), (3, .int v3), (4, .int v4), (5, .long v5)] → Wd D cy A Y M H → va_S A s.heap H locs → f_X12_seal_17 Y v0 v1 v3 v4 v5 M Kn  → W p l e rm_X12_seal s m args below meth c H locs 0 0 (MQ below (va_Qi Kn (BG D cy A Y) A) args s 0 0 A) (F0 m 17 ls [.ref v0]) := by
    intro  H locs ls hl hW hS hf
    unfold f_X12_seal_17 at hf
    refine lv_iconst (v := 1) hx hb dX12_seal_17 (by decide +kernel) ?_
    refine lv_goto (tgt := 44) hx hb dX12_seal_18 (by decide) ?_
    exact j44 _ _ _ _ _ (lv_sub hl [0, 1, 2, 3, 4] rfl) hW hS hf
  refine lv_if_lt (tgt := 17) hx hb dX12_seal_5 (by decide) (fun c7 => ?_) (fun c7 => ?_)
  · replace hf := hf.1 (lg_lt.mp c7)
    exact j17  _ _ _ (lv_sub hl [0, 1, 2, 3, 4] rfl) hW hS hf
  · replace hf := hf.2 (fun z => c7 (lg_lt.mpr z))
    refine lv_lload hx hb dX12_seal_8 (lv_at hl 4 rfl) ?_
    refine lv_ldc2 (v := 562949953421312) hx hb hown (hts _ kw_1494) dX12_seal_10 ?_
    refine W.lcmp hx hb dX12_seal_13 ?_
    refine lv_if_le (tgt := 21) hx hb dX12_seal_14 (by decide) (fun c8 => ?_) (fun c8 => ?_)
    · replace hf := hf.1 (lg_le.mp c8)
      refine lv_aload_n hx hb dX12_seal_21 rfl (lv_at hl 0 rfl) ?_
      obtain ⟨k9, hf⟩ := hf
      refine gm_getI (C := RX12) (T := TX12) (N := 68) (j := 11) hx hb hts inT_12 hown hK hW k9 (by decide) rfl (by decide) rfl (hts _ kw_1327) rfl dX12_seal_22 ?_
      refine lv_bipush (v := 61) hx hb dX12_seal_25 (by decide +kernel) ?_
      refine lv_iadd hx hb dX12_seal_27 ?_
      refine lv_aload_n hx hb dX12_seal_28 rfl (lv_at hl 0 rfl) ?_
      refine gm_ci (va_runV (As := []) (rest := [.int ((mI M v0 11) + 61), .ref v0]) ⟨hx, hb, hml, hown, hts⟩ (m_X12_weight l D cy tq _ Y _ _ _) (cwV 0 hts (good_V kw_1478 kw_1479 kw_1824 kw_12 kw_1480) rfl rfl rfl (by decide +kernel) ⟨Nat.le_of_ble_eq_true rfl, Nat.le_of_ble_eq_true rfl⟩) (gm_preV hK hW hC hS hA k9 (by decide) (q := (RX12, TX12, 68)) rfl rfl hf) rfl rfl hl.1 rfl (lv_room (Nat.le_of_ble_eq_true rfl)) dX12_seal_29 ⟨Nat.le_of_ble_eq_true rfl, Nat.le_of_ble_eq_true rfl⟩) hW hS hA (fun r11 M10 H locs hW hS hf => ?_)
      refine lv_iadd hx hb dX12_seal_32 ?_
      refine lv_sipush (v := 16384) hx hb dX12_seal_33 (by decide +kernel) ?_
      refine lv_icmp_le (tgt := 43) hx hb dX12_seal_36 (by decide) (fun c12 => ?_) (fun c12 => ?_)
      · replace hf := hf.1 c12
        refine lv_iconst (v := 0) hx hb dX12_seal_43 (by decide +kernel) ?_
        exact j44 _ _ _ _ _ (lv_sub hl [0, 1, 2, 3, 4] rfl) hW hS hf
      · replace hf := hf.2 c12
        refine lv_iconst (v := 2) hx hb dX12_seal_39 (by decide +kernel) ?_
        refine lv_goto (tgt := 44) hx hb dX12_seal_40 (by decide) ?_
        exact j44 _ _ _ _ _ (lv_sub hl [0, 1, 2, 3, 4] rfl) hW hS hf
    · replace hf := hf.2 (fun z => c8 (lg_le.mpr z))
      exact j17  _ _ _ (lv_sub hl [0, 1, 2, 3, 4] rfl) hW hS hf

abbrev rm_X12_number : Room := { frames := 2, cells := 0, slots := 0, locals := 80 }
def L_X12_number_19 (Y : Ly) (v0 : Nat) (v1 : Int32) (v2 : Int32) (M : Mm) (Kn : Int64 → Mm → Prop) (x4 : Int64) (x5 : Int32) (again19 : Int64 → Int32 → Prop) : Prop :=
  (v2 ≤ x5 → (Kn x4 M)) ∧ (¬ (v2 ≤ x5) → (vp_in (v1 + x5) (yN Y v0) ∧ (∀ x8 : Int64, x8 = (x4 <<< ((8 : Int32).toInt64 &&& 63)) ||| ((mI M v0 (v1 + x5).toNatClampNeg).toInt64) → (∀ x9 : Int32, x9 = x5 + 1 → (again19 x8 x9)))))
def f_X12_number_15 (Y : Ly) (v0 : Nat) (v1 : Int32) (v2 : Int32) (M : Mm) (Kn : Int64 → Mm → Prop) (y3 : Int64) : Prop :=
  ∃ n, LOOP2 (L_X12_number_19 Y v0 v1 v2 M Kn) n y3 0
def f_X12_number (Y : Ly) (v0 : Nat) (v1 : Int32) (v2 : Int32) (M : Mm) (Kn : Int64 → Mm → Prop) : Prop :=
  yK Y v0 = 101 ∧ (vp_in v1 (yN Y v0) ∧ (((mI M v0 v1.toNatClampNeg) ≤ 127 → (f_X12_number_15 Y v0 v1 v2 M Kn 0)) ∧ (¬ ((mI M v0 v1.toNatClampNeg) ≤ 127) → (f_X12_number_15 Y v0 v1 v2 M Kn (-1)))))
set_option maxHeartbeats 4000000 in
set_option maxRecDepth 100000 in
theorem m_X12_number (l : Launch) (D : va_G) (cy : Cy) (tq sz : Nat) (Y : Ly) (v0 : Nat) (v1 : Int32) (v2 : Int32) (M : Mm) (Kn : Int64 → Mm → Prop) : Met l yX12_number (Cond.code yX12_number cX12_number 6 (some .long) :: TT) rm_X12_number (PcG D cy tq [.ref v0, .int v1, .int v2] sz Y M (f_X12_number Y v0 v1 v2 M Kn)) (va_Ql Kn (BG D cy (Am Y sz) Y) (Am Y sz)) 0 0 (Am Y sz) := by
  refine Met.ofW (cc := cX12_number) (maxL := 6) (ret := (some .long)) (by decide) rfl ?_
  intro p e s m args below meth c s₁ B hml hv
  obtain ⟨hargs, hsz, hW, hK, hC, hf⟩ := hv
  subst hsz
  have hx := B.exec
  have hb := B.bytes
  have hr := B.returns
  have hts : ∀ w ∈ TT, w.before args s = true := fun w h => atoms_spec (ws := Cond.code yX12_number cX12_number 6 (some .long) :: TT) B.pre w (List.mem_cons_of_mem _ h)
  have hown : s.vm.findClass RX12 = some m.cls := findClass_of_methodNamed B.named
  have hlocks := B.notSynchronized
  replace hW := Wd_self (sz := s.heap.size) hW
  generalize hAe : Am Y s.heap.size = A at hW hC ⊢
  have hA : ∀ q : Nat, s.heap.size ≤ q → A q := fun q h => by rw [← hAe]; exact Or.inr h
  clear hAe
  have hS : va_S A s.heap s.heap [] := va_S.rf
  obtain ⟨ls, hE, hl⟩ := gm_entry m [.ref v0, .int v1, .int v2] (n := 6) hargs (Nat.le_of_ble_eq_true rfl)
  rw [hE]
  have hl : lv_has ls 6 [(0, .ref v0), (1, .int v1), (2, .int v2)] := hl
  show W p l e rm_X12_number s m args below meth c s.heap [] 0 0 (MQ below (va_Ql Kn (BG D cy A Y) A) args s 0 0 A) (F0 m 0 ls [])
  unfold f_X12_number at hf
  refine lv_aload_n hx hb dX12_number_0 rfl (lv_at hl 0 rfl) ?_
  refine lv_iload_n hx hb dX12_number_1 rfl (lv_at hl 1 rfl) ?_
  obtain ⟨k1, hf⟩ := hf
  obtain ⟨h2, hf⟩ := hf
  refine gm_iald hx hb hK hW k1 h2 dX12_number_2 ?_
  refine lv_bipush (v := 127) hx hb dX12_number_3 (by decide +kernel) ?_
  have j15 : ∀ (y3 : Int64) (H : Heap) (locs : List Loc) (ls : Array Slot), lv_has ls 6 [(0, .ref v0), (1, .int v1), (2, .int v2)] → Wd D cy A Y M H → va_S A s.heap H locs → f_X12_number_15 Y v0 v1 v2 M Kn y3 → W p l e rm_X12_number s m args below meth c H locs 0 0 (MQ below (va_Ql Kn (BG D cy A Y) A) args s 0 0 A) (F0 m 15 ls [.long y3]) := by
    intro y3 H locs ls hl hW hS hf
    unfold f_X12_number_15 at hf
    refine lv_lstore_n (lv' := [(3, .long y3), (0, .ref v0), (1, .int v1), (2, .int v2)]) hx hb dX12_number_15 rfl hl (by decide) rfl (fun ls hl => ?_)
    refine lv_iconst (v := 0) hx hb dX12_number_16 (by decide +kernel) ?_
    refine lv_istore (lv' := [(5, .int 0), (3, .long y3), (0, .ref v0), (1, .int v1), (2, .int v2)]) hx hb dX12_number_17 hl (by decide) rfl (fun ls hl => ?_)
    obtain ⟨n19, hf⟩ := hf
    have lp19 : ∀ (n19 : Nat) (x4 : Int64) (x5 : Int32) (H : Heap) (locs : List Loc) (ls : Array Slot), lv_has ls 6 [(0, .ref v0), (1, .int v1), (2, .int v2), (3, .long x4), (5, .int x5)] → Wd D cy A Y M H → va_S A s.heap H locs → LOOP2 (L_X12_number_19 Y v0 v1 v2 M Kn) n19 x4 x5 → W p l e rm_X12_number s m args below meth c H locs 0 0 (MQ below (va_Ql Kn (BG D cy A Y) A) args s 0 0 A) (F0 m 19 ls []) := by
      intro n19
      induction n19 with
      | zero => intro x4 x5 H locs ls hl hW hS hf; exact hf.elim
      | succ n19 ih19 =>
        intro x4 x5 H locs ls hl hW hS hf
        replace hf : L_X12_number_19 Y v0 v1 v2 M Kn x4 x5 (LOOP2 (L_X12_number_19 Y v0 v1 v2 M Kn) n19) := hf
        unfold L_X12_number_19 at hf
        refine lv_iload hx hb dX12_number_19 (lv_at hl 4 rfl) ?_
        refine lv_iload_n hx hb dX12_number_21 rfl (lv_at hl 2 rfl) ?_
        refine lv_icmp_ge (tgt := 44) hx hb dX12_number_22 (by decide) (fun c6 => ?_) (fun c6 => ?_)
        · replace hf := hf.1 c6
          refine lv_lload_n hx hb dX12_number_44 rfl (lv_at hl 3 rfl) ?_
          exact gm_lret hx hb hr hlocks hW hS hf dX12_number_45
        · replace hf := hf.2 c6
          refine lv_lload_n hx hb dX12_number_25 rfl (lv_at hl 3 rfl) ?_
          refine lv_bipush (v := 8) hx hb dX12_number_26 (by decide +kernel) ?_
          refine lv_lshl hx hb dX12_number_28 rfl ?_
          refine lv_aload_n hx hb dX12_number_29 rfl (lv_at hl 0 rfl) ?_
          refine lv_iload_n hx hb dX12_number_30 rfl (lv_at hl 1 rfl) ?_
          refine lv_iload hx hb dX12_number_31 (lv_at hl 4 rfl) ?_
          refine lv_iadd hx hb dX12_number_33 ?_
          obtain ⟨h7, hf⟩ := hf
          refine gm_iald hx hb hK hW k1 h7 dX12_number_34 ?_
          refine lv_i2l hx hb dX12_number_35 rfl ?_
          refine lv_lor hx hb dX12_number_36 ?_
          refine lv_topl (fun x8 ex8 => ?_)
          replace hf := hf x8 ex8
          refine lv_lstore_n (lv' := [(3, .long x8), (0, .ref v0), (1, .int v1), (2, .int v2), (5, .int x5)]) hx hb dX12_number_37 rfl hl (by decide) rfl (fun ls hl => ?_)
          obtain ⟨x9, ex9⟩ : ∃ y : Int32, y = x5 + 1 := ⟨_, rfl⟩
          replace hf := hf x9 ex9
          refine lv_iinc (v := x9) (lv' := [(5, .int x9), (3, .long x8), (0, .ref v0), (1, .int v1), (2, .int v2)]) hx hb dX12_number_38 hl (k := 4) rfl (by rw [ex9]; rfl) (by decide) rfl (fun ls hl => ?_)
          refine lv_goto (tgt := 19) hx hb dX12_number_41 (by decide) ?_
          exact ih19 _ _ _ _ _ (lv_sub hl [2, 3, 4, 1, 0] rfl) hW hS hf
    exact lp19 n19 _ _ _ _ _ (lv_sub hl [2, 3, 4, 1, 0] rfl) hW hS hf
  refine lv_icmp_le (tgt := 14) hx hb dX12_number_5 (by decide) (fun c10 => ?_) (fun c10 => ?_)
  · replace hf := hf.1 c10
    refine lv_lconst (v := 0) hx hb dX12_number_14 (by decide) ?_
    exact j15 _ _ _ _ (lv_sub hl [0, 1, 2] rfl) hW hS hf
  · replace hf := hf.2 c10
    refine lv_ldc2 (v := -1) hx hb hown (hts _ kw_1523) dX12_number_8 ?_
    refine lv_goto (tgt := 15) hx hb dX12_number_11 (by decide) ?_
    exact j15 _ _ _ _ (lv_sub hl [0, 1, 2] rfl) hW hS hf

abbrev rm_X12_begin : Room := { frames := 2, cells := 0, slots := 0, locals := 80 }
def f_X12_begin_42 (Y : Ly) (M : Mm) (Kn : Int64 → Mm → Prop) (x1 : Int64) : Prop :=
  Kn x1 M
def L_X12_begin_6 (Y : Ly) (v0 : Nat) (v1 : Int32) (v2 : Int64) (M : Mm) (Kn : Int64 → Mm → Prop) (x1 : Int64) (x2 : Int32) (again6 : Int64 → Int32 → Prop) : Prop :=
  (v2 ≤ x2.toInt64 → (f_X12_begin_42 Y M Kn x1)) ∧ (¬ (v2 ≤ x2.toInt64) → ((8 ≤ x2 → (f_X12_begin_42 Y M Kn x1)) ∧ (¬ (8 ≤ x2) → (yK Y v0 = 101 ∧ (vp_in (v1 + x2) (yN Y v0) ∧ (∀ x7 : Int64, x7 = (x1 <<< ((8 : Int32).toInt64 &&& 63)) ||| ((mI M v0 (v1 + x2).toNatClampNeg).toInt64) → (∀ x8 : Int32, x8 = x2 + 1 → (again6 x7 x8))))))))
def f_X12_begin (Y : Ly) (v0 : Nat) (v1 : Int32) (v2 : Int64) (M : Mm) (Kn : Int64 → Mm → Prop) : Prop :=
  ∃ n, LOOP2 (L_X12_begin_6 Y v0 v1 v2 M Kn) n 0 0
set_option maxHeartbeats 4000000 in
set_option maxRecDepth 100000 in
theorem m_X12_begin (l : Launch) (D : va_G) (cy : Cy) (tq sz : Nat) (Y : Ly) (v0 : Nat) (v1 : Int32) (v2 : Int64) (M : Mm) (Kn : Int64 → Mm → Prop) : Met l yX12_begin (Cond.code yX12_begin cX12_begin 7 (some .long) :: TT) rm_X12_begin (PcG D cy tq [.ref v0, .int v1, .long v2] sz Y M (f_X12_begin Y v0 v1 v2 M Kn)) (va_Ql Kn (BG D cy (Am Y sz) Y) (Am Y sz)) 0 0 (Am Y sz) := by
  refine Met.ofW (cc := cX12_begin) (maxL := 7) (ret := (some .long)) (by decide) rfl ?_
  intro p e s m args below meth c s₁ B hml hv
  obtain ⟨hargs, hsz, hW, hK, hC, hf⟩ := hv
  subst hsz
  have hx := B.exec
  have hb := B.bytes
  have hr := B.returns
  have hts : ∀ w ∈ TT, w.before args s = true := fun w h => atoms_spec (ws := Cond.code yX12_begin cX12_begin 7 (some .long) :: TT) B.pre w (List.mem_cons_of_mem _ h)
  have hown : s.vm.findClass RX12 = some m.cls := findClass_of_methodNamed B.named
  have hlocks := B.notSynchronized
  replace hW := Wd_self (sz := s.heap.size) hW
  generalize hAe : Am Y s.heap.size = A at hW hC ⊢
  have hA : ∀ q : Nat, s.heap.size ≤ q → A q := fun q h => by rw [← hAe]; exact Or.inr h
  clear hAe
  have hS : va_S A s.heap s.heap [] := va_S.rf
  obtain ⟨ls, hE, hl⟩ := gm_entry m [.ref v0, .int v1, .long v2] (n := 7) hargs (Nat.le_of_ble_eq_true rfl)
  rw [hE]
  have hl : lv_has ls 7 [(0, .ref v0), (1, .int v1), (2, .long v2)] := hl
  show W p l e rm_X12_begin s m args below meth c s.heap [] 0 0 (MQ below (va_Ql Kn (BG D cy A Y) A) args s 0 0 A) (F0 m 0 ls [])
  unfold f_X12_begin at hf
  refine lv_lconst (v := 0) hx hb dX12_begin_0 (by decide) ?_
  refine lv_lstore (lv' := [(4, .long 0), (0, .ref v0), (1, .int v1), (2, .long v2)]) hx hb dX12_begin_1 hl (by decide) rfl (fun ls hl => ?_)
  refine lv_iconst (v := 0) hx hb dX12_begin_3 (by decide +kernel) ?_
  refine lv_istore (lv' := [(6, .int 0), (4, .long 0), (0, .ref v0), (1, .int v1), (2, .long v2)]) hx hb dX12_begin_4 hl (by decide) rfl (fun ls hl => ?_)
  obtain ⟨n6, hf⟩ := hf
  have lp6 : ∀ (n6 : Nat) (x1 : Int64) (x2 : Int32) (H : Heap) (locs : List Loc) (ls : Array Slot), lv_has ls 7 [(0, .ref v0), (1, .int v1), (2, .long v2), (4, .long x1), (6, .int x2)] → Wd D cy A Y M H → va_S A s.heap H locs → LOOP2 (L_X12_begin_6 Y v0 v1 v2 M Kn) n6 x1 x2 → W p l e rm_X12_begin s m args below meth c H locs 0 0 (MQ below (va_Ql Kn (BG D cy A Y) A) args s 0 0 A) (F0 m 6 ls []) := by
    intro n6
    induction n6 with
    | zero => intro x1 x2 H locs ls hl hW hS hf; exact hf.elim
    | succ n6 ih6 =>
      intro x1 x2 H locs ls hl hW hS hf
      replace hf : L_X12_begin_6 Y v0 v1 v2 M Kn x1 x2 (LOOP2 (L_X12_begin_6 Y v0 v1 v2 M Kn) n6) := hf
      unfold L_X12_begin_6 at hf
      refine lv_iload hx hb dX12_begin_6 (lv_at hl 4 rfl) ?_
      refine lv_i2l hx hb dX12_begin_8 rfl ?_
      refine lv_lload_n hx hb dX12_begin_9 rfl (lv_at hl 2 rfl) ?_
      refine W.lcmp hx hb dX12_begin_10 ?_
      have j42 : ∀ (H : Heap) (locs : List Loc) (ls : Array Slot), lv_has ls 7 [(4, .long x1)] → Wd D cy A Y M H → va_S A s.heap H locs → f_X12_begin_42 Y M Kn x1  → W p l e rm_X12_begin s m args below meth c H locs 0 0 (MQ below (va_Ql Kn (BG D cy A Y) A) args s 0 0 A) (F0 m 42 ls []) := by
        intro  H locs ls hl hW hS hf
        unfold f_X12_begin_42 at hf
        refine lv_lload hx hb dX12_begin_42 (lv_at hl 0 rfl) ?_
        exact gm_lret hx hb hr hlocks hW hS hf dX12_begin_44
      refine lv_if_ge (tgt := 42) hx hb dX12_begin_11 (by decide) (fun c3 => ?_) (fun c3 => ?_)
      · replace hf := hf.1 (lg_ge.mp c3)
        exact j42  _ _ _ (lv_sub hl [3] rfl) hW hS hf
      · replace hf := hf.2 (fun z => c3 (lg_ge.mpr z))
        refine lv_iload hx hb dX12_begin_14 (lv_at hl 4 rfl) ?_
        refine lv_bipush (v := 8) hx hb dX12_begin_16 (by decide +kernel) ?_
        refine lv_icmp_ge (tgt := 42) hx hb dX12_begin_18 (by decide) (fun c4 => ?_) (fun c4 => ?_)
        · replace hf := hf.1 c4
          exact j42  _ _ _ (lv_sub hl [3] rfl) hW hS hf
        · replace hf := hf.2 c4
          refine lv_lload hx hb dX12_begin_21 (lv_at hl 3 rfl) ?_
          refine lv_bipush (v := 8) hx hb dX12_begin_23 (by decide +kernel) ?_
          refine lv_lshl hx hb dX12_begin_25 rfl ?_
          refine lv_aload_n hx hb dX12_begin_26 rfl (lv_at hl 0 rfl) ?_
          refine lv_iload_n hx hb dX12_begin_27 rfl (lv_at hl 1 rfl) ?_
          refine lv_iload hx hb dX12_begin_28 (lv_at hl 4 rfl) ?_
          refine lv_iadd hx hb dX12_begin_30 ?_
          obtain ⟨k5, hf⟩ := hf
          obtain ⟨h6, hf⟩ := hf
          refine gm_iald hx hb hK hW k5 h6 dX12_begin_31 ?_
          refine lv_i2l hx hb dX12_begin_32 rfl ?_
          refine lv_lor hx hb dX12_begin_33 ?_
          refine lv_topl (fun x7 ex7 => ?_)
          replace hf := hf x7 ex7
          refine lv_lstore (lv' := [(4, .long x7), (0, .ref v0), (1, .int v1), (2, .long v2), (6, .int x2)]) hx hb dX12_begin_34 hl (by decide) rfl (fun ls hl => ?_)
          obtain ⟨x8, ex8⟩ : ∃ y : Int32, y = x2 + 1 := ⟨_, rfl⟩
          replace hf := hf x8 ex8
          refine lv_iinc (v := x8) (lv' := [(6, .int x8), (4, .long x7), (0, .ref v0), (1, .int v1), (2, .long v2)]) hx hb dX12_begin_36 hl (k := 4) rfl (by rw [ex8]; rfl) (by decide) rfl (fun ls hl => ?_)
          refine lv_goto (tgt := 6) hx hb dX12_begin_39 (by decide) ?_
          exact ih6 _ _ _ _ _ (lv_sub hl [2, 3, 4, 1, 0] rfl) hW hS hf
  exact lp6 n6 _ _ _ _ _ (lv_sub hl [2, 3, 4, 1, 0] rfl) hW hS hf

abbrev rm_X12_readVarint : Room := { frames := 2, cells := 0, slots := 0, locals := 80 }
def f_X12_readVarint_165 (Y : Ly) (Kn : Int64 → Mm → Prop) (M4 : Mm) (y6 : Int64) : Prop :=
  Kn y6 M4
def f_X12_readVarint_142 (Y : Ly) (Kn : Int64 → Mm → Prop) (x1 : Int64) (M4 : Mm) : Prop :=
  ∀ x5 : Int64, x5 = (x1.toUInt64 >>> ((1 : Int32).toInt64.toUInt64 &&& Int64.toUInt64 63)).toInt64 → ((¬ (x1 &&& 1) = 0 → (f_X12_readVarint_165 Y Kn M4 ((-x5) - 1))) ∧ ((x1 &&& 1) = 0 → (f_X12_readVarint_165 Y Kn M4 x5)))
def f_X12_readVarint_119 (Y : Ly) (v0 : Nat) (x1 : Int64) (x2 : Int32) (again7 : Int64 → Int32 → Int32 → Mm → Prop) (x18 : Int32) (M19 : Mm) (y20 : Int32) (y21 : Int32) : Prop :=
  bz y21 ∧ (∀ M23 : Mm, M23 = sI M19 v0 (m1 (mI M19 v0) 43 y21) → (∀ x24 : Int64, x24 = x1 ||| (((x18 &&& 127).toInt64) <<< ((7 * x2).toInt64 &&& 63)) → (∀ x25 : Int32, x25 = x2 + 1 → (again7 x24 x25 y20 M23))))
def f_X12_readVarint_118 (Y : Ly) (v0 : Nat) (x1 : Int64) (x2 : Int32) (again7 : Int64 → Int32 → Int32 → Mm → Prop) (x18 : Int32) (M19 : Mm) (y20 : Int32) : Prop :=
  f_X12_readVarint_119 Y v0 x1 x2 again7 x18 M19 y20 0
def f_X12_readVarint_114 (Y : Ly) (v0 : Nat) (x1 : Int64) (x2 : Int32) (again7 : Int64 → Int32 → Int32 → Mm → Prop) (x18 : Int32) (M19 : Mm) (y20 : Int32) : Prop :=
  f_X12_readVarint_119 Y v0 x1 x2 again7 x18 M19 y20 1
def f_X12_readVarint_100 (Y : Ly) (v0 : Nat) (x1 : Int64) (x2 : Int32) (again7 : Int64 → Int32 → Int32 → Mm → Prop) (x18 : Int32) (M19 : Mm) (y20 : Int32) : Prop :=
  (¬ y20 = 0 → (f_X12_readVarint_114 Y v0 x1 x2 again7 x18 M19 y20)) ∧ (y20 = 0 → ((0 < x18 → (f_X12_readVarint_114 Y v0 x1 x2 again7 x18 M19 y20)) ∧ (¬ (0 < x18) → ((¬ x2 = 0 → (f_X12_readVarint_118 Y v0 x1 x2 again7 x18 M19 y20)) ∧ (x2 = 0 → (f_X12_readVarint_114 Y v0 x1 x2 again7 x18 M19 y20))))))
def f_X12_readVarint_85 (Y : Ly) (v0 : Nat) (x1 : Int64) (x2 : Int32) (again7 : Int64 → Int32 → Int32 → Mm → Prop) (x18 : Int32) (M19 : Mm) (y20 : Int32) : Prop :=
  (x2 < 9 → (f_X12_readVarint_100 Y v0 x1 x2 again7 x18 M19 y20)) ∧ (¬ (x2 < 9) → ((2 ≤ x18 → (f_X12_readVarint_118 Y v0 x1 x2 again7 x18 M19 y20)) ∧ (¬ (2 ≤ x18) → (f_X12_readVarint_100 Y v0 x1 x2 again7 x18 M19 y20))))
def f_X12_readVarint_42 (Y : Ly) (v0 : Nat) (x1 : Int64) (x2 : Int32) (x3 : Int32) (M4 : Mm) (again7 : Int64 → Int32 → Int32 → Mm → Prop) (y11 : Int32) : Prop :=
  bz y11 ∧ (∀ M13 : Mm, M13 = sI M4 v0 (m1 (mI M4 v0) 43 y11) → (((mI M13 v0 43) = 0 → (again7 x1 x2 x3 M13)) ∧ (¬ ((mI M13 v0 43) = 0) → (∃ b15 : Nat, mR M13 v0 40 = some b15 ∧ (yK Y b15 = 101 ∧ (vp_in (mI M13 v0 42) (yN Y b15) ∧ (∀ x18 : Int32, x18 = mI M13 b15 (mI M13 v0 42).toNatClampNeg → (∀ M19 : Mm, M19 = sI M13 v0 (m1 (mI M13 v0) 42 ((mI M13 v0 42) + 1)) → ((x18 ≤ 127 → (f_X12_readVarint_85 Y v0 x1 x2 again7 x18 M19 0)) ∧ (¬ (x18 ≤ 127) → (f_X12_readVarint_85 Y v0 x1 x2 again7 x18 M19 1)))))))))))
def f_X12_readVarint_41 (Y : Ly) (v0 : Nat) (x1 : Int64) (x2 : Int32) (x3 : Int32) (M4 : Mm) (again7 : Int64 → Int32 → Int32 → Mm → Prop) : Prop :=
  f_X12_readVarint_42 Y v0 x1 x2 x3 M4 again7 0
def L_X12_readVarint_7 (Y : Ly) (v0 : Nat) (Kn : Int64 → Mm → Prop) (x1 : Int64) (x2 : Int32) (x3 : Int32) (M4 : Mm) (again7 : Int64 → Int32 → Int32 → Mm → Prop) : Prop :=
  (x3 = 0 → (f_X12_readVarint_142 Y Kn x1 M4)) ∧ (¬ (x3 = 0) → (yK Y v0 = 12 ∧ (((mI M4 v0 43) = 0 → (f_X12_readVarint_142 Y Kn x1 M4)) ∧ (¬ ((mI M4 v0 43) = 0) → (((mI M4 v0 41) ≤ (mI M4 v0 42) → (f_X12_readVarint_41 Y v0 x1 x2 x3 M4 again7)) ∧ (¬ ((mI M4 v0 41) ≤ (mI M4 v0 42)) → ((10 ≤ x2 → (f_X12_readVarint_41 Y v0 x1 x2 x3 M4 again7)) ∧ (¬ (10 ≤ x2) → (f_X12_readVarint_42 Y v0 x1 x2 x3 M4 again7 1)))))))))
def f_X12_readVarint (Y : Ly) (v0 : Nat) (M : Mm) (Kn : Int64 → Mm → Prop) : Prop :=
  ∃ n, LOOP4 (L_X12_readVarint_7 Y v0 Kn) n 0 0 1 M
set_option maxHeartbeats 4000000 in
set_option maxRecDepth 100000 in
theorem m_X12_readVarint (l : Launch) (D : va_G) (cy : Cy) (tq sz : Nat) (Y : Ly) (v0 : Nat) (M : Mm) (Kn : Int64 → Mm → Prop) : Met l yX12_readVarint (Cond.code yX12_readVarint cX12_readVarint 7 (some .long) :: TT) rm_X12_readVarint (PcG D cy tq [.ref v0] sz Y M (f_X12_readVarint Y v0 M Kn)) (va_Ql Kn (BG D cy (Am Y sz) Y) (Am Y sz)) 0 0 (Am Y sz) := by
  refine Met.ofW (cc := cX12_readVarint) (maxL := 7) (ret := (some .long)) (by decide) rfl ?_
  intro p e s m args below meth c s₁ B hml hv
  obtain ⟨hargs, hsz, hW, hK, hC, hf⟩ := hv
  subst hsz
  have hx := B.exec
  have hb := B.bytes
  have hr := B.returns
  have hts : ∀ w ∈ TT, w.before args s = true := fun w h => atoms_spec (ws := Cond.code yX12_readVarint cX12_readVarint 7 (some .long) :: TT) B.pre w (List.mem_cons_of_mem _ h)
  have hown : s.vm.findClass RX12 = some m.cls := findClass_of_methodNamed B.named
  have hlocks := B.notSynchronized
  replace hW := Wd_self (sz := s.heap.size) hW
  generalize hAe : Am Y s.heap.size = A at hW hC ⊢
  have hA : ∀ q : Nat, s.heap.size ≤ q → A q := fun q h => by rw [← hAe]; exact Or.inr h
  clear hAe
  have hS : va_S A s.heap s.heap [] := va_S.rf
  obtain ⟨ls, hE, hl⟩ := gm_entry m [.ref v0] (n := 7) hargs (Nat.le_of_ble_eq_true rfl)
  rw [hE]
  have hl : lv_has ls 7 [(0, .ref v0)] := hl
  show W p l e rm_X12_readVarint s m args below meth c s.heap [] 0 0 (MQ below (va_Ql Kn (BG D cy A Y) A) args s 0 0 A) (F0 m 0 ls [])
  unfold f_X12_readVarint at hf
  refine lv_lconst (v := 0) hx hb dX12_readVarint_0 (by decide) ?_
  refine lv_lstore_n (lv' := [(1, .long 0), (0, .ref v0)]) hx hb dX12_readVarint_1 rfl hl (by decide) rfl (fun ls hl => ?_)
  refine lv_iconst (v := 0) hx hb dX12_readVarint_2 (by decide +kernel) ?_
  refine lv_istore_n (lv' := [(3, .int 0), (1, .long 0), (0, .ref v0)]) hx hb dX12_readVarint_3 rfl hl (by decide) rfl (fun ls hl => ?_)
  refine lv_iconst (v := 1) hx hb dX12_readVarint_4 (by decide +kernel) ?_
  refine lv_istore (lv' := [(4, .int 1), (3, .int 0), (1, .long 0), (0, .ref v0)]) hx hb dX12_readVarint_5 hl (by decide) rfl (fun ls hl => ?_)
  obtain ⟨n7, hf⟩ := hf
  have lp7 : ∀ (n7 : Nat) (x1 : Int64) (x2 : Int32) (x3 : Int32) (M4 : Mm) (H : Heap) (locs : List Loc) (ls : Array Slot), lv_has ls 7 [(0, .ref v0), (1, .long x1), (3, .int x2), (4, .int x3)] → Wd D cy A Y M4 H → va_S A s.heap H locs → LOOP4 (L_X12_readVarint_7 Y v0 Kn) n7 x1 x2 x3 M4 → W p l e rm_X12_readVarint s m args below meth c H locs 0 0 (MQ below (va_Ql Kn (BG D cy A Y) A) args s 0 0 A) (F0 m 7 ls []) := by
    intro n7
    induction n7 with
    | zero => intro x1 x2 x3 M4 H locs ls hl hW hS hf; exact hf.elim
    | succ n7 ih7 =>
      intro x1 x2 x3 M4 H locs ls hl hW hS hf
      replace hf : L_X12_readVarint_7 Y v0 Kn x1 x2 x3 M4 (LOOP4 (L_X12_readVarint_7 Y v0 Kn) n7) := hf
      unfold L_X12_readVarint_7 at hf
      refine lv_iload hx hb dX12_readVarint_7 (lv_at hl 3 rfl) ?_
      have j142 : ∀ (H : Heap) (locs : List Loc) (ls : Array Slot), lv_has ls 7 [(1, .long x1)] → Wd D cy A Y M4 H → va_S A s.heap H locs → f_X12_readVarint_142 Y Kn x1 M4  → W p l e rm_X12_readVarint s m args below meth c H locs 0 0 (MQ below (va_Ql Kn (BG D cy A Y) A) args s 0 0 A) (F0 m 142 ls []) := by
        intro  H locs ls hl hW hS hf
        unfold f_X12_readVarint_142 at hf
        refine lv_lload_n hx hb dX12_readVarint_142 rfl (lv_at hl 0 rfl) ?_
        refine lv_iconst (v := 1) hx hb dX12_readVarint_143 (by decide +kernel) ?_
        refine lv_lushr hx hb dX12_readVarint_144 rfl ?_
        refine lv_topl (fun x5 ex5 => ?_)
        replace hf := hf x5 ex5
        refine lv_lstore (lv' := [(5, .long x5), (1, .long x1)]) hx hb dX12_readVarint_145 hl (by decide) rfl (fun ls hl => ?_)
        refine lv_lload_n hx hb dX12_readVarint_147 rfl (lv_at hl 1 rfl) ?_
        refine lv_lconst (v := 1) hx hb dX12_readVarint_148 (by decide) ?_
        refine lv_land hx hb dX12_readVarint_149 ?_
        refine lv_lconst (v := 0) hx hb dX12_readVarint_150 (by decide) ?_
        refine W.lcmp hx hb dX12_readVarint_151 ?_
        have j165 : ∀ (y6 : Int64) (H : Heap) (locs : List Loc) (ls : Array Slot), lv_has ls 7 [] → Wd D cy A Y M4 H → va_S A s.heap H locs → f_X12_readVarint_165 Y Kn M4 y6 → W p l e rm_X12_readVarint s m args below meth c H locs 0 0 (MQ below (va_Ql Kn (BG D cy A Y) A) args s 0 0 A) (F0 m 165 ls [.long y6]) := by
          intro y6 H locs ls hl hW hS hf
          unfold f_X12_readVarint_165 at hf
          exact gm_lret hx hb hr hlocks hW hS hf dX12_readVarint_165
        refine lv_if_ne (tgt := 160) hx hb dX12_readVarint_152 (by decide) (fun c7 => ?_) (fun c7 => ?_)
        · replace hf := hf.1 ((not_congr lg_eq).mp c7)
          refine lv_lload hx hb dX12_readVarint_160 (lv_at hl 0 rfl) ?_
          refine lv_lneg hx hb dX12_readVarint_162 ?_
          refine lv_lconst (v := 1) hx hb dX12_readVarint_163 (by decide) ?_
          refine lv_lsub hx hb dX12_readVarint_164 ?_
          exact j165 _ _ _ _ (lv_sub hl [] rfl) hW hS hf
        · replace hf := hf.2 (lg_eq.mp c7)
          refine lv_lload hx hb dX12_readVarint_155 (lv_at hl 0 rfl) ?_
          refine lv_goto (tgt := 165) hx hb dX12_readVarint_157 (by decide) ?_
          exact j165 _ _ _ _ (lv_sub hl [] rfl) hW hS hf
      refine lv_if_eq (tgt := 142) hx hb dX12_readVarint_9 (by decide) (fun c8 => ?_) (fun c8 => ?_)
      · replace hf := hf.1 c8
        exact j142  _ _ _ (lv_sub hl [1] rfl) hW hS hf
      · replace hf := hf.2 c8
        refine lv_aload_n hx hb dX12_readVarint_12 rfl (lv_at hl 0 rfl) ?_
        obtain ⟨k9, hf⟩ := hf
        refine gm_getI (C := RX12) (T := TX12) (N := 68) (j := 43) hx hb hts inT_12 hown hK hW k9 (by decide) rfl (by decide) rfl (hts _ kw_1359) rfl dX12_readVarint_13 ?_
        refine lv_if_eq (tgt := 142) hx hb dX12_readVarint_16 (by decide) (fun c10 => ?_) (fun c10 => ?_)
        · replace hf := hf.1 c10
          exact j142  _ _ _ (lv_sub hl [1] rfl) hW hS hf
        · replace hf := hf.2 c10
          refine lv_aload_n hx hb dX12_readVarint_19 rfl (lv_at hl 0 rfl) ?_
          refine lv_aload_n hx hb dX12_readVarint_20 rfl (lv_at hl 0 rfl) ?_
          refine gm_getI (C := RX12) (T := TX12) (N := 68) (j := 42) hx hb hts inT_12 hown hK hW k9 (by decide) rfl (by decide) rfl (hts _ kw_1358) rfl dX12_readVarint_21 ?_
          refine lv_aload_n hx hb dX12_readVarint_24 rfl (lv_at hl 0 rfl) ?_
          refine gm_getI (C := RX12) (T := TX12) (N := 68) (j := 41) hx hb hts inT_12 hown hK hW k9 (by decide) rfl (by decide) rfl (hts _ kw_1357) rfl dX12_readVarint_25 ?_
          have j42 : ∀ (y11 : Int32) (H : Heap) (locs : List Loc) (ls : Array Slot), lv_has ls 7 [(0, .ref v0), (1, .long x1), (3, .int x2), (4, .int x3)] → Wd D cy A Y M4 H → va_S A s.heap H locs → f_X12_readVarint_42 Y v0 x1 x2 x3 M4 (LOOP4 (L_X12_readVarint_7 Y v0 Kn) n7) y11 → W p l e rm_X12_readVarint s m args below meth c H locs 0 0 (MQ below (va_Ql Kn (BG D cy A Y) A) args s 0 0 A) (F0 m 42 ls [.int y11, .ref v0]) := by
            intro y11 H locs ls hl hW hS hf
            unfold f_X12_readVarint_42 at hf
            obtain ⟨z12, hf⟩ := hf
            refine gm_putI (C := RX12) (T := TX12) (N := 68) (j := 43) hx hb hts inT_12 tyX12 tyX12_ok nmX12 hown hK hW hS k9 (by decide) rfl (by decide) rfl (hts _ kw_1359) rfl rfl (bz_n z12) (bz_f z12) dX12_readVarint_42 (fun H locs M13 eM13 hW hS => ?_)
            replace hf := hf M13 eM13
            refine lv_aload_n hx hb dX12_readVarint_45 rfl (lv_at hl 0 rfl) ?_
            refine gm_getI (C := RX12) (T := TX12) (N := 68) (j := 43) hx hb hts inT_12 hown hK hW k9 (by decide) rfl (by decide) rfl (hts _ kw_1359) rfl dX12_readVarint_46 ?_
            refine lv_if_eq (tgt := 7) hx hb dX12_readVarint_49 (by decide) (fun c14 => ?_) (fun c14 => ?_)
            · replace hf := hf.1 c14
              exact ih7 _ _ _ _ _ _ _ (lv_sub hl [0, 1, 2, 3] rfl) hW hS hf
            · replace hf := hf.2 c14
              refine lv_aload_n hx hb dX12_readVarint_52 rfl (lv_at hl 0 rfl) ?_
              obtain ⟨b15, hb15, hf⟩ := hf
              refine gm_getR (C := RX12) (T := TX12) (N := 68) (j := 40) hx hb hts inT_12 hown hK hW k9 (by decide) rfl (by decide) rfl (hts _ kw_1356) rfl dX12_readVarint_53 hb15 ?_
              refine lv_aload_n hx hb dX12_readVarint_56 rfl (lv_at hl 0 rfl) ?_
              refine gm_getI (C := RX12) (T := TX12) (N := 68) (j := 42) hx hb hts inT_12 hown hK hW k9 (by decide) rfl (by decide) rfl (hts _ kw_1358) rfl dX12_readVarint_57 ?_
              obtain ⟨k16, hf⟩ := hf
              obtain ⟨h17, hf⟩ := hf
              refine gm_iald hx hb hK hW k16 h17 dX12_readVarint_60 ?_
              refine lv_topi (fun x18 ex18 => ?_)
              replace hf := hf x18 ex18
              refine lv_istore (lv' := [(5, .int x18), (0, .ref v0), (1, .long x1), (3, .int x2), (4, .int x3)]) hx hb dX12_readVarint_61 hl (by decide) rfl (fun ls hl => ?_)
              refine lv_aload_n hx hb dX12_readVarint_63 rfl (lv_at hl 1 rfl) ?_
              refine lv_dup hx hb dX12_readVarint_64 rfl ?_
              refine gm_getI (C := RX12) (T := TX12) (N := 68) (j := 42) hx hb hts inT_12 hown hK hW k9 (by decide) rfl (by decide) rfl (hts _ kw_1358) rfl dX12_readVarint_65 ?_
              refine lv_iconst (v := 1) hx hb dX12_readVarint_68 (by decide +kernel) ?_
              refine lv_iadd hx hb dX12_readVarint_69 ?_
              refine gm_putI (C := RX12) (T := TX12) (N := 68) (j := 42) hx hb hts inT_12 tyX12 tyX12_ok nmX12 hown hK hW hS k9 (by decide) rfl (by decide) rfl (hts _ kw_1358) rfl rfl rfl rfl dX12_readVarint_70 (fun H locs M19 eM19 hW hS => ?_)
              replace hf := hf M19 eM19
              refine lv_iload hx hb dX12_readVarint_73 (lv_at hl 0 rfl) ?_
              refine lv_bipush (v := 127) hx hb dX12_readVarint_75 (by decide +kernel) ?_
              have j85 : ∀ (y20 : Int32) (H : Heap) (locs : List Loc) (ls : Array Slot), lv_has ls 7 [(0, .ref v0), (1, .long x1), (3, .int x2), (5, .int x18)] → Wd D cy A Y M19 H → va_S A s.heap H locs → f_X12_readVarint_85 Y v0 x1 x2 (LOOP4 (L_X12_readVarint_7 Y v0 Kn) n7) x18 M19 y20 → W p l e rm_X12_readVarint s m args below meth c H locs 0 0 (MQ below (va_Ql Kn (BG D cy A Y) A) args s 0 0 A) (F0 m 85 ls [.int y20]) := by
                intro y20 H locs ls hl hW hS hf
                unfold f_X12_readVarint_85 at hf
                refine lv_istore (lv' := [(4, .int y20), (0, .ref v0), (1, .long x1), (3, .int x2), (5, .int x18)]) hx hb dX12_readVarint_85 hl (by decide) rfl (fun ls hl => ?_)
                refine lv_aload_n hx hb dX12_readVarint_87 rfl (lv_at hl 1 rfl) ?_
                refine lv_iload_n hx hb dX12_readVarint_88 rfl (lv_at hl 3 rfl) ?_
                refine lv_bipush (v := 9) hx hb dX12_readVarint_89 (by decide +kernel) ?_
                have j119 : ∀ (y21 : Int32) (H : Heap) (locs : List Loc) (ls : Array Slot), lv_has ls 7 [(0, .ref v0), (1, .long x1), (3, .int x2), (4, .int y20), (5, .int x18)] → Wd D cy A Y M19 H → va_S A s.heap H locs → f_X12_readVarint_119 Y v0 x1 x2 (LOOP4 (L_X12_readVarint_7 Y v0 Kn) n7) x18 M19 y20 y21 → W p l e rm_X12_readVarint s m args below meth c H locs 0 0 (MQ below (va_Ql Kn (BG D cy A Y) A) args s 0 0 A) (F0 m 119 ls [.int y21, .ref v0]) := by
                  intro y21 H locs ls hl hW hS hf
                  unfold f_X12_readVarint_119 at hf
                  obtain ⟨z22, hf⟩ := hf
                  refine gm_putI (C := RX12) (T := TX12) (N := 68) (j := 43) hx hb hts inT_12 tyX12 tyX12_ok nmX12 hown hK hW hS k9 (by decide) rfl (by decide) rfl (hts _ kw_1359) rfl rfl (bz_n z22) (bz_f z22) dX12_readVarint_119 (fun H locs M23 eM23 hW hS => ?_)
                  replace hf := hf M23 eM23
                  refine lv_lload_n hx hb dX12_readVarint_122 rfl (lv_at hl 1 rfl) ?_
                  refine lv_iload hx hb dX12_readVarint_123 (lv_at hl 4 rfl) ?_
                  refine lv_bipush (v := 127) hx hb dX12_readVarint_125 (by decide +kernel) ?_
                  refine lv_iand hx hb dX12_readVarint_127 ?_
                  refine lv_i2l hx hb dX12_readVarint_128 rfl ?_
                  refine lv_bipush (v := 7) hx hb dX12_readVarint_129 (by decide +kernel) ?_
                  refine lv_iload_n hx hb dX12_readVarint_131 rfl (lv_at hl 2 rfl) ?_
                  refine lv_imul hx hb dX12_readVarint_132 ?_
                  refine lv_lshl hx hb dX12_readVarint_133 rfl ?_
                  refine lv_lor hx hb dX12_readVarint_134 ?_
                  refine lv_topl (fun x24 ex24 => ?_)
                  replace hf := hf x24 ex24
                  refine lv_lstore_n (lv' := [(1, .long x24), (0, .ref v0), (3, .int x2), (4, .int y20), (5, .int x18)]) hx hb dX12_readVarint_135 rfl hl (by decide) rfl (fun ls hl => ?_)
                  obtain ⟨x25, ex25⟩ : ∃ y : Int32, y = x2 + 1 := ⟨_, rfl⟩
                  replace hf := hf x25 ex25
                  refine lv_iinc (v := x25) (lv' := [(3, .int x25), (1, .long x24), (0, .ref v0), (4, .int y20), (5, .int x18)]) hx hb dX12_readVarint_136 hl (k := 2) rfl (by rw [ex25]; rfl) (by decide) rfl (fun ls hl => ?_)
                  refine lv_goto (tgt := 7) hx hb dX12_readVarint_139 (by decide) ?_
                  exact ih7 _ _ _ _ _ _ _ (lv_sub hl [2, 1, 0, 3] rfl) hW hS hf
                have j118 : ∀ (H : Heap) (locs : List Loc) (ls : Array Slot), lv_has ls 7 [(0, .ref v0), (1, .long x1), (3, .int x2), (4, .int y20), (5, .int x18)] → Wd D cy A Y M19 H → va_S A s.heap H locs → f_X12_readVarint_118 Y v0 x1 x2 (LOOP4 (L_X12_readVarint_7 Y v0 Kn) n7) x18 M19 y20  → W p l e rm_X12_readVarint s m args below meth c H locs 0 0 (MQ below (va_Ql Kn (BG D cy A Y) A) args s 0 0 A) (F0 m 118 ls [.ref v0]) := by
                  intro  H locs ls hl hW hS hf
                  unfold f_X12_readVarint_118 at hf
                  refine lv_iconst (v := 0) hx hb dX12_readVarint_118 (by decide +kernel) ?_
                  exact j119 _ _ _ _ (lv_sub hl [0, 1, 2, 3, 4] rfl) hW hS hf
                have j100 : ∀ (H : Heap) (locs : List Loc) (ls : Array Slot), lv_has ls 7 [(0, .ref v0), (1, .long x1), (3, .int x2), (4, .int y20), (5, .int x18)] → Wd D cy A Y M19 H → va_S A s.heap H locs → f_X12_readVarint_100 Y v0 x1 x2 (LOOP4 (L_X12_readVarint_7 Y v0 Kn) n7) x18 M19 y20  → W p l e rm_X12_readVarint s m args below meth c H locs 0 0 (MQ below (va_Ql Kn (BG D cy A Y) A) args s 0 0 A) (F0 m 100 ls [.ref v0]) := by
                  intro  H locs ls hl hW hS hf
                  unfold f_X12_readVarint_100 at hf
                  refine lv_iload hx hb dX12_readVarint_100 (lv_at hl 3 rfl) ?_
                  have j114 : ∀ (H : Heap) (locs : List Loc) (ls : Array Slot), lv_has ls 7 [(0, .ref v0), (1, .long x1), (3, .int x2), (4, .int y20), (5, .int x18)] → Wd D cy A Y M19 H → va_S A s.heap H locs → f_X12_readVarint_114 Y v0 x1 x2 (LOOP4 (L_X12_readVarint_7 Y v0 Kn) n7) x18 M19 y20  → W p l e rm_X12_readVarint s m args below meth c H locs 0 0 (MQ below (va_Ql Kn (BG D cy A Y) A) args s 0 0 A) (F0 m 114 ls [.ref v0]) := by
                    intro  H locs ls hl hW hS hf
                    unfold f_X12_readVarint_114 at hf
                    refine lv_iconst (v := 1) hx hb dX12_readVarint_114 (by decide +kernel) ?_
                    refine lv_goto (tgt := 119) hx hb dX12_readVarint_115 (by decide) ?_
                    exact j119 _ _ _ _ (lv_sub hl [0, 1, 2, 3, 4] rfl) hW hS hf
                  refine lv_if_ne (tgt := 114) hx hb dX12_readVarint_102 (by decide) (fun c26 => ?_) (fun c26 => ?_)
                  · replace hf := hf.1 c26
                    exact j114  _ _ _ (lv_sub hl [0, 1, 2, 3, 4] rfl) hW hS hf
                  · replace hf := hf.2 c26
                    refine lv_iload hx hb dX12_readVarint_105 (lv_at hl 4 rfl) ?_
                    refine lv_if_gt (tgt := 114) hx hb dX12_readVarint_107 (by decide) (fun c27 => ?_) (fun c27 => ?_)
                    · replace hf := hf.1 c27
                      exact j114  _ _ _ (lv_sub hl [0, 1, 2, 3, 4] rfl) hW hS hf
                    · replace hf := hf.2 c27
                      refine lv_iload_n hx hb dX12_readVarint_110 rfl (lv_at hl 2 rfl) ?_
                      refine lv_if_ne (tgt := 118) hx hb dX12_readVarint_111 (by decide) (fun c28 => ?_) (fun c28 => ?_)
                      · replace hf := hf.1 c28
                        exact j118  _ _ _ (lv_sub hl [0, 1, 2, 3, 4] rfl) hW hS hf
                      · replace hf := hf.2 c28
                        exact j114  _ _ _ (lv_sub hl [0, 1, 2, 3, 4] rfl) hW hS hf
                refine lv_icmp_lt (tgt := 100) hx hb dX12_readVarint_91 (by decide) (fun c29 => ?_) (fun c29 => ?_)
                · replace hf := hf.1 c29
                  exact j100  _ _ _ (lv_sub hl [1, 2, 3, 0, 4] rfl) hW hS hf
                · replace hf := hf.2 c29
                  refine lv_iload hx hb dX12_readVarint_94 (lv_at hl 4 rfl) ?_
                  refine lv_iconst (v := 2) hx hb dX12_readVarint_96 (by decide +kernel) ?_
                  refine lv_icmp_ge (tgt := 118) hx hb dX12_readVarint_97 (by decide) (fun c30 => ?_) (fun c30 => ?_)
                  · replace hf := hf.1 c30
                    exact j118  _ _ _ (lv_sub hl [1, 2, 3, 0, 4] rfl) hW hS hf
                  · replace hf := hf.2 c30
                    exact j100  _ _ _ (lv_sub hl [1, 2, 3, 0, 4] rfl) hW hS hf
              refine lv_icmp_le (tgt := 84) hx hb dX12_readVarint_77 (by decide) (fun c31 => ?_) (fun c31 => ?_)
              · replace hf := hf.1 c31
                refine lv_iconst (v := 0) hx hb dX12_readVarint_84 (by decide +kernel) ?_
                exact j85 _ _ _ _ (lv_sub hl [1, 2, 3, 0] rfl) hW hS hf
              · replace hf := hf.2 c31
                refine lv_iconst (v := 1) hx hb dX12_readVarint_80 (by decide +kernel) ?_
                refine lv_goto (tgt := 85) hx hb dX12_readVarint_81 (by decide) ?_
                exact j85 _ _ _ _ (lv_sub hl [1, 2, 3, 0] rfl) hW hS hf
          have j41 : ∀ (H : Heap) (locs : List Loc) (ls : Array Slot), lv_has ls 7 [(0, .ref v0), (1, .long x1), (3, .int x2), (4, .int x3)] → Wd D cy A Y M4 H → va_S A s.heap H locs → f_X12_readVarint_41 Y v0 x1 x2 x3 M4 (LOOP4 (L_X12_readVarint_7 Y v0 Kn) n7)  → W p l e rm_X12_readVarint s m args below meth c H locs 0 0 (MQ below (va_Ql Kn (BG D cy A Y) A) args s 0 0 A) (F0 m 41 ls [.ref v0]) := by
            intro  H locs ls hl hW hS hf
            unfold f_X12_readVarint_41 at hf
            refine lv_iconst (v := 0) hx hb dX12_readVarint_41 (by decide +kernel) ?_
            exact j42 _ _ _ _ (lv_sub hl [0, 1, 2, 3] rfl) hW hS hf
          refine lv_icmp_ge (tgt := 41) hx hb dX12_readVarint_28 (by decide) (fun c32 => ?_) (fun c32 => ?_)
          · replace hf := hf.1 c32
            exact j41  _ _ _ (lv_sub hl [0, 1, 2, 3] rfl) hW hS hf
          · replace hf := hf.2 c32
            refine lv_iload_n hx hb dX12_readVarint_31 rfl (lv_at hl 2 rfl) ?_
            refine lv_bipush (v := 10) hx hb dX12_readVarint_32 (by decide +kernel) ?_
            refine lv_icmp_ge (tgt := 41) hx hb dX12_readVarint_34 (by decide) (fun c33 => ?_) (fun c33 => ?_)
            · replace hf := hf.1 c33
              exact j41  _ _ _ (lv_sub hl [0, 1, 2, 3] rfl) hW hS hf
            · replace hf := hf.2 c33
              refine lv_iconst (v := 1) hx hb dX12_readVarint_37 (by decide +kernel) ?_
              refine lv_goto (tgt := 42) hx hb dX12_readVarint_38 (by decide) ?_
              exact j42 _ _ _ _ (lv_sub hl [0, 1, 2, 3] rfl) hW hS hf
  exact lp7 n7 _ _ _ _ _ _ _ (lv_sub hl [3, 2, 1, 0] rfl) hW hS hf

abbrev rm_X12_readZero : Room := { frames := 2, cells := 0, slots := 0, locals := 80 }
def f_X12_readZero_36 (Y : Ly) (v0 : Nat) (M : Mm) (Kn : Mm → Prop) (y2 : Int32) : Prop :=
  bz y2 ∧ (∀ M4 : Mm, M4 = sI M v0 (m1 (mI M v0) 43 y2) → (∀ M5 : Mm, M5 = sI M4 v0 (m1 (mI M4 v0) 42 ((mI M4 v0 42) + 1)) → (Kn M5)))
def f_X12_readZero_35 (Y : Ly) (v0 : Nat) (M : Mm) (Kn : Mm → Prop) : Prop :=
  f_X12_readZero_36 Y v0 M Kn 0
def f_X12_readZero (Y : Ly) (v0 : Nat) (M : Mm) (Kn : Mm → Prop) : Prop :=
  yK Y v0 = 12 ∧ (((mI M v0 43) = 0 → (f_X12_readZero_35 Y v0 M Kn)) ∧ (¬ ((mI M v0 43) = 0) → (((mI M v0 41) ≤ (mI M v0 42) → (f_X12_readZero_35 Y v0 M Kn)) ∧ (¬ ((mI M v0 41) ≤ (mI M v0 42)) → (∃ b8 : Nat, mR M v0 40 = some b8 ∧ (yK Y b8 = 101 ∧ (vp_in (mI M v0 42) (yN Y b8) ∧ ((¬ (mI M b8 (mI M v0 42).toNatClampNeg) = 0 → (f_X12_readZero_35 Y v0 M Kn)) ∧ ((mI M b8 (mI M v0 42).toNatClampNeg) = 0 → (f_X12_readZero_36 Y v0 M Kn 1))))))))))
set_option maxHeartbeats 4000000 in
set_option maxRecDepth 100000 in
theorem m_X12_readZero (l : Launch) (D : va_G) (cy : Cy) (tq sz : Nat) (Y : Ly) (v0 : Nat) (M : Mm) (Kn : Mm → Prop) : Met l yX12_readZero (Cond.code yX12_readZero cX12_readZero 1 none :: TT) rm_X12_readZero (PcG D cy tq [.ref v0] sz Y M (f_X12_readZero Y v0 M Kn)) (va_Qv Kn (BG D cy (Am Y sz) Y) (Am Y sz)) 0 0 (Am Y sz) := by
  refine Met.ofW (cc := cX12_readZero) (maxL := 1) (ret := none) (by decide) rfl ?_
  intro p e s m args below meth c s₁ B hml hv
  obtain ⟨hargs, hsz, hW, hK, hC, hf⟩ := hv
  subst hsz
  have hx := B.exec
  have hb := B.bytes
  have hr := B.returns
  have hts : ∀ w ∈ TT, w.before args s = true := fun w h => atoms_spec (ws := Cond.code yX12_readZero cX12_readZero 1 none :: TT) B.pre w (List.mem_cons_of_mem _ h)
  have hown : s.vm.findClass RX12 = some m.cls := findClass_of_methodNamed B.named
  have hlocks := B.notSynchronized
  replace hW := Wd_self (sz := s.heap.size) hW
  generalize hAe : Am Y s.heap.size = A at hW hC ⊢
  have hA : ∀ q : Nat, s.heap.size ≤ q → A q := fun q h => by rw [← hAe]; exact Or.inr h
  clear hAe
  have hS : va_S A s.heap s.heap [] := va_S.rf
  obtain ⟨ls, hE, hl⟩ := gm_entry m [.ref v0] (n := 1) hargs (Nat.le_of_ble_eq_true rfl)
  rw [hE]
  have hl : lv_has ls 1 [(0, .ref v0)] := hl
  show W p l e rm_X12_readZero s m args below meth c s.heap [] 0 0 (MQ below (va_Qv Kn (BG D cy A Y) A) args s 0 0 A) (F0 m 0 ls [])
  unfold f_X12_readZero at hf
  refine lv_aload_n hx hb dX12_readZero_0 rfl (lv_at hl 0 rfl) ?_
  refine lv_aload_n hx hb dX12_readZero_1 rfl (lv_at hl 0 rfl) ?_
  obtain ⟨k1, hf⟩ := hf
  refine gm_getI (C := RX12) (T := TX12) (N := 68) (j := 43) hx hb hts inT_12 hown hK hW k1 (by decide) rfl (by decide) rfl (hts _ kw_1359) rfl dX12_readZero_2 ?_
  have j36 : ∀ (y2 : Int32) (H : Heap) (locs : List Loc) (ls : Array Slot), lv_has ls 1 [(0, .ref v0)] → Wd D cy A Y M H → va_S A s.heap H locs → f_X12_readZero_36 Y v0 M Kn y2 → W p l e rm_X12_readZero s m args below meth c H locs 0 0 (MQ below (va_Qv Kn (BG D cy A Y) A) args s 0 0 A) (F0 m 36 ls [.int y2, .ref v0]) := by
    intro y2 H locs ls hl hW hS hf
    unfold f_X12_readZero_36 at hf
    obtain ⟨z3, hf⟩ := hf
    refine gm_putI (C := RX12) (T := TX12) (N := 68) (j := 43) hx hb hts inT_12 tyX12 tyX12_ok nmX12 hown hK hW hS k1 (by decide) rfl (by decide) rfl (hts _ kw_1359) rfl rfl (bz_n z3) (bz_f z3) dX12_readZero_36 (fun H locs M4 eM4 hW hS => ?_)
    replace hf := hf M4 eM4
    refine lv_aload_n hx hb dX12_readZero_39 rfl (lv_at hl 0 rfl) ?_
    refine lv_dup hx hb dX12_readZero_40 rfl ?_
    refine gm_getI (C := RX12) (T := TX12) (N := 68) (j := 42) hx hb hts inT_12 hown hK hW k1 (by decide) rfl (by decide) rfl (hts _ kw_1358) rfl dX12_readZero_41 ?_
    refine lv_iconst (v := 1) hx hb dX12_readZero_44 (by decide +kernel) ?_
    refine lv_iadd hx hb dX12_readZero_45 ?_
    refine gm_putI (C := RX12) (T := TX12) (N := 68) (j := 42) hx hb hts inT_12 tyX12 tyX12_ok nmX12 hown hK hW hS k1 (by decide) rfl (by decide) rfl (hts _ kw_1358) rfl rfl rfl rfl dX12_readZero_46 (fun H locs M5 eM5 hW hS => ?_)
    replace hf := hf M5 eM5
    exact gm_vret hx hb hr hlocks hW hS hf dX12_readZero_49
  have j35 : ∀ (H : Heap) (locs : List Loc) (ls : Array Slot), lv_has ls 1 [(0, .ref v0)] → Wd D cy A Y M H → va_S A s.heap H locs → f_X12_readZero_35 Y v0 M Kn  → W p l e rm_X12_readZero s m args below meth c H locs 0 0 (MQ below (va_Qv Kn (BG D cy A Y) A) args s 0 0 A) (F0 m 35 ls [.ref v0]) := by
    intro  H locs ls hl hW hS hf
    unfold f_X12_readZero_35 at hf
    refine lv_iconst (v := 0) hx hb dX12_readZero_35 (by decide +kernel) ?_
    exact j36 _ _ _ _ (lv_sub hl [0] rfl) hW hS hf
  refine lv_if_eq (tgt := 35) hx hb dX12_readZero_5 (by decide) (fun c6 => ?_) (fun c6 => ?_)
  · replace hf := hf.1 c6
    exact j35  _ _ _ (lv_sub hl [0] rfl) hW hS hf
  · replace hf := hf.2 c6
    refine lv_aload_n hx hb dX12_readZero_8 rfl (lv_at hl 0 rfl) ?_
    refine gm_getI (C := RX12) (T := TX12) (N := 68) (j := 42) hx hb hts inT_12 hown hK hW k1 (by decide) rfl (by decide) rfl (hts _ kw_1358) rfl dX12_readZero_9 ?_
    refine lv_aload_n hx hb dX12_readZero_12 rfl (lv_at hl 0 rfl) ?_
    refine gm_getI (C := RX12) (T := TX12) (N := 68) (j := 41) hx hb hts inT_12 hown hK hW k1 (by decide) rfl (by decide) rfl (hts _ kw_1357) rfl dX12_readZero_13 ?_
    refine lv_icmp_ge (tgt := 35) hx hb dX12_readZero_16 (by decide) (fun c7 => ?_) (fun c7 => ?_)
    · replace hf := hf.1 c7
      exact j35  _ _ _ (lv_sub hl [0] rfl) hW hS hf
    · replace hf := hf.2 c7
      refine lv_aload_n hx hb dX12_readZero_19 rfl (lv_at hl 0 rfl) ?_
      obtain ⟨b8, hb8, hf⟩ := hf
      refine gm_getR (C := RX12) (T := TX12) (N := 68) (j := 40) hx hb hts inT_12 hown hK hW k1 (by decide) rfl (by decide) rfl (hts _ kw_1356) rfl dX12_readZero_20 hb8 ?_
      refine lv_aload_n hx hb dX12_readZero_23 rfl (lv_at hl 0 rfl) ?_
      refine gm_getI (C := RX12) (T := TX12) (N := 68) (j := 42) hx hb hts inT_12 hown hK hW k1 (by decide) rfl (by decide) rfl (hts _ kw_1358) rfl dX12_readZero_24 ?_
      obtain ⟨k9, hf⟩ := hf
      obtain ⟨h10, hf⟩ := hf
      refine gm_iald hx hb hK hW k9 h10 dX12_readZero_27 ?_
      refine lv_if_ne (tgt := 35) hx hb dX12_readZero_28 (by decide) (fun c11 => ?_) (fun c11 => ?_)
      · replace hf := hf.1 c11
        exact j35  _ _ _ (lv_sub hl [0] rfl) hW hS hf
      · replace hf := hf.2 c11
        refine lv_iconst (v := 1) hx hb dX12_readZero_31 (by decide +kernel) ?_
        refine lv_goto (tgt := 36) hx hb dX12_readZero_32 (by decide) ?_
        exact j36 _ _ _ _ (lv_sub hl [0] rfl) hW hS hf

abbrev rm_X12_readBytes : Room := { frames := 3, cells := 0, slots := 0, locals := 106 }
def f_X12_readBytes_68 (Y : Ly) (v0 : Nat) (Kn : Int64 → Mm → Prop) (r2 : Int64) (M6 : Mm) (y7 : Int32) : Prop :=
  ∀ M8 : Mm, M8 = sI M6 v0 (m1 (mI M6 v0) 42 ((mI M6 v0 42) + y7)) → (Kn r2 M8)
def f_X12_readBytes_67 (Y : Ly) (v0 : Nat) (Kn : Int64 → Mm → Prop) (r2 : Int64) (M6 : Mm) : Prop :=
  f_X12_readBytes_68 Y v0 Kn r2 M6 0
def f_X12_readBytes_41 (Y : Ly) (v0 : Nat) (Kn : Int64 → Mm → Prop) (M1 : Mm) (r2 : Int64) (y4 : Int32) : Prop :=
  bz y4 ∧ (∀ M6 : Mm, M6 = sI M1 v0 (m1 (mI M1 v0) 43 y4) → (((mI M6 v0 43) = 0 → (f_X12_readBytes_67 Y v0 Kn r2 M6)) ∧ (¬ ((mI M6 v0 43) = 0) → ((r2 ≤ 0 → (f_X12_readBytes_67 Y v0 Kn r2 M6)) ∧ (¬ (r2 ≤ 0) → (f_X12_readBytes_68 Y v0 Kn r2 M6 r2.toInt32))))))
def f_X12_readBytes_40 (Y : Ly) (v0 : Nat) (Kn : Int64 → Mm → Prop) (M1 : Mm) (r2 : Int64) : Prop :=
  f_X12_readBytes_41 Y v0 Kn M1 r2 0
def f_X12_readBytes (Y : Ly) (v0 : Nat) (M : Mm) (Kn : Int64 → Mm → Prop) : Prop :=
  yK Y v0 = 12 ∧ (f_X12_readVarint Y v0 M (fun r2 M1 => (((mI M1 v0 43) = 0 → (f_X12_readBytes_40 Y v0 Kn M1 r2)) ∧ (¬ ((mI M1 v0 43) = 0) → ((r2 < (-1) → (f_X12_readBytes_40 Y v0 Kn M1 r2)) ∧ (¬ (r2 < (-1)) → (((((mI M1 v0 41) - (mI M1 v0 42)).toInt64) < r2 → (f_X12_readBytes_40 Y v0 Kn M1 r2)) ∧ (¬ ((((mI M1 v0 41) - (mI M1 v0 42)).toInt64) < r2) → (f_X12_readBytes_41 Y v0 Kn M1 r2 1)))))))))
set_option maxHeartbeats 4000000 in
set_option maxRecDepth 100000 in
theorem m_X12_readBytes (l : Launch) (D : va_G) (cy : Cy) (tq sz : Nat) (Y : Ly) (v0 : Nat) (M : Mm) (Kn : Int64 → Mm → Prop) : Met l yX12_readBytes (Cond.code yX12_readBytes cX12_readBytes 3 (some .long) :: TT) rm_X12_readBytes (PcG D cy tq [.ref v0] sz Y M (f_X12_readBytes Y v0 M Kn)) (va_Ql Kn (BG D cy (Am Y sz) Y) (Am Y sz)) 0 0 (Am Y sz) := by
  refine Met.ofW (cc := cX12_readBytes) (maxL := 3) (ret := (some .long)) (by decide) rfl ?_
  intro p e s m args below meth c s₁ B hml hv
  obtain ⟨hargs, hsz, hW, hK, hC, hf⟩ := hv
  subst hsz
  have hx := B.exec
  have hb := B.bytes
  have hr := B.returns
  have hts : ∀ w ∈ TT, w.before args s = true := fun w h => atoms_spec (ws := Cond.code yX12_readBytes cX12_readBytes 3 (some .long) :: TT) B.pre w (List.mem_cons_of_mem _ h)
  have hown : s.vm.findClass RX12 = some m.cls := findClass_of_methodNamed B.named
  have hlocks := B.notSynchronized
  replace hW := Wd_self (sz := s.heap.size) hW
  generalize hAe : Am Y s.heap.size = A at hW hC ⊢
  have hA : ∀ q : Nat, s.heap.size ≤ q → A q := fun q h => by rw [← hAe]; exact Or.inr h
  clear hAe
  have hS : va_S A s.heap s.heap [] := va_S.rf
  obtain ⟨ls, hE, hl⟩ := gm_entry m [.ref v0] (n := 3) hargs (Nat.le_of_ble_eq_true rfl)
  rw [hE]
  have hl : lv_has ls 3 [(0, .ref v0)] := hl
  show W p l e rm_X12_readBytes s m args below meth c s.heap [] 0 0 (MQ below (va_Ql Kn (BG D cy A Y) A) args s 0 0 A) (F0 m 0 ls [])
  unfold f_X12_readBytes at hf
  refine lv_aload_n hx hb dX12_readBytes_0 rfl (lv_at hl 0 rfl) ?_
  obtain ⟨k3, hf⟩ := hf
  refine gm_cl (va_runV (As := []) (rest := []) ⟨hx, hb, hml, hown, hts⟩ (m_X12_readVarint l D cy tq _ Y _ _ _) (cwV 0 hts (good_V kw_1542 kw_1543 kw_1834 kw_12 kw_1544) rfl rfl rfl (by decide +kernel) ⟨Nat.le_of_ble_eq_true rfl, Nat.le_of_ble_eq_true rfl⟩) (gm_preV hK hW hC hS hA k3 (by decide) (q := (RX12, TX12, 68)) rfl rfl hf) rfl rfl hl.1 rfl (lv_room (Nat.le_of_ble_eq_true rfl)) dX12_readBytes_1 ⟨Nat.le_of_ble_eq_true rfl, Nat.le_of_ble_eq_true rfl⟩) hW hS hA (fun r2 M1 H locs hW hS hf => ?_)
  refine lv_lstore_n (lv' := [(1, .long r2), (0, .ref v0)]) hx hb dX12_readBytes_4 rfl hl (by decide) rfl (fun ls hl => ?_)
  refine lv_aload_n hx hb dX12_readBytes_5 rfl (lv_at hl 1 rfl) ?_
  refine lv_aload_n hx hb dX12_readBytes_6 rfl (lv_at hl 1 rfl) ?_
  refine gm_getI (C := RX12) (T := TX12) (N := 68) (j := 43) hx hb hts inT_12 hown hK hW k3 (by decide) rfl (by decide) rfl (hts _ kw_1359) rfl dX12_readBytes_7 ?_
  have j41 : ∀ (y4 : Int32) (H : Heap) (locs : List Loc) (ls : Array Slot), lv_has ls 3 [(0, .ref v0), (1, .long r2)] → Wd D cy A Y M1 H → va_S A s.heap H locs → f_X12_readBytes_41 Y v0 Kn M1 r2 y4 → W p l e rm_X12_readBytes s m args below meth c H locs 0 0 (MQ below (va_Ql Kn (BG D cy A Y) A) args s 0 0 A) (F0 m 41 ls [.int y4, .ref v0]) := by
    intro y4 H locs ls hl hW hS hf
    unfold f_X12_readBytes_41 at hf
    obtain ⟨z5, hf⟩ := hf
    refine gm_putI (C := RX12) (T := TX12) (N := 68) (j := 43) hx hb hts inT_12 tyX12 tyX12_ok nmX12 hown hK hW hS k3 (by decide) rfl (by decide) rfl (hts _ kw_1359) rfl rfl (bz_n z5) (bz_f z5) dX12_readBytes_41 (fun H locs M6 eM6 hW hS => ?_)
    replace hf := hf M6 eM6
    refine lv_aload_n hx hb dX12_readBytes_44 rfl (lv_at hl 0 rfl) ?_
    refine lv_dup hx hb dX12_readBytes_45 rfl ?_
    refine gm_getI (C := RX12) (T := TX12) (N := 68) (j := 42) hx hb hts inT_12 hown hK hW k3 (by decide) rfl (by decide) rfl (hts _ kw_1358) rfl dX12_readBytes_46 ?_
    refine lv_aload_n hx hb dX12_readBytes_49 rfl (lv_at hl 0 rfl) ?_
    refine gm_getI (C := RX12) (T := TX12) (N := 68) (j := 43) hx hb hts inT_12 hown hK hW k3 (by decide) rfl (by decide) rfl (hts _ kw_1359) rfl dX12_readBytes_50 ?_
    have j68 : ∀ (y7 : Int32) (H : Heap) (locs : List Loc) (ls : Array Slot), lv_has ls 3 [(1, .long r2)] → Wd D cy A Y M6 H → va_S A s.heap H locs → f_X12_readBytes_68 Y v0 Kn r2 M6 y7 → W p l e rm_X12_readBytes s m args below meth c H locs 0 0 (MQ below (va_Ql Kn (BG D cy A Y) A) args s 0 0 A) (F0 m 68 ls [.int y7, .int (mI M6 v0 42), .ref v0]) := by
      intro y7 H locs ls hl hW hS hf
      unfold f_X12_readBytes_68 at hf
      refine lv_iadd hx hb dX12_readBytes_68 ?_
      refine gm_putI (C := RX12) (T := TX12) (N := 68) (j := 42) hx hb hts inT_12 tyX12 tyX12_ok nmX12 hown hK hW hS k3 (by decide) rfl (by decide) rfl (hts _ kw_1358) rfl rfl rfl rfl dX12_readBytes_69 (fun H locs M8 eM8 hW hS => ?_)
      replace hf := hf M8 eM8
      refine lv_lload_n hx hb dX12_readBytes_72 rfl (lv_at hl 0 rfl) ?_
      exact gm_lret hx hb hr hlocks hW hS hf dX12_readBytes_73
    have j67 : ∀ (H : Heap) (locs : List Loc) (ls : Array Slot), lv_has ls 3 [(1, .long r2)] → Wd D cy A Y M6 H → va_S A s.heap H locs → f_X12_readBytes_67 Y v0 Kn r2 M6  → W p l e rm_X12_readBytes s m args below meth c H locs 0 0 (MQ below (va_Ql Kn (BG D cy A Y) A) args s 0 0 A) (F0 m 67 ls [.int (mI M6 v0 42), .ref v0]) := by
      intro  H locs ls hl hW hS hf
      unfold f_X12_readBytes_67 at hf
      refine lv_iconst (v := 0) hx hb dX12_readBytes_67 (by decide +kernel) ?_
      exact j68 _ _ _ _ (lv_sub hl [0] rfl) hW hS hf
    refine lv_if_eq (tgt := 67) hx hb dX12_readBytes_53 (by decide) (fun c9 => ?_) (fun c9 => ?_)
    · replace hf := hf.1 c9
      exact j67  _ _ _ (lv_sub hl [1] rfl) hW hS hf
    · replace hf := hf.2 c9
      refine lv_lload_n hx hb dX12_readBytes_56 rfl (lv_at hl 1 rfl) ?_
      refine lv_lconst (v := 0) hx hb dX12_readBytes_57 (by decide) ?_
      refine W.lcmp hx hb dX12_readBytes_58 ?_
      refine lv_if_le (tgt := 67) hx hb dX12_readBytes_59 (by decide) (fun c10 => ?_) (fun c10 => ?_)
      · replace hf := hf.1 (lg_le.mp c10)
        exact j67  _ _ _ (lv_sub hl [1] rfl) hW hS hf
      · replace hf := hf.2 (fun z => c10 (lg_le.mpr z))
        refine lv_lload_n hx hb dX12_readBytes_62 rfl (lv_at hl 1 rfl) ?_
        refine lv_l2i hx hb dX12_readBytes_63 rfl ?_
        refine lv_goto (tgt := 68) hx hb dX12_readBytes_64 (by decide) ?_
        exact j68 _ _ _ _ (lv_sub hl [1] rfl) hW hS hf
  have j40 : ∀ (H : Heap) (locs : List Loc) (ls : Array Slot), lv_has ls 3 [(0, .ref v0), (1, .long r2)] → Wd D cy A Y M1 H → va_S A s.heap H locs → f_X12_readBytes_40 Y v0 Kn M1 r2  → W p l e rm_X12_readBytes s m args below meth c H locs 0 0 (MQ below (va_Ql Kn (BG D cy A Y) A) args s 0 0 A) (F0 m 40 ls [.ref v0]) := by
    intro  H locs ls hl hW hS hf
    unfold f_X12_readBytes_40 at hf
    refine lv_iconst (v := 0) hx hb dX12_readBytes_40 (by decide +kernel) ?_
    exact j41 _ _ _ _ (lv_sub hl [0, 1] rfl) hW hS hf
  refine lv_if_eq (tgt := 40) hx hb dX12_readBytes_10 (by decide) (fun c11 => ?_) (fun c11 => ?_)
  · replace hf := hf.1 c11
    exact j40  _ _ _ (lv_sub hl [1, 0] rfl) hW hS hf
  · replace hf := hf.2 c11
    refine lv_lload_n hx hb dX12_readBytes_13 rfl (lv_at hl 0 rfl) ?_
    refine lv_ldc2 (v := -1) hx hb hown (hts _ kw_1523) dX12_readBytes_14 ?_
    refine W.lcmp hx hb dX12_readBytes_17 ?_
    refine lv_if_lt (tgt := 40) hx hb dX12_readBytes_18 (by decide) (fun c12 => ?_) (fun c12 => ?_)
    · replace hf := hf.1 (lg_lt.mp c12)
      exact j40  _ _ _ (lv_sub hl [1, 0] rfl) hW hS hf
    · replace hf := hf.2 (fun z => c12 (lg_lt.mpr z))
      refine lv_lload_n hx hb dX12_readBytes_21 rfl (lv_at hl 0 rfl) ?_
      refine lv_aload_n hx hb dX12_readBytes_22 rfl (lv_at hl 1 rfl) ?_
      refine gm_getI (C := RX12) (T := TX12) (N := 68) (j := 41) hx hb hts inT_12 hown hK hW k3 (by decide) rfl (by decide) rfl (hts _ kw_1357) rfl dX12_readBytes_23 ?_
      refine lv_aload_n hx hb dX12_readBytes_26 rfl (lv_at hl 1 rfl) ?_
      refine gm_getI (C := RX12) (T := TX12) (N := 68) (j := 42) hx hb hts inT_12 hown hK hW k3 (by decide) rfl (by decide) rfl (hts _ kw_1358) rfl dX12_readBytes_27 ?_
      refine lv_isub hx hb dX12_readBytes_30 ?_
      refine lv_i2l hx hb dX12_readBytes_31 rfl ?_
      refine W.lcmp hx hb dX12_readBytes_32 ?_
      refine lv_if_gt (tgt := 40) hx hb dX12_readBytes_33 (by decide) (fun c13 => ?_) (fun c13 => ?_)
      · replace hf := hf.1 (lg_gt.mp c13)
        exact j40  _ _ _ (lv_sub hl [1, 0] rfl) hW hS hf
      · replace hf := hf.2 (fun z => c13 (lg_gt.mpr z))
        refine lv_iconst (v := 1) hx hb dX12_readBytes_36 (by decide +kernel) ?_
        refine lv_goto (tgt := 41) hx hb dX12_readBytes_37 (by decide) ?_
        exact j41 _ _ _ _ (lv_sub hl [1, 0] rfl) hW hS hf

abbrev rm_X12_readRecord : Room := { frames := 4, cells := 0, slots := 0, locals := 128 }
def f_X12_readRecord_240 (Y : Ly) (Kn : Int32 → Mm → Prop) (M32 : Mm) (y33 : Int32) : Prop :=
  bz y33 ∧ Kn y33 M32
def f_X12_readRecord_239 (Y : Ly) (Kn : Int32 → Mm → Prop) (M32 : Mm) : Prop :=
  f_X12_readRecord_240 Y Kn M32 0
def f_X12_readRecord_211 (Y : Ly) (v0 : Nat) (Kn : Int32 → Mm → Prop) (x11 : Int32) (M29 : Mm) (y30 : Int32) : Prop :=
  ∀ M31 : Mm, M31 = sI M29 v0 (m1 (mI M29 v0) 51 ((mI M29 v0 42) - y30)) → (f_X12_readZero Y v0 M31 (fun M32 => (((mI M32 v0 43) = 0 → (f_X12_readRecord_239 Y Kn M32)) ∧ (¬ ((mI M32 v0 43) = 0) → ((¬ (mI M32 v0 42) = x11 → (f_X12_readRecord_239 Y Kn M32)) ∧ ((mI M32 v0 42) = x11 → (f_X12_readRecord_240 Y Kn M32 1)))))))
def f_X12_readRecord_210 (Y : Ly) (v0 : Nat) (Kn : Int32 → Mm → Prop) (x11 : Int32) (M29 : Mm) : Prop :=
  f_X12_readRecord_211 Y v0 Kn x11 M29 0
def f_X12_readRecord_169 (Y : Ly) (v0 : Nat) (Kn : Int32 → Mm → Prop) (x11 : Int32) (M24 : Mm) (y25 : Int32) : Prop :=
  ∀ M26 : Mm, M26 = sI M24 v0 (m1 (mI M24 v0) 49 ((mI M24 v0 42) - y25)) → (f_X12_readBytes Y v0 M26 (fun r28 M27 => (∀ M29 : Mm, M29 = sJ M27 v0 (m1 (mJ M27 v0) 52 r28) → (((mJ M29 v0 52) ≤ 0 → (f_X12_readRecord_210 Y v0 Kn x11 M29)) ∧ (¬ ((mJ M29 v0 52) ≤ 0) → (((mI M29 v0 43) = 0 → (f_X12_readRecord_210 Y v0 Kn x11 M29)) ∧ (¬ ((mI M29 v0 43) = 0) → (f_X12_readRecord_211 Y v0 Kn x11 M29 ((mJ M29 v0 52).toInt32)))))))))
def f_X12_readRecord_168 (Y : Ly) (v0 : Nat) (Kn : Int32 → Mm → Prop) (x11 : Int32) (M24 : Mm) : Prop :=
  f_X12_readRecord_169 Y v0 Kn x11 M24 0
def f_X12_readRecord_120 (Y : Ly) (v0 : Nat) (Kn : Int32 → Mm → Prop) (x11 : Int32) (M15 : Mm) (y16 : Int32) : Prop :=
  bz y16 ∧ (∀ M18 : Mm, M18 = sI M15 v0 (m1 (mI M15 v0) 43 y16) → (f_X12_readVarint Y v0 M18 (fun r20 M19 => (∀ M21 : Mm, M21 = sJ M19 v0 (m1 (mJ M19 v0) 48 r20) → (f_X12_readBytes Y v0 M21 (fun r23 M22 => (∀ M24 : Mm, M24 = sJ M22 v0 (m1 (mJ M22 v0) 50 r23) → (((mJ M24 v0 50) ≤ 0 → (f_X12_readRecord_168 Y v0 Kn x11 M24)) ∧ (¬ ((mJ M24 v0 50) ≤ 0) → (((mI M24 v0 43) = 0 → (f_X12_readRecord_168 Y v0 Kn x11 M24)) ∧ (¬ ((mI M24 v0 43) = 0) → (f_X12_readRecord_169 Y v0 Kn x11 M24 ((mJ M24 v0 50).toInt32)))))))))))))
def f_X12_readRecord_119 (Y : Ly) (v0 : Nat) (Kn : Int32 → Mm → Prop) (x11 : Int32) (M15 : Mm) : Prop :=
  f_X12_readRecord_120 Y v0 Kn x11 M15 0
def f_X12_readRecord_52 (Y : Ly) (v0 : Nat) (v1 : Int64) (Kn : Int32 → Mm → Prop) (M5 : Mm) (r6 : Int64) (y7 : Int32) : Prop :=
  bz y7 ∧ (∀ M9 : Mm, M9 = sI M5 v0 (m1 (mI M5 v0) 43 y7) → ((¬ (mI M9 v0 43) = 0 → (∀ x11 : Int32, x11 = (mI M9 v0 42) + r6.toInt32 → (f_X12_readZero Y v0 M9 (fun M12 => (f_X12_readVarint Y v0 M12 (fun r14 M13 => (∀ M15 : Mm, M15 = sJ M13 v0 (m1 (mJ M13 v0) 47 (v1 + r14)) → (((mI M15 v0 43) = 0 → (f_X12_readRecord_119 Y v0 Kn x11 M15)) ∧ (¬ ((mI M15 v0 43) = 0) → (((mJ M15 v0 47) < 0 → (f_X12_readRecord_119 Y v0 Kn x11 M15)) ∧ (¬ ((mJ M15 v0 47) < 0) → ((1125899906842624 < (mJ M15 v0 47) → (f_X12_readRecord_119 Y v0 Kn x11 M15)) ∧ (¬ (1125899906842624 < (mJ M15 v0 47)) → (f_X12_readRecord_120 Y v0 Kn x11 M15 1)))))))))))))) ∧ ((mI M9 v0 43) = 0 → (bz 0 ∧ Kn 0 M9))))
def f_X12_readRecord_51 (Y : Ly) (v0 : Nat) (v1 : Int64) (Kn : Int32 → Mm → Prop) (M5 : Mm) (r6 : Int64) : Prop :=
  f_X12_readRecord_52 Y v0 v1 Kn M5 r6 0
def f_X12_readRecord (Y : Ly) (v0 : Nat) (v1 : Int64) (M : Mm) (Kn : Int32 → Mm → Prop) : Prop :=
  yK Y v0 = 12 ∧ (∀ M2 : Mm, M2 = sI M v0 (m1 (mI M v0) 46 (mI M v0 42)) → (bz 1 ∧ (∀ M4 : Mm, M4 = sI M2 v0 (m1 (mI M2 v0) 43 1) → (f_X12_readVarint Y v0 M4 (fun r6 M5 => (((mI M5 v0 43) = 0 → (f_X12_readRecord_51 Y v0 v1 Kn M5 r6)) ∧ (¬ ((mI M5 v0 43) = 0) → ((r6 < 0 → (f_X12_readRecord_51 Y v0 v1 Kn M5 r6)) ∧ (¬ (r6 < 0) → (((((mI M5 v0 41) - (mI M5 v0 42)).toInt64) < r6 → (f_X12_readRecord_51 Y v0 v1 Kn M5 r6)) ∧ (¬ ((((mI M5 v0 41) - (mI M5 v0 42)).toInt64) < r6) → (f_X12_readRecord_52 Y v0 v1 Kn M5 r6 1))))))))))))
set_option maxHeartbeats 4000000 in
set_option maxRecDepth 100000 in
theorem m_X12_readRecord (l : Launch) (D : va_G) (cy : Cy) (tq sz : Nat) (Y : Ly) (v0 : Nat) (v1 : Int64) (M : Mm) (Kn : Int32 → Mm → Prop) : Met l yX12_readRecord (Cond.code yX12_readRecord cX12_readRecord 6 (some .boolean) :: TT) rm_X12_readRecord (PcG D cy tq [.ref v0, .long v1] sz Y M (f_X12_readRecord Y v0 v1 M Kn)) (va_Qi Kn (BG D cy (Am Y sz) Y) (Am Y sz)) 0 0 (Am Y sz) := by
  refine Met.ofW (cc := cX12_readRecord) (maxL := 6) (ret := (some .boolean)) (by decide) rfl ?_
  intro p e s m args below meth c s₁ B hml hv
  obtain ⟨hargs, hsz, hW, hK, hC, hf⟩ := hv
  subst hsz
  have hx := B.exec
  have hb := B.bytes
  have hr := B.returns
  have hts : ∀ w ∈ TT, w.before args s = true := fun w h => atoms_spec (ws := Cond.code yX12_readRecord cX12_readRecord 6 (some .boolean) :: TT) B.pre w (List.mem_cons_of_mem _ h)
  have hown : s.vm.findClass RX12 = some m.cls := findClass_of_methodNamed B.named
  have hlocks := B.notSynchronized
  replace hW := Wd_self (sz := s.heap.size) hW
  generalize hAe : Am Y s.heap.size = A at hW hC ⊢
  have hA : ∀ q : Nat, s.heap.size ≤ q → A q := fun q h => by rw [← hAe]; exact Or.inr h
  clear hAe
  have hS : va_S A s.heap s.heap [] := va_S.rf
  obtain ⟨ls, hE, hl⟩ := gm_entry m [.ref v0, .long v1] (n := 6) hargs (Nat.le_of_ble_eq_true rfl)
  rw [hE]
  have hl : lv_has ls 6 [(0, .ref v0), (1, .long v1)] := hl
  show W p l e rm_X12_readRecord s m args below meth c s.heap [] 0 0 (MQ below (va_Qi Kn (BG D cy A Y) A) args s 0 0 A) (F0 m 0 ls [])
  unfold f_X12_readRecord at hf
  refine lv_aload_n hx hb dX12_readRecord_0 rfl (lv_at hl 0 rfl) ?_
  refine lv_aload_n hx hb dX12_readRecord_1 rfl (lv_at hl 0 rfl) ?_
  obtain ⟨k1, hf⟩ := hf
  refine gm_getI (C := RX12) (T := TX12) (N := 68) (j := 42) hx hb hts inT_12 hown hK hW k1 (by decide) rfl (by decide) rfl (hts _ kw_1358) rfl dX12_readRecord_2 ?_
  refine gm_putI (C := RX12) (T := TX12) (N := 68) (j := 46) hx hb hts inT_12 tyX12 tyX12_ok nmX12 hown hK hW hS k1 (by decide) rfl (by decide) rfl (hts _ kw_1362) rfl rfl rfl rfl dX12_readRecord_5 (fun H locs M2 eM2 hW hS => ?_)
  replace hf := hf M2 eM2
  refine lv_aload_n hx hb dX12_readRecord_8 rfl (lv_at hl 0 rfl) ?_
  refine lv_iconst (v := 1) hx hb dX12_readRecord_9 (by decide +kernel) ?_
  obtain ⟨z3, hf⟩ := hf
  refine gm_putI (C := RX12) (T := TX12) (N := 68) (j := 43) hx hb hts inT_12 tyX12 tyX12_ok nmX12 hown hK hW hS k1 (by decide) rfl (by decide) rfl (hts _ kw_1359) rfl rfl (bz_n z3) (bz_f z3) dX12_readRecord_10 (fun H locs M4 eM4 hW hS => ?_)
  replace hf := hf M4 eM4
  refine lv_aload_n hx hb dX12_readRecord_13 rfl (lv_at hl 0 rfl) ?_
  refine gm_cl (va_runV (As := []) (rest := []) ⟨hx, hb, hml, hown, hts⟩ (m_X12_readVarint l D cy tq _ Y _ _ _) (cwV 0 hts (good_V kw_1542 kw_1543 kw_1834 kw_12 kw_1544) rfl rfl rfl (by decide +kernel) ⟨Nat.le_of_ble_eq_true rfl, Nat.le_of_ble_eq_true rfl⟩) (gm_preV hK hW hC hS hA k1 (by decide) (q := (RX12, TX12, 68)) rfl rfl hf) rfl rfl hl.1 rfl (lv_room (Nat.le_of_ble_eq_true rfl)) dX12_readRecord_14 ⟨Nat.le_of_ble_eq_true rfl, Nat.le_of_ble_eq_true rfl⟩) hW hS hA (fun r6 M5 H locs hW hS hf => ?_)
  refine lv_lstore_n (lv' := [(3, .long r6), (0, .ref v0), (1, .long v1)]) hx hb dX12_readRecord_17 rfl hl (by decide) rfl (fun ls hl => ?_)
  refine lv_aload_n hx hb dX12_readRecord_18 rfl (lv_at hl 1 rfl) ?_
  refine lv_aload_n hx hb dX12_readRecord_19 rfl (lv_at hl 1 rfl) ?_
  refine gm_getI (C := RX12) (T := TX12) (N := 68) (j := 43) hx hb hts inT_12 hown hK hW k1 (by decide) rfl (by decide) rfl (hts _ kw_1359) rfl dX12_readRecord_20 ?_
  have j52 : ∀ (y7 : Int32) (H : Heap) (locs : List Loc) (ls : Array Slot), lv_has ls 6 [(0, .ref v0), (1, .long v1), (3, .long r6)] → Wd D cy A Y M5 H → va_S A s.heap H locs → f_X12_readRecord_52 Y v0 v1 Kn M5 r6 y7 → W p l e rm_X12_readRecord s m args below meth c H locs 0 0 (MQ below (va_Qi Kn (BG D cy A Y) A) args s 0 0 A) (F0 m 52 ls [.int y7, .ref v0]) := by
    intro y7 H locs ls hl hW hS hf
    unfold f_X12_readRecord_52 at hf
    obtain ⟨z8, hf⟩ := hf
    refine gm_putI (C := RX12) (T := TX12) (N := 68) (j := 43) hx hb hts inT_12 tyX12 tyX12_ok nmX12 hown hK hW hS k1 (by decide) rfl (by decide) rfl (hts _ kw_1359) rfl rfl (bz_n z8) (bz_f z8) dX12_readRecord_52 (fun H locs M9 eM9 hW hS => ?_)
    replace hf := hf M9 eM9
    refine lv_aload_n hx hb dX12_readRecord_55 rfl (lv_at hl 0 rfl) ?_
    refine gm_getI (C := RX12) (T := TX12) (N := 68) (j := 43) hx hb hts inT_12 hown hK hW k1 (by decide) rfl (by decide) rfl (hts _ kw_1359) rfl dX12_readRecord_56 ?_
    refine lv_if_ne (tgt := 64) hx hb dX12_readRecord_59 (by decide) (fun c10 => ?_) (fun c10 => ?_)
    · replace hf := hf.1 c10
      refine lv_aload_n hx hb dX12_readRecord_64 rfl (lv_at hl 0 rfl) ?_
      refine gm_getI (C := RX12) (T := TX12) (N := 68) (j := 42) hx hb hts inT_12 hown hK hW k1 (by decide) rfl (by decide) rfl (hts _ kw_1358) rfl dX12_readRecord_65 ?_
      refine lv_lload_n hx hb dX12_readRecord_68 rfl (lv_at hl 2 rfl) ?_
      refine lv_l2i hx hb dX12_readRecord_69 rfl ?_
      refine lv_iadd hx hb dX12_readRecord_70 ?_
      refine lv_topi (fun x11 ex11 => ?_)
      replace hf := hf x11 ex11
      refine lv_istore (lv' := [(5, .int x11), (0, .ref v0), (1, .long v1), (3, .long r6)]) hx hb dX12_readRecord_71 hl (by decide) rfl (fun ls hl => ?_)
      refine lv_aload_n hx hb dX12_readRecord_73 rfl (lv_at hl 1 rfl) ?_
      refine gm_cv (va_runV (As := []) (rest := []) ⟨hx, hb, hml, hown, hts⟩ (m_X12_readZero l D cy tq _ Y _ _ _) (cwV 0 hts (good_V kw_1545 kw_1546 kw_1835 kw_12 kw_1547) rfl rfl rfl (by decide +kernel) ⟨Nat.le_of_ble_eq_true rfl, Nat.le_of_ble_eq_true rfl⟩) (gm_preV hK hW hC hS hA k1 (by decide) (q := (RX12, TX12, 68)) rfl rfl hf) rfl rfl hl.1 rfl (lv_room (Nat.le_of_ble_eq_true rfl)) dX12_readRecord_74 ⟨Nat.le_of_ble_eq_true rfl, Nat.le_of_ble_eq_true rfl⟩) hW hS hA (fun M12 H locs hW hS hf => ?_)
      refine lv_aload_n hx hb dX12_readRecord_77 rfl (lv_at hl 1 rfl) ?_
      refine lv_lload_n hx hb dX12_readRecord_78 rfl (lv_at hl 2 rfl) ?_
      refine lv_aload_n hx hb dX12_readRecord_79 rfl (lv_at hl 1 rfl) ?_
      refine gm_cl (va_runV (As := []) (rest := [.long v1, .ref v0]) ⟨hx, hb, hml, hown, hts⟩ (m_X12_readVarint l D cy tq _ Y _ _ _) (cwV 0 hts (good_V kw_1542 kw_1543 kw_1834 kw_12 kw_1544) rfl rfl rfl (by decide +kernel) ⟨Nat.le_of_ble_eq_true rfl, Nat.le_of_ble_eq_true rfl⟩) (gm_preV hK hW hC hS hA k1 (by decide) (q := (RX12, TX12, 68)) rfl rfl hf) rfl rfl hl.1 rfl (lv_room (Nat.le_of_ble_eq_true rfl)) dX12_readRecord_80 ⟨Nat.le_of_ble_eq_true rfl, Nat.le_of_ble_eq_true rfl⟩) hW hS hA (fun r14 M13 H locs hW hS hf => ?_)
      refine lv_ladd hx hb dX12_readRecord_83 ?_
      refine gm_putJ (C := RX12) (T := TX12) (N := 68) (j := 47) hx hb hts inT_12 tyX12 tyX12_ok nmX12 hown hK hW hS k1 (by decide) rfl (by decide) rfl (hts _ kw_1363) rfl rfl rfl rfl dX12_readRecord_84 (fun H locs M15 eM15 hW hS => ?_)
      replace hf := hf M15 eM15
      refine lv_aload_n hx hb dX12_readRecord_87 rfl (lv_at hl 1 rfl) ?_
      refine lv_aload_n hx hb dX12_readRecord_88 rfl (lv_at hl 1 rfl) ?_
      refine gm_getI (C := RX12) (T := TX12) (N := 68) (j := 43) hx hb hts inT_12 hown hK hW k1 (by decide) rfl (by decide) rfl (hts _ kw_1359) rfl dX12_readRecord_89 ?_
      have j120 : ∀ (y16 : Int32) (H : Heap) (locs : List Loc) (ls : Array Slot), lv_has ls 6 [(0, .ref v0), (5, .int x11)] → Wd D cy A Y M15 H → va_S A s.heap H locs → f_X12_readRecord_120 Y v0 Kn x11 M15 y16 → W p l e rm_X12_readRecord s m args below meth c H locs 0 0 (MQ below (va_Qi Kn (BG D cy A Y) A) args s 0 0 A) (F0 m 120 ls [.int y16, .ref v0]) := by
        intro y16 H locs ls hl hW hS hf
        unfold f_X12_readRecord_120 at hf
        obtain ⟨z17, hf⟩ := hf
        refine gm_putI (C := RX12) (T := TX12) (N := 68) (j := 43) hx hb hts inT_12 tyX12 tyX12_ok nmX12 hown hK hW hS k1 (by decide) rfl (by decide) rfl (hts _ kw_1359) rfl rfl (bz_n z17) (bz_f z17) dX12_readRecord_120 (fun H locs M18 eM18 hW hS => ?_)
        replace hf := hf M18 eM18
        refine lv_aload_n hx hb dX12_readRecord_123 rfl (lv_at hl 0 rfl) ?_
        refine lv_aload_n hx hb dX12_readRecord_124 rfl (lv_at hl 0 rfl) ?_
        refine gm_cl (va_runV (As := []) (rest := [.ref v0]) ⟨hx, hb, hml, hown, hts⟩ (m_X12_readVarint l D cy tq _ Y _ _ _) (cwV 0 hts (good_V kw_1542 kw_1543 kw_1834 kw_12 kw_1544) rfl rfl rfl (by decide +kernel) ⟨Nat.le_of_ble_eq_true rfl, Nat.le_of_ble_eq_true rfl⟩) (gm_preV hK hW hC hS hA k1 (by decide) (q := (RX12, TX12, 68)) rfl rfl hf) rfl rfl hl.1 rfl (lv_room (Nat.le_of_ble_eq_true rfl)) dX12_readRecord_125 ⟨Nat.le_of_ble_eq_true rfl, Nat.le_of_ble_eq_true rfl⟩) hW hS hA (fun r20 M19 H locs hW hS hf => ?_)
        refine gm_putJ (C := RX12) (T := TX12) (N := 68) (j := 48) hx hb hts inT_12 tyX12 tyX12_ok nmX12 hown hK hW hS k1 (by decide) rfl (by decide) rfl (hts _ kw_1364) rfl rfl rfl rfl dX12_readRecord_128 (fun H locs M21 eM21 hW hS => ?_)
        replace hf := hf M21 eM21
        refine lv_aload_n hx hb dX12_readRecord_131 rfl (lv_at hl 0 rfl) ?_
        refine lv_aload_n hx hb dX12_readRecord_132 rfl (lv_at hl 0 rfl) ?_
        refine gm_cl (va_runV (As := []) (rest := [.ref v0]) ⟨hx, hb, hml, hown, hts⟩ (m_X12_readBytes l D cy tq _ Y _ _ _) (cwV 0 hts (good_V kw_1548 kw_1549 kw_1836 kw_12 kw_1550) rfl rfl rfl (by decide +kernel) ⟨Nat.le_of_ble_eq_true rfl, Nat.le_of_ble_eq_true rfl⟩) (gm_preV hK hW hC hS hA k1 (by decide) (q := (RX12, TX12, 68)) rfl rfl hf) rfl rfl hl.1 rfl (lv_room (Nat.le_of_ble_eq_true rfl)) dX12_readRecord_133 ⟨Nat.le_of_ble_eq_true rfl, Nat.le_of_ble_eq_true rfl⟩) hW hS hA (fun r23 M22 H locs hW hS hf => ?_)
        refine gm_putJ (C := RX12) (T := TX12) (N := 68) (j := 50) hx hb hts inT_12 tyX12 tyX12_ok nmX12 hown hK hW hS k1 (by decide) rfl (by decide) rfl (hts _ kw_1366) rfl rfl rfl rfl dX12_readRecord_136 (fun H locs M24 eM24 hW hS => ?_)
        replace hf := hf M24 eM24
        refine lv_aload_n hx hb dX12_readRecord_139 rfl (lv_at hl 0 rfl) ?_
        refine lv_aload_n hx hb dX12_readRecord_140 rfl (lv_at hl 0 rfl) ?_
        refine gm_getI (C := RX12) (T := TX12) (N := 68) (j := 42) hx hb hts inT_12 hown hK hW k1 (by decide) rfl (by decide) rfl (hts _ kw_1358) rfl dX12_readRecord_141 ?_
        refine lv_aload_n hx hb dX12_readRecord_144 rfl (lv_at hl 0 rfl) ?_
        refine gm_getJ (C := RX12) (T := TX12) (N := 68) (j := 50) hx hb hts inT_12 hown hK hW k1 (by decide) rfl (by decide) rfl (hts _ kw_1366) rfl dX12_readRecord_145 ?_
        refine lv_lconst (v := 0) hx hb dX12_readRecord_148 (by decide) ?_
        refine W.lcmp hx hb dX12_readRecord_149 ?_
        have j169 : ∀ (y25 : Int32) (H : Heap) (locs : List Loc) (ls : Array Slot), lv_has ls 6 [(0, .ref v0), (5, .int x11)] → Wd D cy A Y M24 H → va_S A s.heap H locs → f_X12_readRecord_169 Y v0 Kn x11 M24 y25 → W p l e rm_X12_readRecord s m args below meth c H locs 0 0 (MQ below (va_Qi Kn (BG D cy A Y) A) args s 0 0 A) (F0 m 169 ls [.int y25, .int (mI M24 v0 42), .ref v0]) := by
          intro y25 H locs ls hl hW hS hf
          unfold f_X12_readRecord_169 at hf
          refine lv_isub hx hb dX12_readRecord_169 ?_
          refine gm_putI (C := RX12) (T := TX12) (N := 68) (j := 49) hx hb hts inT_12 tyX12 tyX12_ok nmX12 hown hK hW hS k1 (by decide) rfl (by decide) rfl (hts _ kw_1365) rfl rfl rfl rfl dX12_readRecord_170 (fun H locs M26 eM26 hW hS => ?_)
          replace hf := hf M26 eM26
          refine lv_aload_n hx hb dX12_readRecord_173 rfl (lv_at hl 0 rfl) ?_
          refine lv_aload_n hx hb dX12_readRecord_174 rfl (lv_at hl 0 rfl) ?_
          refine gm_cl (va_runV (As := []) (rest := [.ref v0]) ⟨hx, hb, hml, hown, hts⟩ (m_X12_readBytes l D cy tq _ Y _ _ _) (cwV 0 hts (good_V kw_1548 kw_1549 kw_1836 kw_12 kw_1550) rfl rfl rfl (by decide +kernel) ⟨Nat.le_of_ble_eq_true rfl, Nat.le_of_ble_eq_true rfl⟩) (gm_preV hK hW hC hS hA k1 (by decide) (q := (RX12, TX12, 68)) rfl rfl hf) rfl rfl hl.1 rfl (lv_room (Nat.le_of_ble_eq_true rfl)) dX12_readRecord_175 ⟨Nat.le_of_ble_eq_true rfl, Nat.le_of_ble_eq_true rfl⟩) hW hS hA (fun r28 M27 H locs hW hS hf => ?_)
          refine gm_putJ (C := RX12) (T := TX12) (N := 68) (j := 52) hx hb hts inT_12 tyX12 tyX12_ok nmX12 hown hK hW hS k1 (by decide) rfl (by decide) rfl (hts _ kw_1368) rfl rfl rfl rfl dX12_readRecord_178 (fun H locs M29 eM29 hW hS => ?_)
          replace hf := hf M29 eM29
          refine lv_aload_n hx hb dX12_readRecord_181 rfl (lv_at hl 0 rfl) ?_
          refine lv_aload_n hx hb dX12_readRecord_182 rfl (lv_at hl 0 rfl) ?_
          refine gm_getI (C := RX12) (T := TX12) (N := 68) (j := 42) hx hb hts inT_12 hown hK hW k1 (by decide) rfl (by decide) rfl (hts _ kw_1358) rfl dX12_readRecord_183 ?_
          refine lv_aload_n hx hb dX12_readRecord_186 rfl (lv_at hl 0 rfl) ?_
          refine gm_getJ (C := RX12) (T := TX12) (N := 68) (j := 52) hx hb hts inT_12 hown hK hW k1 (by decide) rfl (by decide) rfl (hts _ kw_1368) rfl dX12_readRecord_187 ?_
          refine lv_lconst (v := 0) hx hb dX12_readRecord_190 (by decide) ?_
          refine W.lcmp hx hb dX12_readRecord_191 ?_
          have j211 : ∀ (y30 : Int32) (H : Heap) (locs : List Loc) (ls : Array Slot), lv_has ls 6 [(0, .ref v0), (5, .int x11)] → Wd D cy A Y M29 H → va_S A s.heap H locs → f_X12_readRecord_211 Y v0 Kn x11 M29 y30 → W p l e rm_X12_readRecord s m args below meth c H locs 0 0 (MQ below (va_Qi Kn (BG D cy A Y) A) args s 0 0 A) (F0 m 211 ls [.int y30, .int (mI M29 v0 42), .ref v0]) := by
            intro y30 H locs ls hl hW hS hf
            unfold f_X12_readRecord_211 at hf
            refine lv_isub hx hb dX12_readRecord_211 ?_
            refine gm_putI (C := RX12) (T := TX12) (N := 68) (j := 51) hx hb hts inT_12 tyX12 tyX12_ok nmX12 hown hK hW hS k1 (by decide) rfl (by decide) rfl (hts _ kw_1367) rfl rfl rfl rfl dX12_readRecord_212 (fun H locs M31 eM31 hW hS => ?_)
            replace hf := hf M31 eM31
            refine lv_aload_n hx hb dX12_readRecord_215 rfl (lv_at hl 0 rfl) ?_
            refine gm_cv (va_runV (As := []) (rest := []) ⟨hx, hb, hml, hown, hts⟩ (m_X12_readZero l D cy tq _ Y _ _ _) (cwV 0 hts (good_V kw_1545 kw_1546 kw_1835 kw_12 kw_1547) rfl rfl rfl (by decide +kernel) ⟨Nat.le_of_ble_eq_true rfl, Nat.le_of_ble_eq_true rfl⟩) (gm_preV hK hW hC hS hA k1 (by decide) (q := (RX12, TX12, 68)) rfl rfl hf) rfl rfl hl.1 rfl (lv_room (Nat.le_of_ble_eq_true rfl)) dX12_readRecord_216 ⟨Nat.le_of_ble_eq_true rfl, Nat.le_of_ble_eq_true rfl⟩) hW hS hA (fun M32 H locs hW hS hf => ?_)
            refine lv_aload_n hx hb dX12_readRecord_219 rfl (lv_at hl 0 rfl) ?_
            refine gm_getI (C := RX12) (T := TX12) (N := 68) (j := 43) hx hb hts inT_12 hown hK hW k1 (by decide) rfl (by decide) rfl (hts _ kw_1359) rfl dX12_readRecord_220 ?_
            have j240 : ∀ (y33 : Int32) (H : Heap) (locs : List Loc) (ls : Array Slot), lv_has ls 6 [] → Wd D cy A Y M32 H → va_S A s.heap H locs → f_X12_readRecord_240 Y Kn M32 y33 → W p l e rm_X12_readRecord s m args below meth c H locs 0 0 (MQ below (va_Qi Kn (BG D cy A Y) A) args s 0 0 A) (F0 m 240 ls [.int y33]) := by
              intro y33 H locs ls hl hW hS hf
              unfold f_X12_readRecord_240 at hf
              exact gm_zret hx hb hr hlocks hW hS hf.1 hf.2 dX12_readRecord_240
            have j239 : ∀ (H : Heap) (locs : List Loc) (ls : Array Slot), lv_has ls 6 [] → Wd D cy A Y M32 H → va_S A s.heap H locs → f_X12_readRecord_239 Y Kn M32  → W p l e rm_X12_readRecord s m args below meth c H locs 0 0 (MQ below (va_Qi Kn (BG D cy A Y) A) args s 0 0 A) (F0 m 239 ls []) := by
              intro  H locs ls hl hW hS hf
              unfold f_X12_readRecord_239 at hf
              refine lv_iconst (v := 0) hx hb dX12_readRecord_239 (by decide +kernel) ?_
              exact j240 _ _ _ _ (lv_sub hl [] rfl) hW hS hf
            refine lv_if_eq (tgt := 239) hx hb dX12_readRecord_223 (by decide) (fun c34 => ?_) (fun c34 => ?_)
            · replace hf := hf.1 c34
              exact j239  _ _ _ (lv_sub hl [] rfl) hW hS hf
            · replace hf := hf.2 c34
              refine lv_aload_n hx hb dX12_readRecord_226 rfl (lv_at hl 0 rfl) ?_
              refine gm_getI (C := RX12) (T := TX12) (N := 68) (j := 42) hx hb hts inT_12 hown hK hW k1 (by decide) rfl (by decide) rfl (hts _ kw_1358) rfl dX12_readRecord_227 ?_
              refine lv_iload hx hb dX12_readRecord_230 (lv_at hl 1 rfl) ?_
              refine lv_icmp_ne (tgt := 239) hx hb dX12_readRecord_232 (by decide) (fun c35 => ?_) (fun c35 => ?_)
              · replace hf := hf.1 c35
                exact j239  _ _ _ (lv_sub hl [] rfl) hW hS hf
              · replace hf := hf.2 c35
                refine lv_iconst (v := 1) hx hb dX12_readRecord_235 (by decide +kernel) ?_
                refine lv_goto (tgt := 240) hx hb dX12_readRecord_236 (by decide) ?_
                exact j240 _ _ _ _ (lv_sub hl [] rfl) hW hS hf
          have j210 : ∀ (H : Heap) (locs : List Loc) (ls : Array Slot), lv_has ls 6 [(0, .ref v0), (5, .int x11)] → Wd D cy A Y M29 H → va_S A s.heap H locs → f_X12_readRecord_210 Y v0 Kn x11 M29  → W p l e rm_X12_readRecord s m args below meth c H locs 0 0 (MQ below (va_Qi Kn (BG D cy A Y) A) args s 0 0 A) (F0 m 210 ls [.int (mI M29 v0 42), .ref v0]) := by
            intro  H locs ls hl hW hS hf
            unfold f_X12_readRecord_210 at hf
            refine lv_iconst (v := 0) hx hb dX12_readRecord_210 (by decide +kernel) ?_
            exact j211 _ _ _ _ (lv_sub hl [0, 1] rfl) hW hS hf
          refine lv_if_le (tgt := 210) hx hb dX12_readRecord_192 (by decide) (fun c36 => ?_) (fun c36 => ?_)
          · replace hf := hf.1 (lg_le.mp c36)
            exact j210  _ _ _ (lv_sub hl [0, 1] rfl) hW hS hf
          · replace hf := hf.2 (fun z => c36 (lg_le.mpr z))
            refine lv_aload_n hx hb dX12_readRecord_195 rfl (lv_at hl 0 rfl) ?_
            refine gm_getI (C := RX12) (T := TX12) (N := 68) (j := 43) hx hb hts inT_12 hown hK hW k1 (by decide) rfl (by decide) rfl (hts _ kw_1359) rfl dX12_readRecord_196 ?_
            refine lv_if_eq (tgt := 210) hx hb dX12_readRecord_199 (by decide) (fun c37 => ?_) (fun c37 => ?_)
            · replace hf := hf.1 c37
              exact j210  _ _ _ (lv_sub hl [0, 1] rfl) hW hS hf
            · replace hf := hf.2 c37
              refine lv_aload_n hx hb dX12_readRecord_202 rfl (lv_at hl 0 rfl) ?_
              refine gm_getJ (C := RX12) (T := TX12) (N := 68) (j := 52) hx hb hts inT_12 hown hK hW k1 (by decide) rfl (by decide) rfl (hts _ kw_1368) rfl dX12_readRecord_203 ?_
              refine lv_l2i hx hb dX12_readRecord_206 rfl ?_
              refine lv_goto (tgt := 211) hx hb dX12_readRecord_207 (by decide) ?_
              exact j211 _ _ _ _ (lv_sub hl [0, 1] rfl) hW hS hf
        have j168 : ∀ (H : Heap) (locs : List Loc) (ls : Array Slot), lv_has ls 6 [(0, .ref v0), (5, .int x11)] → Wd D cy A Y M24 H → va_S A s.heap H locs → f_X12_readRecord_168 Y v0 Kn x11 M24  → W p l e rm_X12_readRecord s m args below meth c H locs 0 0 (MQ below (va_Qi Kn (BG D cy A Y) A) args s 0 0 A) (F0 m 168 ls [.int (mI M24 v0 42), .ref v0]) := by
          intro  H locs ls hl hW hS hf
          unfold f_X12_readRecord_168 at hf
          refine lv_iconst (v := 0) hx hb dX12_readRecord_168 (by decide +kernel) ?_
          exact j169 _ _ _ _ (lv_sub hl [0, 1] rfl) hW hS hf
        refine lv_if_le (tgt := 168) hx hb dX12_readRecord_150 (by decide) (fun c38 => ?_) (fun c38 => ?_)
        · replace hf := hf.1 (lg_le.mp c38)
          exact j168  _ _ _ (lv_sub hl [0, 1] rfl) hW hS hf
        · replace hf := hf.2 (fun z => c38 (lg_le.mpr z))
          refine lv_aload_n hx hb dX12_readRecord_153 rfl (lv_at hl 0 rfl) ?_
          refine gm_getI (C := RX12) (T := TX12) (N := 68) (j := 43) hx hb hts inT_12 hown hK hW k1 (by decide) rfl (by decide) rfl (hts _ kw_1359) rfl dX12_readRecord_154 ?_
          refine lv_if_eq (tgt := 168) hx hb dX12_readRecord_157 (by decide) (fun c39 => ?_) (fun c39 => ?_)
          · replace hf := hf.1 c39
            exact j168  _ _ _ (lv_sub hl [0, 1] rfl) hW hS hf
          · replace hf := hf.2 c39
            refine lv_aload_n hx hb dX12_readRecord_160 rfl (lv_at hl 0 rfl) ?_
            refine gm_getJ (C := RX12) (T := TX12) (N := 68) (j := 50) hx hb hts inT_12 hown hK hW k1 (by decide) rfl (by decide) rfl (hts _ kw_1366) rfl dX12_readRecord_161 ?_
            refine lv_l2i hx hb dX12_readRecord_164 rfl ?_
            refine lv_goto (tgt := 169) hx hb dX12_readRecord_165 (by decide) ?_
            exact j169 _ _ _ _ (lv_sub hl [0, 1] rfl) hW hS hf
      have j119 : ∀ (H : Heap) (locs : List Loc) (ls : Array Slot), lv_has ls 6 [(0, .ref v0), (5, .int x11)] → Wd D cy A Y M15 H → va_S A s.heap H locs → f_X12_readRecord_119 Y v0 Kn x11 M15  → W p l e rm_X12_readRecord s m args below meth c H locs 0 0 (MQ below (va_Qi Kn (BG D cy A Y) A) args s 0 0 A) (F0 m 119 ls [.ref v0]) := by
        intro  H locs ls hl hW hS hf
        unfold f_X12_readRecord_119 at hf
        refine lv_iconst (v := 0) hx hb dX12_readRecord_119 (by decide +kernel) ?_
        exact j120 _ _ _ _ (lv_sub hl [0, 1] rfl) hW hS hf
      refine lv_if_eq (tgt := 119) hx hb dX12_readRecord_92 (by decide) (fun c40 => ?_) (fun c40 => ?_)
      · replace hf := hf.1 c40
        exact j119  _ _ _ (lv_sub hl [1, 0] rfl) hW hS hf
      · replace hf := hf.2 c40
        refine lv_aload_n hx hb dX12_readRecord_95 rfl (lv_at hl 1 rfl) ?_
        refine gm_getJ (C := RX12) (T := TX12) (N := 68) (j := 47) hx hb hts inT_12 hown hK hW k1 (by decide) rfl (by decide) rfl (hts _ kw_1363) rfl dX12_readRecord_96 ?_
        refine lv_lconst (v := 0) hx hb dX12_readRecord_99 (by decide) ?_
        refine W.lcmp hx hb dX12_readRecord_100 ?_
        refine lv_if_lt (tgt := 119) hx hb dX12_readRecord_101 (by decide) (fun c41 => ?_) (fun c41 => ?_)
        · replace hf := hf.1 (lg_lt.mp c41)
          exact j119  _ _ _ (lv_sub hl [1, 0] rfl) hW hS hf
        · replace hf := hf.2 (fun z => c41 (lg_lt.mpr z))
          refine lv_aload_n hx hb dX12_readRecord_104 rfl (lv_at hl 1 rfl) ?_
          refine gm_getJ (C := RX12) (T := TX12) (N := 68) (j := 47) hx hb hts inT_12 hown hK hW k1 (by decide) rfl (by decide) rfl (hts _ kw_1363) rfl dX12_readRecord_105 ?_
          refine lv_ldc2 (v := 1125899906842624) hx hb hown (hts _ kw_1530) dX12_readRecord_108 ?_
          refine W.lcmp hx hb dX12_readRecord_111 ?_
          refine lv_if_gt (tgt := 119) hx hb dX12_readRecord_112 (by decide) (fun c42 => ?_) (fun c42 => ?_)
          · replace hf := hf.1 (lg_gt.mp c42)
            exact j119  _ _ _ (lv_sub hl [1, 0] rfl) hW hS hf
          · replace hf := hf.2 (fun z => c42 (lg_gt.mpr z))
            refine lv_iconst (v := 1) hx hb dX12_readRecord_115 (by decide +kernel) ?_
            refine lv_goto (tgt := 120) hx hb dX12_readRecord_116 (by decide) ?_
            exact j120 _ _ _ _ (lv_sub hl [1, 0] rfl) hW hS hf
    · replace hf := hf.2 c10
      refine lv_iconst (v := 0) hx hb dX12_readRecord_62 (by decide +kernel) ?_
      exact gm_zret hx hb hr hlocks hW hS hf.1 hf.2 dX12_readRecord_63
  have j51 : ∀ (H : Heap) (locs : List Loc) (ls : Array Slot), lv_has ls 6 [(0, .ref v0), (1, .long v1), (3, .long r6)] → Wd D cy A Y M5 H → va_S A s.heap H locs → f_X12_readRecord_51 Y v0 v1 Kn M5 r6  → W p l e rm_X12_readRecord s m args below meth c H locs 0 0 (MQ below (va_Qi Kn (BG D cy A Y) A) args s 0 0 A) (F0 m 51 ls [.ref v0]) := by
    intro  H locs ls hl hW hS hf
    unfold f_X12_readRecord_51 at hf
    refine lv_iconst (v := 0) hx hb dX12_readRecord_51 (by decide +kernel) ?_
    exact j52 _ _ _ _ (lv_sub hl [0, 1, 2] rfl) hW hS hf
  refine lv_if_eq (tgt := 51) hx hb dX12_readRecord_23 (by decide) (fun c43 => ?_) (fun c43 => ?_)
  · replace hf := hf.1 c43
    exact j51  _ _ _ (lv_sub hl [1, 2, 0] rfl) hW hS hf
  · replace hf := hf.2 c43
    refine lv_lload_n hx hb dX12_readRecord_26 rfl (lv_at hl 0 rfl) ?_
    refine lv_lconst (v := 0) hx hb dX12_readRecord_27 (by decide) ?_
    refine W.lcmp hx hb dX12_readRecord_28 ?_
    refine lv_if_lt (tgt := 51) hx hb dX12_readRecord_29 (by decide) (fun c44 => ?_) (fun c44 => ?_)
    · replace hf := hf.1 (lg_lt.mp c44)
      exact j51  _ _ _ (lv_sub hl [1, 2, 0] rfl) hW hS hf
    · replace hf := hf.2 (fun z => c44 (lg_lt.mpr z))
      refine lv_lload_n hx hb dX12_readRecord_32 rfl (lv_at hl 0 rfl) ?_
      refine lv_aload_n hx hb dX12_readRecord_33 rfl (lv_at hl 1 rfl) ?_
      refine gm_getI (C := RX12) (T := TX12) (N := 68) (j := 41) hx hb hts inT_12 hown hK hW k1 (by decide) rfl (by decide) rfl (hts _ kw_1357) rfl dX12_readRecord_34 ?_
      refine lv_aload_n hx hb dX12_readRecord_37 rfl (lv_at hl 1 rfl) ?_
      refine gm_getI (C := RX12) (T := TX12) (N := 68) (j := 42) hx hb hts inT_12 hown hK hW k1 (by decide) rfl (by decide) rfl (hts _ kw_1358) rfl dX12_readRecord_38 ?_
      refine lv_isub hx hb dX12_readRecord_41 ?_
      refine lv_i2l hx hb dX12_readRecord_42 rfl ?_
      refine W.lcmp hx hb dX12_readRecord_43 ?_
      refine lv_if_gt (tgt := 51) hx hb dX12_readRecord_44 (by decide) (fun c45 => ?_) (fun c45 => ?_)
      · replace hf := hf.1 (lg_gt.mp c45)
        exact j51  _ _ _ (lv_sub hl [1, 2, 0] rfl) hW hS hf
      · replace hf := hf.2 (fun z => c45 (lg_gt.mpr z))
        refine lv_iconst (v := 1) hx hb dX12_readRecord_47 (by decide +kernel) ?_
        refine lv_goto (tgt := 52) hx hb dX12_readRecord_48 (by decide) ?_
        exact j52 _ _ _ _ (lv_sub hl [1, 2, 0] rfl) hW hS hf

abbrev rm_X12_reads : Room := { frames := 2, cells := 0, slots := 0, locals := 80 }
def f_X12_reads (Y : Ly) (v0 : Nat) (v1 : Nat) (v2 : Int32) (v3 : Int32) (M : Mm) (Kn : Mm → Prop) : Prop :=
  yK Y v0 = 12 ∧ (∀ M2 : Mm, M2 = sR M v0 (m1 (mR M v0) 40 (some v1)) → (∀ M3 : Mm, M3 = sI M2 v0 (m1 (mI M2 v0) 42 v2) → (∀ M4 : Mm, M4 = sI M3 v0 (m1 (mI M3 v0) 41 v3) → (Kn M4))))
set_option maxHeartbeats 4000000 in
set_option maxRecDepth 100000 in
theorem m_X12_reads (l : Launch) (D : va_G) (cy : Cy) (tq sz : Nat) (Y : Ly) (v0 : Nat) (v1 : Nat) (v2 : Int32) (v3 : Int32) (M : Mm) (Kn : Mm → Prop) : Met l yX12_reads (Cond.code yX12_reads cX12_reads 4 none :: TT) rm_X12_reads (PcG D cy tq [.ref v0, .ref v1, .int v2, .int v3] sz Y M (f_X12_reads Y v0 v1 v2 v3 M Kn)) (va_Qv Kn (BG D cy (Am Y sz) Y) (Am Y sz)) 0 0 (Am Y sz) := by
  refine Met.ofW (cc := cX12_reads) (maxL := 4) (ret := none) (by decide) rfl ?_
  intro p e s m args below meth c s₁ B hml hv
  obtain ⟨hargs, hsz, hW, hK, hC, hf⟩ := hv
  subst hsz
  have hx := B.exec
  have hb := B.bytes
  have hr := B.returns
  have hts : ∀ w ∈ TT, w.before args s = true := fun w h => atoms_spec (ws := Cond.code yX12_reads cX12_reads 4 none :: TT) B.pre w (List.mem_cons_of_mem _ h)
  have hown : s.vm.findClass RX12 = some m.cls := findClass_of_methodNamed B.named
  have hlocks := B.notSynchronized
  replace hW := Wd_self (sz := s.heap.size) hW
  generalize hAe : Am Y s.heap.size = A at hW hC ⊢
  have hA : ∀ q : Nat, s.heap.size ≤ q → A q := fun q h => by rw [← hAe]; exact Or.inr h
  clear hAe
  have hS : va_S A s.heap s.heap [] := va_S.rf
  obtain ⟨ls, hE, hl⟩ := gm_entry m [.ref v0, .ref v1, .int v2, .int v3] (n := 4) hargs (Nat.le_of_ble_eq_true rfl)
  rw [hE]
  have hl : lv_has ls 4 [(0, .ref v0), (1, .ref v1), (2, .int v2), (3, .int v3)] := hl
  show W p l e rm_X12_reads s m args below meth c s.heap [] 0 0 (MQ below (va_Qv Kn (BG D cy A Y) A) args s 0 0 A) (F0 m 0 ls [])
  unfold f_X12_reads at hf
  refine lv_aload_n hx hb dX12_reads_0 rfl (lv_at hl 0 rfl) ?_
  refine lv_aload_n hx hb dX12_reads_1 rfl (lv_at hl 1 rfl) ?_
  obtain ⟨k1, hf⟩ := hf
  refine gm_putR (C := RX12) (T := TX12) (N := 68) (j := 40) hx hb hts inT_12 tyX12 tyX12_ok nmX12 hown hK hW hS k1 (by decide) rfl (by decide) rfl (hts _ kw_1356) rfl rfl rfl rfl dX12_reads_2 (fun H locs M2 eM2 hW hS => ?_)
  replace hf := hf M2 eM2
  refine lv_aload_n hx hb dX12_reads_5 rfl (lv_at hl 0 rfl) ?_
  refine lv_iload_n hx hb dX12_reads_6 rfl (lv_at hl 2 rfl) ?_
  refine gm_putI (C := RX12) (T := TX12) (N := 68) (j := 42) hx hb hts inT_12 tyX12 tyX12_ok nmX12 hown hK hW hS k1 (by decide) rfl (by decide) rfl (hts _ kw_1358) rfl rfl rfl rfl dX12_reads_7 (fun H locs M3 eM3 hW hS => ?_)
  replace hf := hf M3 eM3
  refine lv_aload_n hx hb dX12_reads_10 rfl (lv_at hl 0 rfl) ?_
  refine lv_iload_n hx hb dX12_reads_11 rfl (lv_at hl 3 rfl) ?_
  refine gm_putI (C := RX12) (T := TX12) (N := 68) (j := 41) hx hb hts inT_12 tyX12 tyX12_ok nmX12 hown hK hW hS k1 (by decide) rfl (by decide) rfl (hts _ kw_1357) rfl rfl rfl rfl dX12_reads_12 (fun H locs M4 eM4 hW hS => ?_)
  replace hf := hf M4 eM4
  exact gm_vret hx hb hr hlocks hW hS hf dX12_reads_15

abbrev rm_X12_field : Room := { frames := 2, cells := 0, slots := 0, locals := 80 }
def f_X12_field_21 (Y : Ly) (Kn : Mm → Prop) (M2 : Mm) : Prop :=
  Kn M2
def f_X12_field (Y : Ly) (v0 : Nat) (v1 : Int32) (v2 : Int32) (M : Mm) (Kn : Mm → Prop) : Prop :=
  yK Y v0 = 12 ∧ ((¬ (mI M v0 44) = 0 → (f_X12_field_21 Y Kn M)) ∧ ((mI M v0 44) = 0 → ((¬ v1 = 0 → (f_X12_field_21 Y Kn M)) ∧ (v1 = 0 → (∀ M5 : Mm, M5 = sI M v0 (m1 (mI M v0) 44 2) → (∀ M6 : Mm, M6 = sI M5 v0 (m1 (mI M5 v0) 45 v2) → (f_X12_field_21 Y Kn M6)))))))
set_option maxHeartbeats 4000000 in
set_option maxRecDepth 100000 in
theorem m_X12_field (l : Launch) (D : va_G) (cy : Cy) (tq sz : Nat) (Y : Ly) (v0 : Nat) (v1 : Int32) (v2 : Int32) (M : Mm) (Kn : Mm → Prop) : Met l yX12_field (Cond.code yX12_field cX12_field 3 none :: TT) rm_X12_field (PcG D cy tq [.ref v0, .int v1, .int v2] sz Y M (f_X12_field Y v0 v1 v2 M Kn)) (va_Qv Kn (BG D cy (Am Y sz) Y) (Am Y sz)) 0 0 (Am Y sz) := by
  refine Met.ofW (cc := cX12_field) (maxL := 3) (ret := none) (by decide) rfl ?_
  intro p e s m args below meth c s₁ B hml hv
  obtain ⟨hargs, hsz, hW, hK, hC, hf⟩ := hv
  subst hsz
  have hx := B.exec
  have hb := B.bytes
  have hr := B.returns
  have hts : ∀ w ∈ TT, w.before args s = true := fun w h => atoms_spec (ws := Cond.code yX12_field cX12_field 3 none :: TT) B.pre w (List.mem_cons_of_mem _ h)
  have hown : s.vm.findClass RX12 = some m.cls := findClass_of_methodNamed B.named
  have hlocks := B.notSynchronized
  replace hW := Wd_self (sz := s.heap.size) hW
  generalize hAe : Am Y s.heap.size = A at hW hC ⊢
  have hA : ∀ q : Nat, s.heap.size ≤ q → A q := fun q h => by rw [← hAe]; exact Or.inr h
  clear hAe
  have hS : va_S A s.heap s.heap [] := va_S.rf
  obtain ⟨ls, hE, hl⟩ := gm_entry m [.ref v0, .int v1, .int v2] (n := 3) hargs (Nat.le_of_ble_eq_true rfl)
  rw [hE]
  have hl : lv_has ls 3 [(0, .ref v0), (1, .int v1), (2, .int v2)] := hl
  show W p l e rm_X12_field s m args below meth c s.heap [] 0 0 (MQ below (va_Qv Kn (BG D cy A Y) A) args s 0 0 A) (F0 m 0 ls [])
  unfold f_X12_field at hf
  refine lv_aload_n hx hb dX12_field_0 rfl (lv_at hl 0 rfl) ?_
  obtain ⟨k1, hf⟩ := hf
  refine gm_getI (C := RX12) (T := TX12) (N := 68) (j := 44) hx hb hts inT_12 hown hK hW k1 (by decide) rfl (by decide) rfl (hts _ kw_1360) rfl dX12_field_1 ?_
  have j21 : ∀ (M2 : Mm) (H : Heap) (locs : List Loc) (ls : Array Slot), lv_has ls 3 [] → Wd D cy A Y M2 H → va_S A s.heap H locs → f_X12_field_21 Y Kn M2 → W p l e rm_X12_field s m args below meth c H locs 0 0 (MQ below (va_Qv Kn (BG D cy A Y) A) args s 0 0 A) (F0 m 21 ls []) := by
    intro M2 H locs ls hl hW hS hf
    unfold f_X12_field_21 at hf
    exact gm_vret hx hb hr hlocks hW hS hf dX12_field_21
  refine lv_if_ne (tgt := 21) hx hb dX12_field_4 (by decide) (fun c3 => ?_) (fun c3 => ?_)
  · replace hf := hf.1 c3
    exact j21 _ _ _ _ (lv_sub hl [] rfl) hW hS hf
  · replace hf := hf.2 c3
    refine lv_iload_n hx hb dX12_field_7 rfl (lv_at hl 1 rfl) ?_
    refine lv_if_ne (tgt := 21) hx hb dX12_field_8 (by decide) (fun c4 => ?_) (fun c4 => ?_)
    · replace hf := hf.1 c4
      exact j21 _ _ _ _ (lv_sub hl [] rfl) hW hS hf
    · replace hf := hf.2 c4
      refine lv_aload_n hx hb dX12_field_11 rfl (lv_at hl 0 rfl) ?_
      refine lv_iconst (v := 2) hx hb dX12_field_12 (by decide +kernel) ?_
      refine gm_putI (C := RX12) (T := TX12) (N := 68) (j := 44) hx hb hts inT_12 tyX12 tyX12_ok nmX12 hown hK hW hS k1 (by decide) rfl (by decide) rfl (hts _ kw_1360) rfl rfl rfl rfl dX12_field_13 (fun H locs M5 eM5 hW hS => ?_)
      replace hf := hf M5 eM5
      refine lv_aload_n hx hb dX12_field_16 rfl (lv_at hl 0 rfl) ?_
      refine lv_iload_n hx hb dX12_field_17 rfl (lv_at hl 2 rfl) ?_
      refine gm_putI (C := RX12) (T := TX12) (N := 68) (j := 45) hx hb hts inT_12 tyX12 tyX12_ok nmX12 hown hK hW hS k1 (by decide) rfl (by decide) rfl (hts _ kw_1361) rfl rfl rfl rfl dX12_field_18 (fun H locs M6 eM6 hW hS => ?_)
      replace hf := hf M6 eM6
      exact j21 _ _ _ _ (lv_sub hl [] rfl) hW hS hf
