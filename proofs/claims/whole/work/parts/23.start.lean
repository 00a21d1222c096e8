/-! the start: classes, array classes, the static context, out of the tables and the premises -/
theorem st_J0 : ∀ w ∈ u_ws RJ0 TJ0 4, w ∈ lw_tbl := by decide +kernel
theorem st_J4 : ∀ w ∈ u_ws RJ4 TJ4 4, w ∈ lw_tbl := by decide +kernel
theorem TT_l {w : Cond} (h : w ∈ TT) : w ∈ lw_tbl := (List.mem_filter.mp h).1
set_option maxHeartbeats 4000000 in
theorem st_K {s : State} {args : Array Value} (hts : ∀ w ∈ lw_tbl, w.before args s = true) : ∃ D : va_G, ∀ (k : Nat) (q : vw_C), vwCl[k]? = some q → u_Kn s q.1 q.2.1 q.2.2 (D.1 k) (D.2 k) := by
  have h : ∀ k : Nat, ∃ z : ClassId × (Nat → Nat), ∀ q : vw_C, vwCl[k]? = some q → u_Kn s q.1 q.2.1 q.2.2 z.1 z.2 := by
    intro k
    match k with
    | 0 =>
      obtain ⟨cC, iS, hh⟩ := u_known (C := RJ0) (T := TJ0) (N := 4) (n := 4) hts st_J0 (hts _ (TT_l kw_699))
      exact ⟨(cC, iS), fun q hq => by cases hq; exact hh⟩
    | 1 =>
      obtain ⟨cC, iS, hh⟩ := u_known (C := RJ4) (T := TJ4) (N := 4) (n := 4) hts st_J4 (hts _ (TT_l kw_546))
      exact ⟨(cC, iS), fun q hq => by cases hq; exact hh⟩
    | 2 =>
      obtain ⟨cC, iS, hh⟩ := u_known (C := RX2) (T := TX2) (N := 13) (n := 13) hts (fun w h => TT_l (inT_2 w h)) (hts _ (TT_l kw_233))
      exact ⟨(cC, iS), fun q hq => by cases hq; exact hh⟩
    | 3 =>
      obtain ⟨cC, iS, hh⟩ := u_known (C := RX3) (T := TX3) (N := 4) (n := 4) hts (fun w h => TT_l (inT_3 w h)) (hts _ (TT_l kw_137))
      exact ⟨(cC, iS), fun q hq => by cases hq; exact hh⟩
    | 4 =>
      obtain ⟨cC, iS, hh⟩ := u_known (C := RX4) (T := TX4) (N := 4) (n := 4) hts (fun w h => TT_l (inT_4 w h)) (hts _ (TT_l kw_39))
      exact ⟨(cC, iS), fun q hq => by cases hq; exact hh⟩
    | 5 =>
      obtain ⟨cC, iS, hh⟩ := u_known (C := RX5) (T := TX5) (N := 3) (n := 3) hts (fun w h => TT_l (inT_5 w h)) (hts _ (TT_l kw_57))
      exact ⟨(cC, iS), fun q hq => by cases hq; exact hh⟩
    | 6 =>
      obtain ⟨cC, iS, hh⟩ := u_known (C := RX6) (T := TX6) (N := 6) (n := 6) hts (fun w h => TT_l (inT_6 w h)) (hts _ (TT_l kw_109))
      exact ⟨(cC, iS), fun q hq => by cases hq; exact hh⟩
    | 7 =>
      obtain ⟨cC, iS, hh⟩ := u_known (C := RX7) (T := TX7) (N := 9) (n := 9) hts (fun w h => TT_l (inT_7 w h)) (hts _ (TT_l kw_266))
      exact ⟨(cC, iS), fun q hq => by cases hq; exact hh⟩
    | 8 =>
      obtain ⟨cC, iS, hh⟩ := u_known (C := RX8) (T := TX8) (N := 9) (n := 9) hts (fun w h => TT_l (inT_8 w h)) (hts _ (TT_l kw_165))
      exact ⟨(cC, iS), fun q hq => by cases hq; exact hh⟩
    | 9 =>
      obtain ⟨cC, iS, hh⟩ := u_known (C := RX9) (T := TX9) (N := 7) (n := 7) hts (fun w h => TT_l (inT_9 w h)) (hts _ (TT_l kw_158))
      exact ⟨(cC, iS), fun q hq => by cases hq; exact hh⟩
    | 10 =>
      obtain ⟨cC, iS, hh⟩ := u_known (C := RX10) (T := TX10) (N := 8) (n := 8) hts (fun w h => TT_l (inT_10 w h)) (hts _ (TT_l kw_62))
      exact ⟨(cC, iS), fun q hq => by cases hq; exact hh⟩
    | 11 =>
      obtain ⟨cC, iS, hh⟩ := u_known (C := RX11) (T := TX11) (N := 13) (n := 13) hts (fun w h => TT_l (inT_11 w h)) (hts _ (TT_l kw_31))
      exact ⟨(cC, iS), fun q hq => by cases hq; exact hh⟩
    | 12 =>
      obtain ⟨cC, iS, hh⟩ := u_known (C := RX12) (T := TX12) (N := 68) (n := 68) hts (fun w h => TT_l (inT_12 w h)) (hts _ (TT_l kw_1308))
      exact ⟨(cC, iS), fun q hq => by cases hq; exact hh⟩
    | k + 13 => exact ⟨(0, fun _ => 0), fun q hq => by simp [vwCl] at hq⟩
  have h2 : ∀ k : Nat, ∃ z : ClassId × (Nat → Nat), ∀ q : vw_C, vwCl[k]? = some q → u_Kn s q.1 q.2.1 q.2.2 z.1 z.2 := h
  exact ⟨(fun k => (Classical.choose (h2 k)).1, fun k => (Classical.choose (h2 k)).2), fun k q hq => Classical.choose_spec (h2 k) q hq⟩
theorem st_arr {s : State} {args : Array Value} {ty : FieldType} (h : (Cond.arrayClass ty).before args s = true) : ∃ cA : ClassId, ArrOfT s cA ty ∧ s.vm.findClass ("[" ++ ty.toString) = some cA := by
  obtain ⟨cA, kA, comp, h1, h2, h3⟩ := Cond.arrayClass_spec h
  exact ⟨cA, fun n z => ⟨fun k h => (by cases h), kA, h2, comp, h3⟩, h1⟩
theorem st_arrO {s : State} {args : Array Value} {n : String} (h : (Cond.arrayOver (.object n)).before args s = true) : ∃ cA : ClassId, ArrOfT s cA (.object n) ∧ va_RA s cA (.object n) := by
  obtain ⟨comp, cA, kA, h0, -, h2, h3, h4⟩ := Cond.arrayOver_spec h
  exact ⟨cA, fun n z => ⟨fun k h => (by cases h), kA, h2, comp, h3⟩, kA, comp, h2, h3, h0, h4⟩
theorem st_cy {s : State} {args : Array Value} (hts : ∀ w ∈ lw_tbl, w.before args s = true) (hov : (Cond.arrayOver (.object RX8)).before args s = true) : ∃ cy : Cy, ∀ (k : Nat) (q : ClassId × FieldType), (tysC cy)[k]? = some q → ArrOfT s q.1 q.2 ∧ va_RA s q.1 q.2 := by
  obtain ⟨cB, b1, b2⟩ := st_arr (hts _ (TT_l kw_55))
  obtain ⟨cI, i1, i2⟩ := st_arr (hts _ (TT_l kw_129))
  obtain ⟨cJ, j1, j2⟩ := st_arr (hts _ (TT_l kw_1452))
  obtain ⟨cZ, z1, z2⟩ := st_arr (hts _ (TT_l kw_1453))
  obtain ⟨cO, o1, o2⟩ := st_arrO hov
  refine ⟨(cB, cI, cJ, cZ, cO), fun k q hq => ?_⟩
  match k, hq with
  | 0, hq => cases hq; exact ⟨b1, b2⟩
  | 1, hq => cases hq; exact ⟨i1, i2⟩
  | 2, hq => cases hq; exact ⟨j1, j2⟩
  | 3, hq => cases hq; exact ⟨z1, z2⟩
  | 4, hq => cases hq; exact ⟨o1, o2⟩
  | k + 5, hq => simp [tysC] at hq
theorem tb_1 {w : Cond} (i : Nat) (h0 : tables_1_1[i]? = some w) : w ∈ lw_tbl := List.mem_append_right _ (by have h := List.mem_of_getElem? h0; exact (List.mem_append_left _ h))
theorem tb_2 {w : Cond} (i : Nat) (h0 : tables_1_2[i]? = some w) : w ∈ lw_tbl := List.mem_append_right _ (by have h := List.mem_of_getElem? h0; exact (List.mem_append_right _ (List.mem_append_left _ h)))
theorem tb_3 {w : Cond} (i : Nat) (h0 : tables_1_3[i]? = some w) : w ∈ lw_tbl := List.mem_append_right _ (by have h := List.mem_of_getElem? h0; exact (List.mem_append_right _ (List.mem_append_right _ (List.mem_append_left _ h))))
theorem tb_4 {w : Cond} (i : Nat) (h0 : tables_1_4[i]? = some w) : w ∈ lw_tbl := List.mem_append_right _ (by have h := List.mem_of_getElem? h0; exact (List.mem_append_right _ (List.mem_append_right _ (List.mem_append_right _ (List.mem_append_left _ h)))))
theorem tb_5 {w : Cond} (i : Nat) (h0 : tables_1_5[i]? = some w) : w ∈ lw_tbl := List.mem_append_right _ (by have h := List.mem_of_getElem? h0; exact (List.mem_append_right _ (List.mem_append_right _ (List.mem_append_right _ (List.mem_append_right _ (List.mem_append_left _ h))))))
theorem tb_6 {w : Cond} (i : Nat) (h0 : tables_1_6[i]? = some w) : w ∈ lw_tbl := List.mem_append_right _ (by have h := List.mem_of_getElem? h0; exact (List.mem_append_right _ (List.mem_append_right _ (List.mem_append_right _ (List.mem_append_right _ (List.mem_append_right _ (List.mem_append_left _ h)))))))
theorem tb_7 {w : Cond} (i : Nat) (h0 : tables_1_7[i]? = some w) : w ∈ lw_tbl := List.mem_append_right _ (by have h := List.mem_of_getElem? h0; exact (List.mem_append_right _ (List.mem_append_right _ (List.mem_append_right _ (List.mem_append_right _ (List.mem_append_right _ (List.mem_append_right _ (List.mem_append_left _ h))))))))
theorem tb_8 {w : Cond} (i : Nat) (h0 : tables_1_8[i]? = some w) : w ∈ lw_tbl := List.mem_append_right _ (by have h := List.mem_of_getElem? h0; exact (List.mem_append_right _ (List.mem_append_right _ (List.mem_append_right _ (List.mem_append_right _ (List.mem_append_right _ (List.mem_append_right _ (List.mem_append_right _ (List.mem_append_left _ h)))))))))
theorem tb_9 {w : Cond} (i : Nat) (h0 : tables_1_9[i]? = some w) : w ∈ lw_tbl := List.mem_append_right _ (by have h := List.mem_of_getElem? h0; exact (List.mem_append_right _ (List.mem_append_right _ (List.mem_append_right _ (List.mem_append_right _ (List.mem_append_right _ (List.mem_append_right _ (List.mem_append_right _ (List.mem_append_right _ h)))))))))
abbrev t4 : Term := .static "BatchBroker$Bytes" "FOUR_STEPS" "[I"
theorem fl_0 : Cond.eq (.elem t4 (.int 0)) (.int (0)) ∈ flatC (Jvm.Cond.and given_1 narrow_1) := by decide +kernel
theorem fl_1 : Cond.eq (.elem t4 (.int 1)) (.int (274646895)) ∈ flatC (Jvm.Cond.and given_1 narrow_1) := by decide +kernel
theorem fl_2 : Cond.eq (.elem t4 (.int 2)) (.int (549293790)) ∈ flatC (Jvm.Cond.and given_1 narrow_1) := by decide +kernel
theorem fl_3 : Cond.eq (.elem t4 (.int 3)) (.int (820201905)) ∈ flatC (Jvm.Cond.and given_1 narrow_1) := by decide +kernel
theorem fl_4 : Cond.eq (.elem t4 (.int 4)) (.int (1098587580)) ∈ flatC (Jvm.Cond.and given_1 narrow_1) := by decide +kernel
theorem fl_5 : Cond.eq (.elem t4 (.int 5)) (.int (1361435347)) ∈ flatC (Jvm.Cond.and given_1 narrow_1) := by decide +kernel
theorem fl_6 : Cond.eq (.elem t4 (.int 6)) (.int (1640403810)) ∈ flatC (Jvm.Cond.and given_1 narrow_1) := by decide +kernel
theorem fl_7 : Cond.eq (.elem t4 (.int 7)) (.int (1905808397)) ∈ flatC (Jvm.Cond.and given_1 narrow_1) := by decide +kernel
theorem fl_8 : Cond.eq (.elem t4 (.int 8)) (.int (-2097792136)) ∈ flatC (Jvm.Cond.and given_1 narrow_1) := by decide +kernel
theorem fl_9 : Cond.eq (.elem t4 (.int 9)) (.int (-1834419177)) ∈ flatC (Jvm.Cond.and given_1 narrow_1) := by decide +kernel
theorem fl_10 : Cond.eq (.elem t4 (.int 10)) (.int (-1572096602)) ∈ flatC (Jvm.Cond.and given_1 narrow_1) := by decide +kernel
theorem fl_11 : Cond.eq (.elem t4 (.int 11)) (.int (-1307217207)) ∈ flatC (Jvm.Cond.and given_1 narrow_1) := by decide +kernel
theorem fl_12 : Cond.eq (.elem t4 (.int 12)) (.int (-1014159676)) ∈ flatC (Jvm.Cond.and given_1 narrow_1) := by decide +kernel
theorem fl_13 : Cond.eq (.elem t4 (.int 13)) (.int (-741088853)) ∈ flatC (Jvm.Cond.and given_1 narrow_1) := by decide +kernel
theorem fl_14 : Cond.eq (.elem t4 (.int 14)) (.int (-483350502)) ∈ flatC (Jvm.Cond.and given_1 narrow_1) := by decide +kernel
theorem fl_15 : Cond.eq (.elem t4 (.int 15)) (.int (-210866315)) ∈ flatC (Jvm.Cond.and given_1 narrow_1) := by decide +kernel
theorem fl_len : Cond.eq (.length t4) (.int 16) ∈ flatC (Jvm.Cond.and given_1 narrow_1) := by decide +kernel
theorem fl_arr : Cond.arrayOf t4 .int ∈ flatC (Jvm.Cond.and given_1 narrow_1) := by decide +kernel
theorem fl_u : Cond.isRef (.static Bundle.tN "UNASSIGNED_STACK" Bundle.steD) ∈ flatC (Jvm.Cond.and given_1 narrow_1) := by decide +kernel
theorem fl_n : Cond.isRef (.static Bundle.tN "SUPPRESSED_SENTINEL" Bundle.listD) ∈ flatC (Jvm.Cond.and given_1 narrow_1) := by decide +kernel
theorem fl_c : Cond.not (.castable iSE iAE) ∈ flatC (Jvm.Cond.and given_1 narrow_1) := by decide +kernel
theorem fl_s1 : Cond.exactly (.string RX11 387) "java/lang/String" ∈ flatC (Jvm.Cond.and given_1 narrow_1) := by decide +kernel
theorem fl_s2 : Cond.exactly (.string RX11 380) "java/lang/String" ∈ flatC (Jvm.Cond.and given_1 narrow_1) := by decide +kernel
theorem st_str {s : State} {args : Array Value} {own tx : String} {k : Nat} (h1 : (Cond.stringRef own k tx).before args s = true) (h2 : (Cond.exactly (.string own k) "java/lang/String").before args s = true) : ∃ sa, vk_R own k tx sa s := by
  obtain ⟨a, _, _, _, h3, -⟩ := Cond.exactly_spec h2
  exact ⟨a, vk_R.of h1 h3⟩
theorem st_CX {s : State} {args : Array Value} (hts : ∀ w ∈ lw_tbl, w.before args s = true) (hgv : (Jvm.Cond.and given_1 narrow_1).before args s = true) : ∃ tq, CX tq (fun q => s.heap.size ≤ q) s s.heap := by
  have hs := flat_of_before _ hgv
  have hA : ∀ a : Nat, a < s.heap.size → ¬ (fun q : Nat => s.heap.size ≤ q) a := fun a h => Nat.not_le.mpr h
  obtain ⟨tq, he, hT⟩ := va_Tof (tm := t4) (ty := .int) (N := 16) (f := cx4) (A := fun q => s.heap.size ≤ q) (by decide) (hs _ fl_arr) (va_eqt (hs _ fl_len)) (fun j hj => by
    match j, hj with
    | 0, _ => exact va_eqt (hs _ fl_0)
    | 1, _ => exact va_eqt (hs _ fl_1)
    | 2, _ => exact va_eqt (hs _ fl_2)
    | 3, _ => exact va_eqt (hs _ fl_3)
    | 4, _ => exact va_eqt (hs _ fl_4)
    | 5, _ => exact va_eqt (hs _ fl_5)
    | 6, _ => exact va_eqt (hs _ fl_6)
    | 7, _ => exact va_eqt (hs _ fl_7)
    | 8, _ => exact va_eqt (hs _ fl_8)
    | 9, _ => exact va_eqt (hs _ fl_9)
    | 10, _ => exact va_eqt (hs _ fl_10)
    | 11, _ => exact va_eqt (hs _ fl_11)
    | 12, _ => exact va_eqt (hs _ fl_12)
    | 13, _ => exact va_eqt (hs _ fl_13)
    | 14, _ => exact va_eqt (hs _ fl_14)
    | 15, _ => exact va_eqt (hs _ fl_15)
    | j + 16, hj => exact absurd hj (by omega)) hA
  exact ⟨tq, va_Zref (hts _ (tb_4 193 rfl)) (hts _ (TT_l kw_17)) he hA,
    hT,
    va_Nw.of rfl (hts _ (tb_4 234 rfl)),
    va_Nw.of rfl (hts _ (tb_5 181 rfl)),
    va_Nw.of rfl (hts _ (tb_1 40 rfl)),
    va_Nw.of rfl (hts _ (tb_1 64 rfl)),
    va_Nw.of rfl (hts _ (tb_1 70 rfl)),
    va_Nw.of rfl (hts _ (tb_1 131 rfl)),
    va_Nw.of rfl (hts _ (tb_1 137 rfl)),
    va_Nw.of rfl (hts _ (tb_1 199 rfl)),
    va_Nw.of rfl (hts _ (tb_2 54 rfl)),
    vx_Zqof (hts _ (tb_3 49 rfl)) (hts _ (TT_l kw_13)) (hs _ fl_u) hA,
    vx_Zqof (hts _ (tb_3 51 rfl)) (hts _ (TT_l kw_13)) (hs _ fl_n) hA,
    st_str (hts _ (tb_3 62 rfl)) (hs _ fl_s1),
    st_str (hts _ (tb_3 114 rfl)) (hs _ fl_s2),
    va_Nw.of rfl (hts _ (tb_3 24 rfl)),
    va_Nw.of rfl (hts _ (tb_3 107 rfl)),
    va_Nw.of rfl (hts _ (tb_3 26 rfl)),
    va_Nw.of rfl (hts _ (tb_3 28 rfl)),
    va_Nw.of rfl (hts _ (tb_3 30 rfl)),
    va_Nc.of (hs _ fl_c),
    va_AO.of (hts _ (tb_1 201 rfl))⟩
/-- THE LAW, from its entry, where the pure side holds -/
theorem whole_open {p : Program} {e : Env} {s : State} {m : MethodId} {below : List Frame} {meth : Method} {c : Code} (l : Launch) (hlt : l.stackTraces = false) {b L : Nat} {xs : Nat → Int32} (hP : ∀ (b L : Nat) (xs : Nat → Int32) (M : Mm), L ≤ 4611 → f_L_law b L xs yE M) (hL : L ≤ 4611) (C0 : lw_At p s m meth c b L xs) : W p l e room_1 s m #[Value.ref b] below meth c s.heap [] 0 0 (lw_Z below #[Value.ref b] s) (entryFrame m ([Value.ref b] : List Value).toArray 8) := by
  obtain ⟨hx, hb, hr, hml, hown, hts, hX, hbl, hlocks, hgv⟩ := id C0
  obtain ⟨D, hD⟩ := st_K hts
  obtain ⟨cy, hcy⟩ := st_cy hts (hts _ (tb_1 201 rfl))
  obtain ⟨tq, hC⟩ := st_CX hts hgv
  exact whole_law l hlt hL C0 D cy tq ⟨hD, hcy⟩ hC (fun _ _ => 0, fun _ _ => 0, fun _ _ => none) (fun Y hY => by subst hY; exact hP b L xs _ hL)
set_option maxHeartbeats 4000000 in
theorem lw_walk (l : Launch) (hlt : l.stackTraces = false) (hPu : ∀ (b L : Nat) (xs : Nat → Int32) (M : Mm), L ≤ 4611 → f_L_law b L xs yE M) (b : Addr) (xs : List Int32) : MetFree l x (headSpec (Jvm.Cond.code x code maxLocals ret :: tables_1) room_1) (lw_P b xs) (fun _ _ _ _ _ => True) lw_Q := by
  refine MetFree.of_bodyS (code := code) (maxLocals := maxLocals) (ret := ret) (by decide) ?_ ?_
  · intro args s m h hn
    obtain ⟨meth, c, h1, h2, h3, h4, h5, h6, -, -⟩ := Cond.code_spec hn (atoms_spec (ws := Jvm.Cond.code x code maxLocals ret :: tables_1) h _ List.mem_cons_self)
    exact ⟨meth, c, h1, h2, h3, h4, h5, h6⟩
  · intro p e s m args below meth c s₁ B hml0 hP _
    obtain ⟨rfl, hx, hbd, hgv⟩ := hP
    obtain ⟨scr, harrAt, hlist, hof, hsmall⟩ := hx
    obtain ⟨hcb, hkn, -, -⟩ := State.arrayAt?_spec harrAt
    have hown : s.vm.findClass R_law = some m.cls := findClass_of_methodNamed B.named
    have hts0 : ∀ c ∈ (Jvm.Cond.code x code maxLocals ret :: tables_1), c.before #[Value.ref b] s = true := atoms_spec (ws := Jvm.Cond.code x code maxLocals ret :: tables_1) B.pre
    have hts : ∀ w ∈ lw_tbl, w.before #[Value.ref b] s = true := k2_hts_sels lw_privs (fun w hw => hts0 w (List.mem_cons_of_mem _ hw)) lw_privs_ok
    have hml : c.maxLocals = 8 := B.maxLocals_eq (hts0 _ List.mem_cons_self)
    have X₀ : Stand p l e room_1 s m #[Value.ref b] below meth c s₁ [] 0 0 := Stand.of_body B
    have hh0 : s₁.heap = s.heap := by rw [B.state]; rfl
    have hsz : scr.slots.size = xs.length := by rw [← Array.length_toList, hlist, List.length_map]
    have hval : ∀ j : Nat, j < xs.length → scr.slots[j]? = some (.int (xs.getD j 0)) := fun j hj => by
      rw [← Array.getElem?_toList, hlist]
      simp [hj]
    have hbl : b < s.heap.size := (Array.getElem?_eq_some_iff.mp hcb).1
    have hX : va_X b xs.length (fun j => xs.getD j 0) s s.heap := ⟨scr, hcb, hof, hkn, hsz, hval⟩
    have K : W p l e room_1 s m #[Value.ref b] below meth c s₁.heap [] 0 0 (lw_Z below #[Value.ref b] s) (entryFrame m ([Value.ref b] : List Value).toArray 8) := by
      rw [hh0]
      exact whole_open l hlt hPu hbd ⟨B.exec, B.bytes, B.returns, hml, hown, hts, hX, hbl, B.notSynchronized, hgv⟩
    obtain ⟨t, a1, o, b1, b2, b3⟩ := K s₁ rfl X₀
    exact ⟨t, o, a1, b1, b2, b3⟩
theorem lw_pre_spec {args : Array Value} {s : State} (h : (Jvm.Cond.and given_1 narrow_1).before args s = true) (hr : rest_1_c.before args s = true) : ∃ (b : Addr) (xs : List Int32), lw_P b xs args s := by
  have hs := flat_of_before _ h
  have hq := flat_of_before _ hr
  have hc : (Cond.count 1).before args s = true := hs _ (by decide +kernel)
  have harr : (Cond.arrayOf (.arg 0) .int).before args s = true := hs _ (by decide +kernel)
  have hle : (Cond.le (.length (.arg 0)) (.int 4611)).before args s = true := hs _ (by decide +kernel)
  have hlen : (Cond.isInt (.length (.arg 0))).before args s = true := hq _ (by decide +kernel)
  have hall : (Cond.all (.arg 0) (.isInt (.elem (.arg 0) (.index 0)))).before args s = true := hq _ (by decide +kernel)
  obtain ⟨b, xs, hb, hx⟩ := State.ints_of_pre rfl harr hlen hall
  have hsm : xs.length < 2 ^ 31 := hx.choose_spec.2.2.2
  have hev : (Term.length (.arg 0)).eval args s none [] s = some (.int xs.length.toInt32) := hx.length_eval hb
  have hv := Cond.le_ints hev (show (Term.int 4611).eval args s none [] s = some (.int 4611) from rfl)
  have hd : xs.length.toInt32 ≤ 4611 := by
    simpa [Cond.before, Cond.holds, hv] using hle
  have hN : xs.length ≤ 4611 := (Int32.ofNat_le_ofNat hsm (by decide)).mp (show Int32.ofNat xs.length ≤ Int32.ofNat 4611 from hd)
  exact ⟨b, xs, Cond.one_arg hc (show args[0]? = some (.ref b) from hb), hx, hN, h⟩
theorem lw_comes (l : Launch) (hlt : l.stackTraces = false) (hPu : ∀ (b L : Nat) (xs : Nat → Int32) (M : Mm), L ≤ 4611 → f_L_law b L xs yE M) : Comes l x (Jvm.Cond.code x code maxLocals ret :: tables_1) room_1 (fun tb e args s => Calls_1 tb e args s ∧ rest_1 tb e args s ∧ Pre_1 tb e args s)
    (fun _ _ args s o t => lw_Q args s o t) := by
  intro p e ha hc hk s m args below hf hfit hheap happ hpre
  obtain ⟨b, xs, hP⟩ := lw_pre_spec hpre.2.2 hpre.2.1
  obtain ⟨k, o, h1, h2, h3, hQ⟩ := lw_walk l hlt hPu b xs p e ha hc hk s m args below hf ((Spec.applies_iff_loose hf).mp happ).1 hP trivial
  exact ⟨k, o, h1, h2, h3, hQ⟩
theorem lw_frame {s t : State} {o : Outcome} {args : Array Value} (h : Framed s o t [] 61024 8913000) :
    Framed s o t (fieldLocs frame_1_writes args s ++ arrayLocs frame_1_arrays args s ++ staticLocs frame_1_statics s) 61024 8913000 := h
theorem lw_limb (hPu : ∀ (b L : Nat) (xs : Nat → Int32) (M : Mm), L ≤ 4611 → f_L_law b L xs yE M) (L : Cond) (hL : ∀ (args : Array Value) (s t : State), L.after args s (.returned (some (.int 1))) t = true) :
    ArmFor flags0 classFile x code maxLocals ret World_1 tables_1 room_1 Calls_1 rest_1 Pre_1
      (fun tb e a s o t => postC L tb e a s o t ∧ Framed s o t (fieldLocs frame_1_writes a s ++ arrayLocs frame_1_arrays a s ++ staticLocs frame_1_statics s) 61024 8913000) := by
  intro l hfl _ _ p e ha hc hk s m args below hf hfit hheap happ hpre
  obtain ⟨k, o, h1, h2, h3, rfl, hF⟩ := lw_comes l (by simp only [Launch.stackTraces, hfl]; decide +kernel) hPu p e ha hc hk s m args below hf hfit hheap happ hpre
  exact ⟨k, _, h1, h2, h3, hL args s _, lw_frame hF⟩
theorem i_vc_open (hPu : ∀ (b L : Nat) (xs : Nat → Int32) (M : Mm), L ≤ 4611 → f_L_law b L xs yE M) : Claimed_1_1 ∧ Claimed_1_2 := ⟨lw_limb hPu limb_1_1 (fun args s t => by simp [limb_1_1, Cond.after, Cond.holds, Cond.value]), lw_limb hPu limb_1_2 (fun args s t => Cond.after_iff.mpr (by
  first | (rw [show limb_1_2 = Cond.eq .result (.int 1) from rfl, Cond.eq_ints (x := 1) (y := 1) rfl rfl]; simp; done) | (simp [limb_1_2, Cond.value, Term.eval]; done)))⟩
