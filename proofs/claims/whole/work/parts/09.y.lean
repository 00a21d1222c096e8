/-! new cells -/
def yNew (Y : Ly) (q k n : Nat) : Ly := (m1 Y.1 q k, m1 Y.2 q n)
def mZ (M : Mm) (q : Nat) : Mm := sR (sJ (sI M q (fun _ => 0)) q (fun _ => 0)) q (fun _ => none)
theorem yK_new_self (Y : Ly) (q k n : Nat) : yK (yNew Y q k n) q = k := m1_self _ _ _
theorem yN_new_self (Y : Ly) (q k n : Nat) : yN (yNew Y q k n) q = n := m1_self _ _ _
theorem yK_new_ne (Y : Ly) {q b : Nat} (k n : Nat) (h : b ≠ q) : yK (yNew Y q k n) b = yK Y b := m1_ne _ _ h
theorem yN_new_ne (Y : Ly) {q b : Nat} (k n : Nat) (h : b ≠ q) : yN (yNew Y q k n) b = yN Y b := m1_ne _ _ h
theorem mI_mZ_self (M : Mm) (q : Nat) : mI (mZ M q) q = fun _ => 0 := by
  show mI (sI M q (fun _ => 0)) q = _
  exact mI_sI_self _ _ _
theorem mJ_mZ_self (M : Mm) (q : Nat) : mJ (mZ M q) q = fun _ => 0 := by
  show mJ (sJ (sI M q (fun _ => 0)) q (fun _ => 0)) q = _
  exact mJ_sJ_self _ _ _
theorem mR_mZ_self (M : Mm) (q : Nat) : mR (mZ M q) q = fun _ => none := mR_sR_self _ _ _
theorem mI_mZ_ne (M : Mm) {q b : Nat} (h : b ≠ q) : mI (mZ M q) b = mI M b := by
  show mI (sI M q (fun _ => 0)) b = _
  exact mI_sI_ne _ _ h
theorem mJ_mZ_ne (M : Mm) {q b : Nat} (h : b ≠ q) : mJ (mZ M q) b = mJ M b := by
  show mJ (sJ (sI M q (fun _ => 0)) q (fun _ => 0)) b = _
  exact mJ_sJ_ne _ _ h
theorem mR_mZ_ne (M : Mm) {q b : Nat} (h : b ≠ q) : mR (mZ M q) b = mR M b := mR_sR_ne _ _ h
theorem FF_new {cy : Cy} {Y : Ly} {M : Mm} {q b : Nat} (k n : Nat) (h : b ≠ q) : FF cy (yNew Y q k n) (mZ M q) b = FF cy Y M b := by
  have h6 : ∀ k, objF (mZ M q) k b = objF M k b := fun k => objF_of (fun j t _ => by simp only [vv, mI_mZ_ne M h, mJ_mZ_ne M h, mR_mZ_ne M h])
  simp only [FF, yK_new_ne Y k n h, yN_new_ne Y k n h, mI_mZ_ne M h, mJ_mZ_ne M h, mR_mZ_ne M h, h6]
theorem Wd_push {D : va_G} {cy : Cy} {A : Nat → Prop} {Y : Ly} {M : Mm} {L : List Nat} {H1 : Heap} {q : Nat} {e : va_E} (hb8 : ∀ a j, yK Y a = 100 → fits .byte (.int (mI M a j)) = true) (hL : ∀ b, b ∈ L ↔ yK Y b ≠ 0) (k n : Nat) (hk : k ≠ 0) (he : FF cy (yNew Y q k n) (mZ M q) q = e)
    (hP : va_P D vwCl (va_pl L (FF cy Y M) ++ [(q, e)]) H1) (hD : va_D A (va_pl L (FF cy Y M) ++ [(q, e)])) : yK Y q = 0 ∧ Wd D cy A (yNew Y q k n) (mZ M q) H1 := by
  have hq : q ∉ L := by
    intro h
    obtain ⟨i, hi⟩ := va_pl_get (X := []) (f := FF cy Y M) h
    simp only [List.nil_append] at hi
    have hl := (List.getElem?_eq_some_iff.mp hi).1
    have h1 : (va_pl L (FF cy Y M) ++ [(q, e)])[i]? = some (q, FF cy Y M q) := by rw [List.getElem?_append_left hl]; exact hi
    have h2 : (va_pl L (FF cy Y M) ++ [(q, e)])[(va_pl L (FF cy Y M)).length]? = some (q, e) := by simp
    have h3 := hD.1 _ _ _ _ h1 h2 rfl
    omega
  have h0 : yK Y q = 0 := by
    by_cases h : yK Y q = 0
    · exact h
    · exact absurd ((hL q).2 h) hq
  refine ⟨h0, ?_, L ++ [q], ?_, ?_⟩
  · intro a j ha
    by_cases haq : a = q
    · subst haq; rw [mI_mZ_self]; rfl
    · rw [mI_mZ_ne M haq]; exact hb8 a j (by rw [← yK_new_ne Y k n haq]; exact ha)
  · intro b
    by_cases hbq : b = q
    · subst hbq; rw [yK_new_self]; simp [hk]
    · rw [yK_new_ne Y k n hbq]; simp [hbq, hL b]
  · have h1 := va_pl_push (L := L) (f := FF cy Y M) (a := q) (e := e) hq
    have h2 : va_pl (L ++ [q]) (va_up (FF cy Y M) q e) = va_pl (L ++ [q]) (FF cy (yNew Y q k n) (mZ M q)) := va_pl_congr (fun b => by
      by_cases hb : b = q
      · subst hb; rw [va_up_self]; exact he.symm
      · rw [va_up_ne _ _ hb]; exact (FF_new k n hb).symm)
    rw [h1, h2] at hP hD
    exact ⟨hP, hD⟩
section GMA
variable {p : Program} {l : Launch} {e : Env} {R : Room} {s : State} {m : MethodId} {args : Array Value} {below : List Frame} {meth : Method} {c : Code} {H : Heap} {locs : List Loc} {cells slots mc ms : Nat} {Q : State → Prop}
variable {pc : Nat} {ls : Array Slot} {rest st0 : List Value} {cc : ByteArray} {D : va_G} {cy : Cy} {A : Nat → Prop} {Y : Ly} {M : Mm} {tq : Nat}
theorem RA_byte {cA : ClassId} (hK : va_K D vwCl (tysC cy ++ [(cA, .byte)]) s) : cA = cy.1 := by
  have h1 := (hK.2 5 (cA, .byte) rfl).2
  have h2 := (hK.2 0 (cy.1, .byte) rfl).2
  exact Option.some.inj (h1.symm.trans h2)
theorem RA_int {cA : ClassId} (hK : va_K D vwCl (tysC cy ++ [(cA, .int)]) s) : cA = cy.2.1 := by
  have h1 := (hK.2 5 (cA, .int) rfl).2
  have h2 := (hK.2 1 (cy.2.1, .int) rfl).2
  exact Option.some.inj (h1.symm.trans h2)
theorem RA_long {cA : ClassId} (hK : va_K D vwCl (tysC cy ++ [(cA, .long)]) s) : cA = cy.2.2.1 := by
  have h1 := (hK.2 5 (cA, .long) rfl).2
  have h2 := (hK.2 2 (cy.2.2.1, .long) rfl).2
  exact Option.some.inj (h1.symm.trans h2)
theorem RA_bool {cA : ClassId} (hK : va_K D vwCl (tysC cy ++ [(cA, .boolean)]) s) : cA = cy.2.2.2.1 := by
  have h1 := (hK.2 5 (cA, .boolean) rfl).2
  have h2 := (hK.2 3 (cy.2.2.2.1, .boolean) rfl).2
  exact Option.some.inj (h1.symm.trans h2)
theorem RA_ref {cA : ClassId} (hK : va_K D vwCl (tysC cy ++ [(cA, .object RX8)]) s) : cA = cy.2.2.2.2 := by
  obtain ⟨_, _, -, -, -, h1⟩ := (hK.2 5 (cA, .object RX8) rfl).2
  obtain ⟨_, _, -, -, -, h2⟩ := (hK.2 4 (cy.2.2.2.2, .object RX8) rfl).2
  exact Option.some.inj (h1.symm.trans h2)
theorem gm_newb (hx : p.tables.exec = Jvm.exec) (hb : c.code = cc) (harr : (Cond.arrayClass .byte).before args s = true) (hK : va_K D vwCl (tysC cy) s) (hW : Wd D cy A Y M H) (hS : va_S A s.heap H locs) (hA : ∀ q, s.heap.size ≤ q → A q) {n : Int32} (N : Nat) (hn : ¬ n < 0) {Nx : Nat} (hx9 : n.toNatClampNeg = Nx) (hN : Nx ≤ N) (hbytes : N ≤ 600000) (hcells : cells + 1 ≤ R.cells) (hslots : slots + N ≤ R.slots) (hdg : decode cc pc = .ok (.newarray .byte, 2))
    (kk : ∀ (q : Nat) (H1 : Heap) (Y1 : Ly) (M1 : Mm), yK Y q = 0 → Y1 = yNew Y q 100 Nx → M1 = mZ M q → Wd D cy A Y1 M1 H1 → va_S A s.heap H1 locs → W p l e R s m args below meth c H1 locs (cells + 1) (slots + N) Q (F0 m (pc + 2) ls (.ref q :: rest))) : W p l e R s m args below meth c H locs cells slots Q (F0 m pc ls (.int n :: rest)) := by
  subst hx9
  obtain ⟨h8, L, hL, hP, hD⟩ := hW
  refine va_newa hx hb (atype := .byte) harr rfl hK hP hD hS hA (N' := n.toNatClampNeg) (a0 := (n.toNatClampNeg, .inl (fun _ => 0))) (fun cA => rfl) hn rfl (by show _ * 1 ≤ _; omega) hcells (by omega) hdg (fun q cA H1 hK1 hP1 hD1 hS1 => ?_)
  have hcA := RA_byte hK1
  subst hcA
  obtain ⟨h0, hW1⟩ := Wd_push h8 hL 100 n.toNatClampNeg (by decide) (by rw [FF_b (yK_new_self _ _ _ _), yN_new_self, mI_mZ_self]) hP1 hD1
  exact W.widen (Nat.le_refl _) (by omega) (kk q H1 _ _ h0 rfl rfl hW1 hS1)
theorem gm_newi (hx : p.tables.exec = Jvm.exec) (hb : c.code = cc) (harr : (Cond.arrayClass .int).before args s = true) (hK : va_K D vwCl (tysC cy) s) (hW : Wd D cy A Y M H) (hS : va_S A s.heap H locs) (hA : ∀ q, s.heap.size ≤ q → A q) {n : Int32} (N : Nat) (hn : ¬ n < 0) {Nx : Nat} (hx9 : n.toNatClampNeg = Nx) (hN : Nx ≤ N) (hbytes : N ≤ 600000) (hcells : cells + 1 ≤ R.cells) (hslots : slots + N ≤ R.slots) (hdg : decode cc pc = .ok (.newarray .int, 2))
    (kk : ∀ (q : Nat) (H1 : Heap) (Y1 : Ly) (M1 : Mm), yK Y q = 0 → Y1 = yNew Y q 101 Nx → M1 = mZ M q → Wd D cy A Y1 M1 H1 → va_S A s.heap H1 locs → W p l e R s m args below meth c H1 locs (cells + 1) (slots + N) Q (F0 m (pc + 2) ls (.ref q :: rest))) : W p l e R s m args below meth c H locs cells slots Q (F0 m pc ls (.int n :: rest)) := by
  subst hx9
  obtain ⟨h8, L, hL, hP, hD⟩ := hW
  refine va_newa hx hb (atype := .int) harr rfl hK hP hD hS hA (N' := n.toNatClampNeg) (a0 := (n.toNatClampNeg, .inl (fun _ => 0))) (fun cA => rfl) hn rfl (by show _ * 4 ≤ _; omega) hcells (by omega) hdg (fun q cA H1 hK1 hP1 hD1 hS1 => ?_)
  have hcA := RA_int hK1
  subst hcA
  obtain ⟨h0, hW1⟩ := Wd_push h8 hL 101 n.toNatClampNeg (by decide) (by rw [FF_i (yK_new_self _ _ _ _), yN_new_self, mI_mZ_self]) hP1 hD1
  exact W.widen (Nat.le_refl _) (by omega) (kk q H1 _ _ h0 rfl rfl hW1 hS1)
theorem gm_newl (hx : p.tables.exec = Jvm.exec) (hb : c.code = cc) (harr : (Cond.arrayClass .long).before args s = true) (hK : va_K D vwCl (tysC cy) s) (hW : Wd D cy A Y M H) (hS : va_S A s.heap H locs) (hA : ∀ q, s.heap.size ≤ q → A q) {n : Int32} (N : Nat) (hn : ¬ n < 0) {Nx : Nat} (hx9 : n.toNatClampNeg = Nx) (hN : Nx ≤ N) (hbytes : N ≤ 600000) (hcells : cells + 1 ≤ R.cells) (hslots : slots + N ≤ R.slots) (hdg : decode cc pc = .ok (.newarray .long, 2))
    (kk : ∀ (q : Nat) (H1 : Heap) (Y1 : Ly) (M1 : Mm), yK Y q = 0 → Y1 = yNew Y q 102 Nx → M1 = mZ M q → Wd D cy A Y1 M1 H1 → va_S A s.heap H1 locs → W p l e R s m args below meth c H1 locs (cells + 1) (slots + N) Q (F0 m (pc + 2) ls (.ref q :: rest))) : W p l e R s m args below meth c H locs cells slots Q (F0 m pc ls (.int n :: rest)) := by
  subst hx9
  obtain ⟨h8, L, hL, hP, hD⟩ := hW
  refine va_newa hx hb (atype := .long) harr rfl hK hP hD hS hA (N' := n.toNatClampNeg) (a0 := (n.toNatClampNeg, .inr (.inl (fun _ => 0)))) (fun cA => rfl) hn rfl (by show _ * 8 ≤ _; omega) hcells (by omega) hdg (fun q cA H1 hK1 hP1 hD1 hS1 => ?_)
  have hcA := RA_long hK1
  subst hcA
  obtain ⟨h0, hW1⟩ := Wd_push h8 hL 102 n.toNatClampNeg (by decide) (by rw [FF_l (yK_new_self _ _ _ _), yN_new_self, mJ_mZ_self]) hP1 hD1
  exact W.widen (Nat.le_refl _) (by omega) (kk q H1 _ _ h0 rfl rfl hW1 hS1)
theorem gm_newz (hx : p.tables.exec = Jvm.exec) (hb : c.code = cc) (harr : (Cond.arrayClass .boolean).before args s = true) (hK : va_K D vwCl (tysC cy) s) (hW : Wd D cy A Y M H) (hS : va_S A s.heap H locs) (hA : ∀ q, s.heap.size ≤ q → A q) {n : Int32} (N : Nat) (hn : ¬ n < 0) {Nx : Nat} (hx9 : n.toNatClampNeg = Nx) (hN : Nx ≤ N) (hbytes : N ≤ 600000) (hcells : cells + 1 ≤ R.cells) (hslots : slots + N ≤ R.slots) (hdg : decode cc pc = .ok (.newarray .boolean, 2))
    (kk : ∀ (q : Nat) (H1 : Heap) (Y1 : Ly) (M1 : Mm), yK Y q = 0 → Y1 = yNew Y q 103 Nx → M1 = mZ M q → Wd D cy A Y1 M1 H1 → va_S A s.heap H1 locs → W p l e R s m args below meth c H1 locs (cells + 1) (slots + N) Q (F0 m (pc + 2) ls (.ref q :: rest))) : W p l e R s m args below meth c H locs cells slots Q (F0 m pc ls (.int n :: rest)) := by
  subst hx9
  obtain ⟨h8, L, hL, hP, hD⟩ := hW
  refine va_newa hx hb (atype := .boolean) harr rfl hK hP hD hS hA (N' := n.toNatClampNeg) (a0 := (n.toNatClampNeg, .inl (fun _ => 0))) (fun cA => rfl) hn rfl (by show _ * 1 ≤ _; omega) hcells (by omega) hdg (fun q cA H1 hK1 hP1 hD1 hS1 => ?_)
  have hcA := RA_bool hK1
  subst hcA
  obtain ⟨h0, hW1⟩ := Wd_push h8 hL 103 n.toNatClampNeg (by decide) (by rw [FF_z (yK_new_self _ _ _ _), yN_new_self, mI_mZ_self]) hP1 hD1
  exact W.widen (Nat.le_refl _) (by omega) (kk q H1 _ _ h0 rfl rfl hW1 hS1)
/-- LogTable[] -/
theorem gm_newr {own : String} {index : Nat} (hx : p.tables.exec = Jvm.exec) (hb : c.code = cc) (hown : s.vm.findClass own = some m.cls) (hlink : (Cond.classLink own index RX8).before args s = true) (hover : va_AO RX8 s) (hK : va_K D vwCl (tysC cy) s) (hW : Wd D cy A Y M H) (hS : va_S A s.heap H locs) (hA : ∀ q, s.heap.size ≤ q → A q) {n : Int32} (N : Nat) (hn : ¬ n < 0) {Nx : Nat} (hx9 : n.toNatClampNeg = Nx) (hN : Nx ≤ N) (hbytes : N ≤ 600000) (hcells : cells + 1 ≤ R.cells) (hslots : slots + N ≤ R.slots) (hdg : decode cc pc = .ok (.anewarray index, 3))
    (kk : ∀ (q : Nat) (H1 : Heap) (Y1 : Ly) (M1 : Mm), yK Y q = 0 → Y1 = yNew Y q 104 Nx → M1 = mZ M q → Wd D cy A Y1 M1 H1 → va_S A s.heap H1 locs → W p l e R s m args below meth c H1 locs (cells + 1) (slots + N) Q (F0 m (pc + 3) ls (.ref q :: rest))) : W p l e R s m args below meth c H locs cells slots Q (F0 m pc ls (.int n :: rest)) := by
  subst hx9
  obtain ⟨h8, L, hL, hP, hD⟩ := hW
  refine va_newq hx hb hown hlink hover hK hP hD hS hA (N' := n.toNatClampNeg) hn rfl (by omega) hcells (by omega) hdg (fun q cA H1 hK1 hP1 hD1 hS1 => ?_)
  have hcA := RA_ref hK1
  subst hcA
  obtain ⟨h0, hW1⟩ := Wd_push h8 hL 104 n.toNatClampNeg (by decide) (by rw [FF_r (yK_new_self _ _ _ _), yN_new_self, mR_mZ_self]) hP1 hD1
  exact W.widen (Nat.le_refl _) (by omega) (kk q H1 _ _ h0 rfl rfl hW1 hS1)
/-- an object -/
theorem gm_new {own C : String} {T : u_T} {N ci index : Nat} (hx : p.tables.exec = Jvm.exec) (hb : c.code = cc) (hts : ∀ w ∈ TT, w.before args s = true) (hin : ∀ w ∈ u_ws C T N, w ∈ TT) (ty : Nat → FieldType) (hty : ∀ k, k < N → parseFieldDescriptor (T k).2.2.1 = some (ty k)) (hown : s.vm.findClass own = some m.cls) (hcl : (Cond.classLink own index C).before args s = true) (hinst : (Cond.instantiable C N).before args s = true) (hini : (Cond.initialized C).before args s = true)
    (hK : va_K D vwCl (tysC cy) s) (hW : Wd D cy A Y M H) (hS : va_S A s.heap H locs) (hA : ∀ q, s.heap.size ≤ q → A q) (hc : vwCl[ci]? = some (C, T, N)) (hci : ci < 100 ∧ ci ≠ 0) (hlen : (fty ci).length = N) (hdef : ∀ j t, (fty ci)[j]? = some t → defaultValue (ty j) = (if t = 0 then .int 0 else if t = 1 then .long 0 else .null)) (hcells : cells + 1 ≤ R.cells) (hslots : slots + N ≤ R.slots) (hdg : decode cc pc = .ok (.new index, 3))
    (kk : ∀ (q : Nat) (H1 : Heap) (Y1 : Ly) (M1 : Mm), yK Y q = 0 → Y1 = yNew Y q ci 0 → M1 = mZ M q → Wd D cy A Y1 M1 H1 → va_S A s.heap H1 locs → W p l e R s m args below meth c H1 locs (cells + 1) (slots + N) Q (F0 m (pc + 3) ls (.ref q :: rest))) : W p l e R s m args below meth c H locs cells slots Q (F0 m pc ls rest) := by
  obtain ⟨h8, L, hL, hP, hD⟩ := hW
  have hobj : ∀ q0, objF (mZ M q0) ci q0 = (fty ci).mapIdx (fun _ t => if t = 0 then Value.int 0 else if t = 1 then .long 0 else .null) := by
    intro q0
    apply List.ext_getElem?
    intro i
    simp only [objF, List.getElem?_mapIdx]
    cases hi : (fty ci)[i]? with
    | none => rfl
    | some t =>
      simp only [Option.map_some, vv, mI_mZ_self, mJ_mZ_self, mR_mZ_self, va_rf]
  refine va_new hx hb hts hin ty hty hown hcl hinst hini hK hP hD hS hA hc (fs := (fty ci).mapIdx (fun _ t => if t = 0 then Value.int 0 else if t = 1 then .long 0 else .null)) (fun j hj => ?_) hcells hslots hdg (fun q H1 hP1 hD1 hS1 => ?_)
  · have hj' : j < (fty ci).length := by rw [hlen]; exact hj
    rw [hdef j _ (List.getElem?_eq_getElem hj')]
    simp [vp_V, List.getD, List.getElem?_mapIdx, List.getElem?_eq_getElem hj']
  · obtain ⟨h0, hW1⟩ := Wd_push h8 hL ci 0 hci.2 (by rw [FF_o (yK_new_self _ _ _ _) hci.1, hobj]) hP1 hD1
    exact kk q H1 _ _ h0 rfl rfl hW1 hS1
/-! final fields, in constructors -/
theorem gm_putF {own ref C : String} {T : u_T} {N ci index : Nat} {Ts : List Cond} (hx : p.tables.exec = Jvm.exec) (hb : c.code = cc) (hts : ∀ w ∈ Ts, w.before args s = true) (hin : ∀ w ∈ u_ws C T N, w ∈ Ts) (ty0 : Nat → FieldType) (hty : ∀ k, k < N → parseFieldDescriptor (T k).2.2.1 = some (ty0 k)) (hnm : ∀ a, a < N → ∀ b, b < N → a ≠ b → (T a).2.1 ≠ (T b).2.1)
    (hown : s.vm.findClass own = some m.cls) (hK : va_K D vwCl (tysC cy) s) (hW : Wd D cy A Y M H) (hS : va_S A s.heap H locs) {a : Nat}
    (hk : yK Y a = ci) (hci : ci < 100 ∧ ci ≠ 0) (hc : vwCl[ci]? = some (C, T, N)) {j : Nat} (t : Nat) (hj : j < N) (ht : (fty ci)[j]? = some t) (hlink : (Cond.fieldLink own index ref (T j).2.1 (T j).2.2.1).before args s = true) (hsame : (T j).1 = ref) (hfin : (T j).2.2.2 = true) (hin2 : meth.name = "<init>") (hdecl : (T j).1 = own) {v : Value} (hn : narrow (ty0 j) v = v) (hfit : fits (ty0 j) v = true)
    {M' : Mm} (hv : vv M' t a j = v) (h2 : ∀ i t, i ≠ j → (fty ci)[i]? = some t → vv M' t a i = vv M t a i) (ho : ∀ b, b ≠ a → mI M' b = mI M b ∧ mJ M' b = mJ M b ∧ mR M' b = mR M b)
    (hdg : decode cc pc = .ok (.putfield index, 3))
    (kk : ∀ (H1 : Heap) (locs1 : List Loc), Wd D cy A Y M' H1 → va_S A s.heap H1 locs1 → W p l e R s m args below meth c H1 locs1 cells slots Q (F0 m (pc + 3) ls rest)) : W p l e R s m args below meth c H locs cells slots Q (F0 m pc ls (v :: .ref a :: rest)) := by
  obtain ⟨L, k, hL, hP, hD, ha, hq⟩ := Wd_get hW (a := a) (by omega)
  have hq' := hq
  rw [FF_o hk hci.1] at hq
  have hl : j < (objF M ci a).length := by rw [objF_len]; exact (List.getElem?_eq_some_iff.mp ht).1
  refine va_putF hx hb hts hin ty0 hty hnm hown hK hP hD hS k hq hc j hj hlink (fun x h => by rw [← hsame]; exact h) hfin hin2 hdecl (hty j hj) hn hfit hl hdg (fun H1 locs1 hP1 hD1 hS1 => ?_)
  refine kk H1 locs1 (Wd_upd hL hD ha hq' ?_ (e := .inr (ci, (objF M ci a).set j v)) ?_ ?_ hP1 hD1) hS1
  · intro b i hbk
    by_cases hba : b = a
    · subst hba; omega
    · rw [(ho b hba).1]; exact hW.1 b i hbk
  · rw [FF_o hk hci.1, objF_set ht hv h2]
  · intro b hba
    obtain ⟨g2, g3, g4⟩ := ho b hba
    exact FF_of g2 g3 g4
theorem gm_putFI {own ref C : String} {T : u_T} {N ci index : Nat} {Ts : List Cond} (hx : p.tables.exec = Jvm.exec) (hb : c.code = cc) (hts : ∀ w ∈ Ts, w.before args s = true) (hin : ∀ w ∈ u_ws C T N, w ∈ Ts) (ty0 : Nat → FieldType) (hty : ∀ k, k < N → parseFieldDescriptor (T k).2.2.1 = some (ty0 k)) (hnm : ∀ a, a < N → ∀ b, b < N → a ≠ b → (T a).2.1 ≠ (T b).2.1)
    (hown : s.vm.findClass own = some m.cls) (hK : va_K D vwCl (tysC cy) s) (hW : Wd D cy A Y M H) (hS : va_S A s.heap H locs) {a : Nat}
    (hk : yK Y a = ci) (hci : ci < 100 ∧ ci ≠ 0) (hc : vwCl[ci]? = some (C, T, N)) {j : Nat} (hj : j < N) (ht : (fty ci)[j]? = some 0) (hlink : (Cond.fieldLink own index ref (T j).2.1 (T j).2.2.1).before args s = true) (hsame : (T j).1 = ref) (hfin : (T j).2.2.2 = true) (hin2 : meth.name = "<init>") (hdecl : (T j).1 = own) {v : Int32} (hn : narrow (ty0 j) (.int v) = .int v) (hfit : fits (ty0 j) (.int v) = true)
    (hdg : decode cc pc = .ok (.putfield index, 3))
    (kk : ∀ (H1 : Heap) (locs1 : List Loc) (M1 : Mm), M1 = sI M a (m1 (mI M a) j v) → Wd D cy A Y M1 H1 → va_S A s.heap H1 locs1 → W p l e R s m args below meth c H1 locs1 cells slots Q (F0 m (pc + 3) ls rest)) : W p l e R s m args below meth c H locs cells slots Q (F0 m pc ls (.int v :: .ref a :: rest)) := by
  refine gm_putF hx hb hts hin ty0 hty hnm hown hK hW hS hk hci hc 0 hj ht hlink hsame hfin hin2 hdecl hn hfit (M' := sI M a (m1 (mI M a) j v)) ?_ ?_ ?_ hdg (fun H1 locs1 hW1 hS1 => kk H1 locs1 _ rfl hW1 hS1)
  · simp [vv, mI_sI_self, m1_self]
  · intro i t hij hi
    simp only [vv, mI_sI_self, m1_ne _ _ hij, mJ_sI, mR_sI]
  · intro b hb
    exact ⟨mI_sI_ne _ _ hb, rfl, rfl⟩
theorem gm_putFR {own ref C : String} {T : u_T} {N ci index : Nat} {Ts : List Cond} (hx : p.tables.exec = Jvm.exec) (hb : c.code = cc) (hts : ∀ w ∈ Ts, w.before args s = true) (hin : ∀ w ∈ u_ws C T N, w ∈ Ts) (ty0 : Nat → FieldType) (hty : ∀ k, k < N → parseFieldDescriptor (T k).2.2.1 = some (ty0 k)) (hnm : ∀ a, a < N → ∀ b, b < N → a ≠ b → (T a).2.1 ≠ (T b).2.1)
    (hown : s.vm.findClass own = some m.cls) (hK : va_K D vwCl (tysC cy) s) (hW : Wd D cy A Y M H) (hS : va_S A s.heap H locs) {a : Nat}
    (hk : yK Y a = ci) (hci : ci < 100 ∧ ci ≠ 0) (hc : vwCl[ci]? = some (C, T, N)) {j : Nat} (hj : j < N) (ht : (fty ci)[j]? = some 2) (hlink : (Cond.fieldLink own index ref (T j).2.1 (T j).2.2.1).before args s = true) (hsame : (T j).1 = ref) (hfin : (T j).2.2.2 = true) (hin2 : meth.name = "<init>") (hdecl : (T j).1 = own) {v : Nat} (hn : narrow (ty0 j) (.ref v) = .ref v) (hfit : fits (ty0 j) (.ref v) = true)
    (hdg : decode cc pc = .ok (.putfield index, 3))
    (kk : ∀ (H1 : Heap) (locs1 : List Loc) (M1 : Mm), M1 = sR M a (m1 (mR M a) j (some v)) → Wd D cy A Y M1 H1 → va_S A s.heap H1 locs1 → W p l e R s m args below meth c H1 locs1 cells slots Q (F0 m (pc + 3) ls rest)) : W p l e R s m args below meth c H locs cells slots Q (F0 m pc ls (.ref v :: .ref a :: rest)) := by
  refine gm_putF hx hb hts hin ty0 hty hnm hown hK hW hS hk hci hc 2 hj ht hlink hsame hfin hin2 hdecl hn hfit (M' := sR M a (m1 (mR M a) j (some v))) ?_ ?_ ?_ hdg (fun H1 locs1 hW1 hS1 => kk H1 locs1 _ rfl hW1 hS1)
  · simp [vv, mR_sR_self, m1_self, va_rf]
  · intro i t hij hi
    simp only [vv, mR_sR_self, m1_ne _ _ hij, mI_sR, mJ_sR]
  · intro b hb
    exact ⟨rfl, rfl, mR_sR_ne _ _ hb⟩
/-- a LogTable into a LogTable[] -/
theorem gm_aast (hx : p.tables.exec = Jvm.exec) (hb : c.code = cc) (hK : va_K D vwCl (tysC cy) s) (hW : Wd D cy A Y M H) (hS : va_S A s.heap H locs) {a v : Nat} (hk : yK Y a = 104) (hv : yK Y v = 8) {i : Int32} (hin : vp_in i (yN Y a)) (hdg : decode cc pc = .ok (.aastore, 1))
    (kk : ∀ (H1 : Heap) (locs1 : List Loc) (M1 : Mm), M1 = sR M a (m1 (mR M a) i.toNatClampNeg (some v)) → Wd D cy A Y M1 H1 → va_S A s.heap H1 locs1 → W p l e R s m args below meth c H1 locs1 cells slots Q (F0 m (pc + 1) ls rest)) : W p l e R s m args below meth c H locs cells slots Q (F0 m pc ls (.ref v :: .int i :: .ref a :: rest)) := by
  obtain ⟨L, k, hL, hP, hD, ha, hq⟩ := Wd_get hW (a := a) (by omega)
  obtain ⟨k0, hq0⟩ := va_pl_get (X := []) (f := FF cy Y M) ((hL v).2 (by omega))
  simp only [List.nil_append] at hq0
  have hq' := hq
  rw [FF_r hk] at hq
  rw [FF_o hv (by decide)] at hq0
  refine va_astq hx hb hK hP hD hS k 4 k0 8 (r := (RX8, TX8, 9)) hq rfl hq0 rfl hin hdg (fun H1 locs1 hP1 hD1 hS1 => kk H1 locs1 _ rfl (Wd_upd hL hD ha hq' ?_ (e := .inl (cy.2.2.2.2, yN Y a, .inr (.inr (.inr (.inr (va_up (mR M a) i.toNatClampNeg (some v))))))) ?_ ?_ hP1 hD1) hS1)
  · intro b j hbk
    exact hW.1 b j hbk
  · rw [FF_r hk, mR_sR_self]; rfl
  · intro b hba
    exact FF_of rfl rfl (mR_sR_ne _ _ hba)
/-! calls and ends of constructors -/
abbrev QA (D : va_G) (cy : Cy) (A : Nat → Prop) (Kn : Ly → Mm → Prop) : Array Value → State → Outcome → State → Prop := va_Qv (fun u : Ly × Mm => Kn u.1 u.2) (fun u t => Wd D cy A u.1 u.2 t.heap) A
theorem gm_ca {Kn : Ly → Mm → Prop} {a : Array Value} (hr : va_Run p l e R s m args below meth c H locs cells slots mc ms (F0 m pc ls st0) rest (QA D cy (Am Y H.size) Kn a) (Am Y H.size)) (hW : Wd D cy A Y M H) (hS : va_S A s.heap H locs) (hA : ∀ q, s.heap.size ≤ q → A q)
    (kk : ∀ (Y' : Ly) (M' : Mm) (H1 : Heap) (locs1 : List Loc), Wd D cy A Y' M' H1 → va_S A s.heap H1 locs1 → Kn Y' M' → W p l e R s m args below meth c H1 locs1 (cells + mc) (slots + ms) Q (F0 m (pc + 3) ls rest)) : W p l e R s m args below meth c H locs cells slots Q (F0 m pc ls st0) :=
  have hF := Am_sub hW hS hA
  va_callv hr hS (fun q _ h => hF q h) hF (fun u t H1 locs1 ht hvm hp hB hz hk hS1 => kk u.1 u.2 H1 locs1 (by rw [← ht]; exact Wd_true hB hF) hS1 hp)
theorem gm_vretA {Kn : Ly → Mm → Prop} (hx : p.tables.exec = Jvm.exec) (hb : c.code = cc) (hr : meth.sig.returnType = none) (hlocks : meth.locks = false) (hW : Wd D cy A Y M H) (hS : va_S A s.heap H locs) (hf : Kn Y M) (hdg : decode cc pc = .ok (.return_, 1)) :
    W p l e R s m args below meth c H locs cells slots (MQ below (QA D cy A Kn) args s cells slots A) (F0 m pc ls []) :=
  W.vret hx hb hr (fun t ht _ => ⟨⟨(Y, M), rfl, hf, by show Wd D cy A Y M t.heap; rw [ht]; exact hW⟩, hS.F ht⟩) hS.2.2 hdg hlocks
end GMA
theorem def_2 : ∀ j t, (fty 2)[j]? = some t → defaultValue (tyX2 j) = (if t = 0 then Value.int 0 else if t = 1 then .long 0 else .null) := by
  intro j t h
  have hj : j < 13 := (List.getElem?_eq_some_iff.mp h).1
  match j, hj, h with
  | 0, _, h => cases h; rfl
  | 1, _, h => cases h; rfl
  | 2, _, h => cases h; rfl
  | 3, _, h => cases h; rfl
  | 4, _, h => cases h; rfl
  | 5, _, h => cases h; rfl
  | 6, _, h => cases h; rfl
  | 7, _, h => cases h; rfl
  | 8, _, h => cases h; rfl
  | 9, _, h => cases h; rfl
  | 10, _, h => cases h; rfl
  | 11, _, h => cases h; rfl
  | 12, _, h => cases h; rfl
  | j + 13, hj, _ => exact absurd hj (by omega)
theorem def_3 : ∀ j t, (fty 3)[j]? = some t → defaultValue (tyX3 j) = (if t = 0 then Value.int 0 else if t = 1 then .long 0 else .null) := by
  intro j t h
  have hj : j < 4 := (List.getElem?_eq_some_iff.mp h).1
  match j, hj, h with
  | 0, _, h => cases h; rfl
  | 1, _, h => cases h; rfl
  | 2, _, h => cases h; rfl
  | 3, _, h => cases h; rfl
  | j + 4, hj, _ => exact absurd hj (by omega)
theorem def_4 : ∀ j t, (fty 4)[j]? = some t → defaultValue (tyX4 j) = (if t = 0 then Value.int 0 else if t = 1 then .long 0 else .null) := by
  intro j t h
  have hj : j < 4 := (List.getElem?_eq_some_iff.mp h).1
  match j, hj, h with
  | 0, _, h => cases h; rfl
  | 1, _, h => cases h; rfl
  | 2, _, h => cases h; rfl
  | 3, _, h => cases h; rfl
  | j + 4, hj, _ => exact absurd hj (by omega)
theorem def_5 : ∀ j t, (fty 5)[j]? = some t → defaultValue (tyX5 j) = (if t = 0 then Value.int 0 else if t = 1 then .long 0 else .null) := by
  intro j t h
  have hj : j < 3 := (List.getElem?_eq_some_iff.mp h).1
  match j, hj, h with
  | 0, _, h => cases h; rfl
  | 1, _, h => cases h; rfl
  | 2, _, h => cases h; rfl
  | j + 3, hj, _ => exact absurd hj (by omega)
theorem def_6 : ∀ j t, (fty 6)[j]? = some t → defaultValue (tyX6 j) = (if t = 0 then Value.int 0 else if t = 1 then .long 0 else .null) := by
  intro j t h
  have hj : j < 6 := (List.getElem?_eq_some_iff.mp h).1
  match j, hj, h with
  | 0, _, h => cases h; rfl
  | 1, _, h => cases h; rfl
  | 2, _, h => cases h; rfl
  | 3, _, h => cases h; rfl
  | 4, _, h => cases h; rfl
  | 5, _, h => cases h; rfl
  | j + 6, hj, _ => exact absurd hj (by omega)
theorem def_7 : ∀ j t, (fty 7)[j]? = some t → defaultValue (tyX7 j) = (if t = 0 then Value.int 0 else if t = 1 then .long 0 else .null) := by
  intro j t h
  have hj : j < 9 := (List.getElem?_eq_some_iff.mp h).1
  match j, hj, h with
  | 0, _, h => cases h; rfl
  | 1, _, h => cases h; rfl
  | 2, _, h => cases h; rfl
  | 3, _, h => cases h; rfl
  | 4, _, h => cases h; rfl
  | 5, _, h => cases h; rfl
  | 6, _, h => cases h; rfl
  | 7, _, h => cases h; rfl
  | 8, _, h => cases h; rfl
  | j + 9, hj, _ => exact absurd hj (by omega)
theorem def_8 : ∀ j t, (fty 8)[j]? = some t → defaultValue (tyX8 j) = (if t = 0 then Value.int 0 else if t = 1 then .long 0 else .null) := by
  intro j t h
  have hj : j < 9 := (List.getElem?_eq_some_iff.mp h).1
  match j, hj, h with
  | 0, _, h => cases h; rfl
  | 1, _, h => cases h; rfl
  | 2, _, h => cases h; rfl
  | 3, _, h => cases h; rfl
  | 4, _, h => cases h; rfl
  | 5, _, h => cases h; rfl
  | 6, _, h => cases h; rfl
  | 7, _, h => cases h; rfl
  | 8, _, h => cases h; rfl
  | j + 9, hj, _ => exact absurd hj (by omega)
theorem def_9 : ∀ j t, (fty 9)[j]? = some t → defaultValue (tyX9 j) = (if t = 0 then Value.int 0 else if t = 1 then .long 0 else .null) := by
  intro j t h
  have hj : j < 7 := (List.getElem?_eq_some_iff.mp h).1
  match j, hj, h with
  | 0, _, h => cases h; rfl
  | 1, _, h => cases h; rfl
  | 2, _, h => cases h; rfl
  | 3, _, h => cases h; rfl
  | 4, _, h => cases h; rfl
  | 5, _, h => cases h; rfl
  | 6, _, h => cases h; rfl
  | j + 7, hj, _ => exact absurd hj (by omega)
theorem def_10 : ∀ j t, (fty 10)[j]? = some t → defaultValue (tyX10 j) = (if t = 0 then Value.int 0 else if t = 1 then .long 0 else .null) := by
  intro j t h
  have hj : j < 8 := (List.getElem?_eq_some_iff.mp h).1
  match j, hj, h with
  | 0, _, h => cases h; rfl
  | 1, _, h => cases h; rfl
  | 2, _, h => cases h; rfl
  | 3, _, h => cases h; rfl
  | 4, _, h => cases h; rfl
  | 5, _, h => cases h; rfl
  | 6, _, h => cases h; rfl
  | 7, _, h => cases h; rfl
  | j + 8, hj, _ => exact absurd hj (by omega)
theorem def_11 : ∀ j t, (fty 11)[j]? = some t → defaultValue (tyX11 j) = (if t = 0 then Value.int 0 else if t = 1 then .long 0 else .null) := by
  intro j t h
  have hj : j < 13 := (List.getElem?_eq_some_iff.mp h).1
  match j, hj, h with
  | 0, _, h => cases h; rfl
  | 1, _, h => cases h; rfl
  | 2, _, h => cases h; rfl
  | 3, _, h => cases h; rfl
  | 4, _, h => cases h; rfl
  | 5, _, h => cases h; rfl
  | 6, _, h => cases h; rfl
  | 7, _, h => cases h; rfl
  | 8, _, h => cases h; rfl
  | 9, _, h => cases h; rfl
  | 10, _, h => cases h; rfl
  | 11, _, h => cases h; rfl
  | 12, _, h => cases h; rfl
  | j + 13, hj, _ => exact absurd hj (by omega)
theorem def_12 : ∀ j t, (fty 12)[j]? = some t → defaultValue (tyX12 j) = (if t = 0 then Value.int 0 else if t = 1 then .long 0 else .null) := by
  intro j t h
  have hj : j < 68 := (List.getElem?_eq_some_iff.mp h).1
  match j, hj, h with
  | 0, _, h => cases h; rfl
  | 1, _, h => cases h; rfl
  | 2, _, h => cases h; rfl
  | 3, _, h => cases h; rfl
  | 4, _, h => cases h; rfl
  | 5, _, h => cases h; rfl
  | 6, _, h => cases h; rfl
  | 7, _, h => cases h; rfl
  | 8, _, h => cases h; rfl
  | 9, _, h => cases h; rfl
  | 10, _, h => cases h; rfl
  | 11, _, h => cases h; rfl
  | 12, _, h => cases h; rfl
  | 13, _, h => cases h; rfl
  | 14, _, h => cases h; rfl
  | 15, _, h => cases h; rfl
  | 16, _, h => cases h; rfl
  | 17, _, h => cases h; rfl
  | 18, _, h => cases h; rfl
  | 19, _, h => cases h; rfl
  | 20, _, h => cases h; rfl
  | 21, _, h => cases h; rfl
  | 22, _, h => cases h; rfl
  | 23, _, h => cases h; rfl
  | 24, _, h => cases h; rfl
  | 25, _, h => cases h; rfl
  | 26, _, h => cases h; rfl
  | 27, _, h => cases h; rfl
  | 28, _, h => cases h; rfl
  | 29, _, h => cases h; rfl
  | 30, _, h => cases h; rfl
  | 31, _, h => cases h; rfl
  | 32, _, h => cases h; rfl
  | 33, _, h => cases h; rfl
  | 34, _, h => cases h; rfl
  | 35, _, h => cases h; rfl
  | 36, _, h => cases h; rfl
  | 37, _, h => cases h; rfl
  | 38, _, h => cases h; rfl
  | 39, _, h => cases h; rfl
  | 40, _, h => cases h; rfl
  | 41, _, h => cases h; rfl
  | 42, _, h => cases h; rfl
  | 43, _, h => cases h; rfl
  | 44, _, h => cases h; rfl
  | 45, _, h => cases h; rfl
  | 46, _, h => cases h; rfl
  | 47, _, h => cases h; rfl
  | 48, _, h => cases h; rfl
  | 49, _, h => cases h; rfl
  | 50, _, h => cases h; rfl
  | 51, _, h => cases h; rfl
  | 52, _, h => cases h; rfl
  | 53, _, h => cases h; rfl
  | 54, _, h => cases h; rfl
  | 55, _, h => cases h; rfl
  | 56, _, h => cases h; rfl
  | 57, _, h => cases h; rfl
  | 58, _, h => cases h; rfl
  | 59, _, h => cases h; rfl
  | 60, _, h => cases h; rfl
  | 61, _, h => cases h; rfl
  | 62, _, h => cases h; rfl
  | 63, _, h => cases h; rfl
  | 64, _, h => cases h; rfl
  | 65, _, h => cases h; rfl
  | 66, _, h => cases h; rfl
  | 67, _, h => cases h; rfl
  | j + 68, hj, _ => exact absurd hj (by omega)
