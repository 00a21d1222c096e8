section GMR
variable {p : Program} {l : Launch} {e : Env} {R : Room} {s : State} {m : MethodId} {args : Array Value} {below : List Frame} {meth : Method} {c : Code} {H H0 : Heap} {locs : List Loc} {cells slots : Nat} {Q : State → Prop}
variable {pc : Nat} {ls : Array Slot} {rest : List Value} {cc : ByteArray} {D : va_G} {cy : Cy} {A : Nat → Prop} {Y : Ly} {M : Mm}
theorem gm_get {own ref C : String} {T : u_T} {N ci index : Nat} {Ts : List Cond} (hx : p.tables.exec = Jvm.exec) (hb : c.code = cc) (hts : ∀ w ∈ Ts, w.before args s = true) (hin : ∀ w ∈ u_ws C T N, w ∈ Ts) (hown : s.vm.findClass own = some m.cls) (hK : va_K D vwCl (tysC cy) s) (hW : Wd D cy A Y M H) {a : Nat}
    (hk : yK Y a = ci) (hci : ci < 100 ∧ ci ≠ 0) (hc : vwCl[ci]? = some (C, T, N)) {j : Nat} (t : Nat) (hj : j < N) (ht : (fty ci)[j]? = some t) (hlink : (Cond.fieldLink own index ref (T j).2.1 (T j).2.2.1).before args s = true) (hsame : (T j).1 = ref) (hdg : decode cc pc = .ok (.getfield index, 3))
    (kk : W p l e R s m args below meth c H locs cells slots Q (F0 m (pc + 3) ls (vv M t a j :: rest))) : W p l e R s m args below meth c H locs cells slots Q (F0 m pc ls (.ref a :: rest)) := by
  obtain ⟨L, k, hL, hP, hD, ha, hq⟩ := Wd_get hW (a := a) (by omega)
  rw [FF_o hk hci.1] at hq
  exact va_get hx hb hts hin hown hK hP k hq hc j hj hlink (fun x h => by rw [← hsame]; exact h) (objF_at ht) hdg kk
theorem gm_getI {own ref C : String} {T : u_T} {N ci index : Nat} {Ts : List Cond} (hx : p.tables.exec = Jvm.exec) (hb : c.code = cc) (hts : ∀ w ∈ Ts, w.before args s = true) (hin : ∀ w ∈ u_ws C T N, w ∈ Ts) (hown : s.vm.findClass own = some m.cls) (hK : va_K D vwCl (tysC cy) s) (hW : Wd D cy A Y M H) {a : Nat}
    (hk : yK Y a = ci) (hci : ci < 100 ∧ ci ≠ 0) (hc : vwCl[ci]? = some (C, T, N)) {j : Nat} (hj : j < N) (ht : (fty ci)[j]? = some 0) (hlink : (Cond.fieldLink own index ref (T j).2.1 (T j).2.2.1).before args s = true) (hsame : (T j).1 = ref) (hdg : decode cc pc = .ok (.getfield index, 3))
    (kk : W p l e R s m args below meth c H locs cells slots Q (F0 m (pc + 3) ls (.int (mI M a j) :: rest))) : W p l e R s m args below meth c H locs cells slots Q (F0 m pc ls (.ref a :: rest)) :=
  gm_get hx hb hts hin hown hK hW hk hci hc 0 hj ht hlink hsame hdg kk
theorem gm_getJ {own ref C : String} {T : u_T} {N ci index : Nat} {Ts : List Cond} (hx : p.tables.exec = Jvm.exec) (hb : c.code = cc) (hts : ∀ w ∈ Ts, w.before args s = true) (hin : ∀ w ∈ u_ws C T N, w ∈ Ts) (hown : s.vm.findClass own = some m.cls) (hK : va_K D vwCl (tysC cy) s) (hW : Wd D cy A Y M H) {a : Nat}
    (hk : yK Y a = ci) (hci : ci < 100 ∧ ci ≠ 0) (hc : vwCl[ci]? = some (C, T, N)) {j : Nat} (hj : j < N) (ht : (fty ci)[j]? = some 1) (hlink : (Cond.fieldLink own index ref (T j).2.1 (T j).2.2.1).before args s = true) (hsame : (T j).1 = ref) (hdg : decode cc pc = .ok (.getfield index, 3))
    (kk : W p l e R s m args below meth c H locs cells slots Q (F0 m (pc + 3) ls (.long (mJ M a j) :: rest))) : W p l e R s m args below meth c H locs cells slots Q (F0 m pc ls (.ref a :: rest)) :=
  gm_get hx hb hts hin hown hK hW hk hci hc 1 hj ht hlink hsame hdg kk
theorem gm_getR {own ref C : String} {T : u_T} {N ci index : Nat} {Ts : List Cond} (hx : p.tables.exec = Jvm.exec) (hb : c.code = cc) (hts : ∀ w ∈ Ts, w.before args s = true) (hin : ∀ w ∈ u_ws C T N, w ∈ Ts) (hown : s.vm.findClass own = some m.cls) (hK : va_K D vwCl (tysC cy) s) (hW : Wd D cy A Y M H) {a b : Nat}
    (hk : yK Y a = ci) (hci : ci < 100 ∧ ci ≠ 0) (hc : vwCl[ci]? = some (C, T, N)) {j : Nat} (hj : j < N) (ht : (fty ci)[j]? = some 2) (hlink : (Cond.fieldLink own index ref (T j).2.1 (T j).2.2.1).before args s = true) (hsame : (T j).1 = ref) (hdg : decode cc pc = .ok (.getfield index, 3)) (hr : mR M a j = some b)
    (kk : W p l e R s m args below meth c H locs cells slots Q (F0 m (pc + 3) ls (.ref b :: rest))) : W p l e R s m args below meth c H locs cells slots Q (F0 m pc ls (.ref a :: rest)) :=
  gm_get hx hb hts hin hown hK hW hk hci hc 2 hj ht hlink hsame hdg (by rw [show vv M 2 a j = .ref b from by simp [vv, hr, va_rf]]; exact kk)
theorem gm_put {own ref C : String} {T : u_T} {N ci index : Nat} {Ts : List Cond} (hx : p.tables.exec = Jvm.exec) (hb : c.code = cc) (hts : ∀ w ∈ Ts, w.before args s = true) (hin : ∀ w ∈ u_ws C T N, w ∈ Ts) (ty0 : Nat → FieldType) (hty : ∀ k, k < N → parseFieldDescriptor (T k).2.2.1 = some (ty0 k)) (hnm : ∀ a, a < N → ∀ b, b < N → a ≠ b → (T a).2.1 ≠ (T b).2.1)
    (hown : s.vm.findClass own = some m.cls) (hK : va_K D vwCl (tysC cy) s) (hW : Wd D cy A Y M H) (hS : va_S A H0 H locs) {a : Nat}
    (hk : yK Y a = ci) (hci : ci < 100 ∧ ci ≠ 0) (hc : vwCl[ci]? = some (C, T, N)) {j : Nat} (t : Nat) (hj : j < N) (ht : (fty ci)[j]? = some t) (hlink : (Cond.fieldLink own index ref (T j).2.1 (T j).2.2.1).before args s = true) (hsame : (T j).1 = ref) (hfin : (T j).2.2.2 = false) {v : Value} (hn : narrow (ty0 j) v = v) (hfit : fits (ty0 j) v = true)
    {M' : Mm} (hv : vv M' t a j = v) (h2 : ∀ i t, i ≠ j → (fty ci)[i]? = some t → vv M' t a i = vv M t a i) (ho : ∀ b, b ≠ a → mI M' b = mI M b ∧ mJ M' b = mJ M b ∧ mR M' b = mR M b)
    (hdg : decode cc pc = .ok (.putfield index, 3))
    (kk : ∀ (H1 : Heap) (locs1 : List Loc), Wd D cy A Y M' H1 → va_S A H0 H1 locs1 → W p l e R s m args below meth c H1 locs1 cells slots Q (F0 m (pc + 3) ls rest)) : W p l e R s m args below meth c H locs cells slots Q (F0 m pc ls (v :: .ref a :: rest)) := by
  obtain ⟨L, k, hL, hP, hD, ha, hq⟩ := Wd_get hW (a := a) (by omega)
  have hq' := hq
  rw [FF_o hk hci.1] at hq
  have hl : j < (objF M ci a).length := by rw [objF_len]; exact (List.getElem?_eq_some_iff.mp ht).1
  refine va_put hx hb hts hin ty0 hty hnm hown hK hP hD hS k hq hc j hj hlink (fun x h => by rw [← hsame]; exact h) hfin (hty j hj) hn hfit hl hdg (fun H1 locs1 hP1 hD1 hS1 => ?_)
  refine kk H1 locs1 (Wd_upd hL hD ha hq' ?_ (e := .inr (ci, (objF M ci a).set j v)) ?_ ?_ hP1 hD1) hS1
  · intro b i hbk
    by_cases hba : b = a
    · subst hba; omega
    · rw [(ho b hba).1]; exact hW.1 b i hbk
  · rw [FF_o hk hci.1, objF_set ht hv h2]
  · intro b hba
    obtain ⟨g2, g3, g4⟩ := ho b hba
    exact FF_of g2 g3 g4
theorem gm_putI {own ref C : String} {T : u_T} {N ci index : Nat} {Ts : List Cond} (hx : p.tables.exec = Jvm.exec) (hb : c.code = cc) (hts : ∀ w ∈ Ts, w.before args s = true) (hin : ∀ w ∈ u_ws C T N, w ∈ Ts) (ty0 : Nat → FieldType) (hty : ∀ k, k < N → parseFieldDescriptor (T k).2.2.1 = some (ty0 k)) (hnm : ∀ a, a < N → ∀ b, b < N → a ≠ b → (T a).2.1 ≠ (T b).2.1)
    (hown : s.vm.findClass own = some m.cls) (hK : va_K D vwCl (tysC cy) s) (hW : Wd D cy A Y M H) (hS : va_S A H0 H locs) {a : Nat}
    (hk : yK Y a = ci) (hci : ci < 100 ∧ ci ≠ 0) (hc : vwCl[ci]? = some (C, T, N)) {j : Nat} (hj : j < N) (ht : (fty ci)[j]? = some 0) (hlink : (Cond.fieldLink own index ref (T j).2.1 (T j).2.2.1).before args s = true) (hsame : (T j).1 = ref) (hfin : (T j).2.2.2 = false) {v : Int32} (hn : narrow (ty0 j) (.int v) = .int v) (hfit : fits (ty0 j) (.int v) = true)
    (hdg : decode cc pc = .ok (.putfield index, 3))
    (kk : ∀ (H1 : Heap) (locs1 : List Loc) (M1 : Mm), M1 = sI M a (m1 (mI M a) j v) → Wd D cy A Y M1 H1 → va_S A H0 H1 locs1 → W p l e R s m args below meth c H1 locs1 cells slots Q (F0 m (pc + 3) ls rest)) : W p l e R s m args below meth c H locs cells slots Q (F0 m pc ls (.int v :: .ref a :: rest)) := by
  refine gm_put hx hb hts hin ty0 hty hnm hown hK hW hS hk hci hc 0 hj ht hlink hsame hfin hn hfit (M' := sI M a (m1 (mI M a) j v)) ?_ ?_ ?_ hdg (fun H1 locs1 hW1 hS1 => kk H1 locs1 _ rfl hW1 hS1)
  · simp [vv, mI_sI_self, m1_self]
  · intro i t hij hi
    simp only [vv, mI_sI_self, m1_ne _ _ hij, mJ_sI, mR_sI]
  · intro b hb
    exact ⟨mI_sI_ne _ _ hb, rfl, rfl⟩
theorem gm_putJ {own ref C : String} {T : u_T} {N ci index : Nat} {Ts : List Cond} (hx : p.tables.exec = Jvm.exec) (hb : c.code = cc) (hts : ∀ w ∈ Ts, w.before args s = true) (hin : ∀ w ∈ u_ws C T N, w ∈ Ts) (ty0 : Nat → FieldType) (hty : ∀ k, k < N → parseFieldDescriptor (T k).2.2.1 = some (ty0 k)) (hnm : ∀ a, a < N → ∀ b, b < N → a ≠ b → (T a).2.1 ≠ (T b).2.1)
    (hown : s.vm.findClass own = some m.cls) (hK : va_K D vwCl (tysC cy) s) (hW : Wd D cy A Y M H) (hS : va_S A H0 H locs) {a : Nat}
    (hk : yK Y a = ci) (hci : ci < 100 ∧ ci ≠ 0) (hc : vwCl[ci]? = some (C, T, N)) {j : Nat} (hj : j < N) (ht : (fty ci)[j]? = some 1) (hlink : (Cond.fieldLink own index ref (T j).2.1 (T j).2.2.1).before args s = true) (hsame : (T j).1 = ref) (hfin : (T j).2.2.2 = false) {v : Int64} (hn : narrow (ty0 j) (.long v) = .long v) (hfit : fits (ty0 j) (.long v) = true)
    (hdg : decode cc pc = .ok (.putfield index, 3))
    (kk : ∀ (H1 : Heap) (locs1 : List Loc) (M1 : Mm), M1 = sJ M a (m1 (mJ M a) j v) → Wd D cy A Y M1 H1 → va_S A H0 H1 locs1 → W p l e R s m args below meth c H1 locs1 cells slots Q (F0 m (pc + 3) ls rest)) : W p l e R s m args below meth c H locs cells slots Q (F0 m pc ls (.long v :: .ref a :: rest)) := by
  refine gm_put hx hb hts hin ty0 hty hnm hown hK hW hS hk hci hc 1 hj ht hlink hsame hfin hn hfit (M' := sJ M a (m1 (mJ M a) j v)) ?_ ?_ ?_ hdg (fun H1 locs1 hW1 hS1 => kk H1 locs1 _ rfl hW1 hS1)
  · simp [vv, mJ_sJ_self, m1_self]
  · intro i t hij hi
    simp only [vv, mJ_sJ_self, m1_ne _ _ hij, mI_sJ, mR_sJ]
  · intro b hb
    exact ⟨rfl, mJ_sJ_ne _ _ hb, rfl⟩
theorem gm_putR {own ref C : String} {T : u_T} {N ci index : Nat} {Ts : List Cond} (hx : p.tables.exec = Jvm.exec) (hb : c.code = cc) (hts : ∀ w ∈ Ts, w.before args s = true) (hin : ∀ w ∈ u_ws C T N, w ∈ Ts) (ty0 : Nat → FieldType) (hty : ∀ k, k < N → parseFieldDescriptor (T k).2.2.1 = some (ty0 k)) (hnm : ∀ a, a < N → ∀ b, b < N → a ≠ b → (T a).2.1 ≠ (T b).2.1)
    (hown : s.vm.findClass own = some m.cls) (hK : va_K D vwCl (tysC cy) s) (hW : Wd D cy A Y M H) (hS : va_S A H0 H locs) {a : Nat}
    (hk : yK Y a = ci) (hci : ci < 100 ∧ ci ≠ 0) (hc : vwCl[ci]? = some (C, T, N)) {j : Nat} (hj : j < N) (ht : (fty ci)[j]? = some 2) (hlink : (Cond.fieldLink own index ref (T j).2.1 (T j).2.2.1).before args s = true) (hsame : (T j).1 = ref) (hfin : (T j).2.2.2 = false) {v : Nat} (hn : narrow (ty0 j) (.ref v) = .ref v) (hfit : fits (ty0 j) (.ref v) = true)
    (hdg : decode cc pc = .ok (.putfield index, 3))
    (kk : ∀ (H1 : Heap) (locs1 : List Loc) (M1 : Mm), M1 = sR M a (m1 (mR M a) j (some v)) → Wd D cy A Y M1 H1 → va_S A H0 H1 locs1 → W p l e R s m args below meth c H1 locs1 cells slots Q (F0 m (pc + 3) ls rest)) : W p l e R s m args below meth c H locs cells slots Q (F0 m pc ls (.ref v :: .ref a :: rest)) := by
  refine gm_put hx hb hts hin ty0 hty hnm hown hK hW hS hk hci hc 2 hj ht hlink hsame hfin hn hfit (M' := sR M a (m1 (mR M a) j (some v))) ?_ ?_ ?_ hdg (fun H1 locs1 hW1 hS1 => kk H1 locs1 _ rfl hW1 hS1)
  · simp [vv, mR_sR_self, m1_self, va_rf]
  · intro i t hij hi
    simp only [vv, mR_sR_self, m1_ne _ _ hij, mI_sR, mJ_sR]
  · intro b hb
    exact ⟨rfl, rfl, mR_sR_ne _ _ hb⟩
/-! arrays -/
theorem gm_iald (hx : p.tables.exec = Jvm.exec) (hb : c.code = cc) (hK : va_K D vwCl (tysC cy) s) (hW : Wd D cy A Y M H) {a : Nat} (hk : yK Y a = 101) {i : Int32} (hin : vp_in i (yN Y a)) (hdg : decode cc pc = .ok (.iaload, 1))
    (kk : W p l e R s m args below meth c H locs cells slots Q (F0 m (pc + 1) ls (.int (mI M a i.toNatClampNeg) :: rest))) : W p l e R s m args below meth c H locs cells slots Q (F0 m pc ls (.int i :: .ref a :: rest)) := by
  obtain ⟨L, k, hL, hP, hD, ha, hq⟩ := Wd_get hW (a := a) (by omega)
  rw [FF_i hk] at hq
  exact va_iald hx hb hK hP k 1 hq rfl hin hdg kk
theorem gm_bald (hx : p.tables.exec = Jvm.exec) (hb : c.code = cc) (hK : va_K D vwCl (tysC cy) s) (hW : Wd D cy A Y M H) {a : Nat} (hk : yK Y a = 100) {i : Int32} (hin : vp_in i (yN Y a)) (hdg : decode cc pc = .ok (.baload, 1))
    (kk : W p l e R s m args below meth c H locs cells slots Q (F0 m (pc + 1) ls (.int (mI M a i.toNatClampNeg) :: rest))) : W p l e R s m args below meth c H locs cells slots Q (F0 m pc ls (.int i :: .ref a :: rest)) := by
  obtain ⟨L, k, hL, hP, hD, ha, hq⟩ := Wd_get hW (a := a) (by omega)
  rw [FF_b hk] at hq
  exact va_bald hx hb hK hP k 0 hq rfl hin hdg kk
theorem gm_zald (hx : p.tables.exec = Jvm.exec) (hb : c.code = cc) (hK : va_K D vwCl (tysC cy) s) (hW : Wd D cy A Y M H) {a : Nat} (hk : yK Y a = 103) {i : Int32} (hin : vp_in i (yN Y a)) (hdg : decode cc pc = .ok (.baload, 1))
    (kk : W p l e R s m args below meth c H locs cells slots Q (F0 m (pc + 1) ls (.int (mI M a i.toNatClampNeg) :: rest))) : W p l e R s m args below meth c H locs cells slots Q (F0 m pc ls (.int i :: .ref a :: rest)) := by
  obtain ⟨L, k, hL, hP, hD, ha, hq⟩ := Wd_get hW (a := a) (by omega)
  rw [FF_z hk] at hq
  exact va_zald hx hb hK hP k 3 hq rfl hin hdg kk
theorem gm_lald (hx : p.tables.exec = Jvm.exec) (hb : c.code = cc) (hK : va_K D vwCl (tysC cy) s) (hW : Wd D cy A Y M H) {a : Nat} (hk : yK Y a = 102) {i : Int32} (hin : vp_in i (yN Y a)) (hdg : decode cc pc = .ok (.laload, 1))
    (kk : W p l e R s m args below meth c H locs cells slots Q (F0 m (pc + 1) ls (.long (mJ M a i.toNatClampNeg) :: rest))) : W p l e R s m args below meth c H locs cells slots Q (F0 m pc ls (.int i :: .ref a :: rest)) := by
  obtain ⟨L, k, hL, hP, hD, ha, hq⟩ := Wd_get hW (a := a) (by omega)
  rw [FF_l hk] at hq
  exact va_lald hx hb hK hP k 2 hq rfl hin hdg kk
theorem gm_aald (hx : p.tables.exec = Jvm.exec) (hb : c.code = cc) (hK : va_K D vwCl (tysC cy) s) (hW : Wd D cy A Y M H) {a b : Nat} (hk : yK Y a = 104) {i : Int32} (hin : vp_in i (yN Y a)) (hr : mR M a i.toNatClampNeg = some b) (hdg : decode cc pc = .ok (.aaload, 1))
    (kk : W p l e R s m args below meth c H locs cells slots Q (F0 m (pc + 1) ls (.ref b :: rest))) : W p l e R s m args below meth c H locs cells slots Q (F0 m pc ls (.int i :: .ref a :: rest)) := by
  obtain ⟨L, k, hL, hP, hD, ha, hq⟩ := Wd_get hW (a := a) (by omega)
  rw [FF_r hk] at hq
  exact va_aldq hx hb hK hP k 4 hq rfl hin hdg (by rw [hr]; exact kk)
theorem gm_iast (hx : p.tables.exec = Jvm.exec) (hb : c.code = cc) (hK : va_K D vwCl (tysC cy) s) (hW : Wd D cy A Y M H) (hS : va_S A H0 H locs) {a : Nat} (hk : yK Y a = 101) {i x : Int32} (hin : vp_in i (yN Y a)) (hdg : decode cc pc = .ok (.iastore, 1))
    (kk : ∀ (H1 : Heap) (locs1 : List Loc) (M1 : Mm), M1 = sI M a (m1 (mI M a) i.toNatClampNeg x) → Wd D cy A Y M1 H1 → va_S A H0 H1 locs1 → W p l e R s m args below meth c H1 locs1 cells slots Q (F0 m (pc + 1) ls rest)) : W p l e R s m args below meth c H locs cells slots Q (F0 m pc ls (.int x :: .int i :: .ref a :: rest)) := by
  obtain ⟨L, k, hL, hP, hD, ha, hq⟩ := Wd_get hW (a := a) (by omega)
  have hq' := hq
  rw [FF_i hk] at hq
  refine va_iast hx hb hK hP hD hS k 1 hq rfl hin hdg (fun H1 locs1 hP1 hD1 hS1 => kk H1 locs1 _ rfl (Wd_upd hL hD ha hq' ?_ (e := .inl (cy.2.1, yN Y a, .inl (m1 (mI M a) i.toNatClampNeg x))) ?_ ?_ hP1 hD1) hS1)
  · intro b j hbk
    by_cases hba : b = a
    · subst hba; omega
    · rw [mI_sI_ne _ _ hba]; exact hW.1 b j hbk
  · rw [FF_i hk, mI_sI_self]
  · intro b hba
    exact FF_of (mI_sI_ne _ _ hba) rfl rfl
theorem vp_fit_b (x : Int32) : fits .byte (.int (vp_nar .byte x)) = true := by rw [vp_nar_byte]; exact pk_fb x
theorem gm_bast (hx : p.tables.exec = Jvm.exec) (hb : c.code = cc) (hK : va_K D vwCl (tysC cy) s) (hW : Wd D cy A Y M H) (hS : va_S A H0 H locs) {a : Nat} (hk : yK Y a = 100) {i x : Int32} (hin : vp_in i (yN Y a)) (hdg : decode cc pc = .ok (.bastore, 1))
    (kk : ∀ (H1 : Heap) (locs1 : List Loc) (M1 : Mm), M1 = sI M a (m1 (mI M a) i.toNatClampNeg x.toInt8.toInt32) → Wd D cy A Y M1 H1 → va_S A H0 H1 locs1 → W p l e R s m args below meth c H1 locs1 cells slots Q (F0 m (pc + 1) ls rest)) : W p l e R s m args below meth c H locs cells slots Q (F0 m pc ls (.int x :: .int i :: .ref a :: rest)) := by
  obtain ⟨L, k, hL, hP, hD, ha, hq⟩ := Wd_get hW (a := a) (by omega)
  have hq' := hq
  rw [FF_b hk] at hq
  refine va_bast hx hb hK hP hD hS k 0 hq rfl hin hdg (fun H1 locs1 hP1 hD1 hS1 => kk H1 locs1 _ rfl (Wd_upd hL hD ha hq' ?_ (e := .inl (cy.1, yN Y a, .inl (upd (mI M a) i.toNatClampNeg (vp_nar .byte x)))) ?_ ?_ hP1 hD1) hS1)
  · intro b j hbk
    by_cases hba : b = a
    · subst hba; rw [mI_sI_self]
      by_cases hj : j = i.toNatClampNeg
      · subst hj; rw [m1_self]; exact pk_fb x
      · rw [m1_ne _ _ hj]; exact hW.1 b j hbk
    · rw [mI_sI_ne _ _ hba]; exact hW.1 b j hbk
  · rw [FF_b hk, mI_sI_self, vp_nar_byte]; rfl
  · intro b hba
    exact FF_of (mI_sI_ne _ _ hba) rfl rfl
theorem gm_zast (hx : p.tables.exec = Jvm.exec) (hb : c.code = cc) (hK : va_K D vwCl (tysC cy) s) (hW : Wd D cy A Y M H) (hS : va_S A H0 H locs) {a : Nat} (hk : yK Y a = 103) {i x : Int32} (hin : vp_in i (yN Y a)) (hz : vp_nar .boolean x = x) (hdg : decode cc pc = .ok (.bastore, 1))
    (kk : ∀ (H1 : Heap) (locs1 : List Loc) (M1 : Mm), M1 = sI M a (m1 (mI M a) i.toNatClampNeg x) → Wd D cy A Y M1 H1 → va_S A H0 H1 locs1 → W p l e R s m args below meth c H1 locs1 cells slots Q (F0 m (pc + 1) ls rest)) : W p l e R s m args below meth c H locs cells slots Q (F0 m pc ls (.int x :: .int i :: .ref a :: rest)) := by
  obtain ⟨L, k, hL, hP, hD, ha, hq⟩ := Wd_get hW (a := a) (by omega)
  have hq' := hq
  rw [FF_z hk] at hq
  refine va_zast hx hb hK hP hD hS k 3 hq rfl hin hdg (fun H1 locs1 hP1 hD1 hS1 => kk H1 locs1 _ rfl (Wd_upd hL hD ha hq' ?_ (e := .inl (cy.2.2.2.1, yN Y a, .inl (upd (mI M a) i.toNatClampNeg (vp_nar .boolean x)))) ?_ ?_ hP1 hD1) hS1)
  · intro b j hbk
    by_cases hba : b = a
    · subst hba; omega
    · rw [mI_sI_ne _ _ hba]; exact hW.1 b j hbk
  · rw [FF_z hk, mI_sI_self, hz]; rfl
  · intro b hba
    exact FF_of (mI_sI_ne _ _ hba) rfl rfl
theorem gm_last (hx : p.tables.exec = Jvm.exec) (hb : c.code = cc) (hK : va_K D vwCl (tysC cy) s) (hW : Wd D cy A Y M H) (hS : va_S A H0 H locs) {a : Nat} (hk : yK Y a = 102) {i : Int32} {x : Int64} (hin : vp_in i (yN Y a)) (hdg : decode cc pc = .ok (.lastore, 1))
    (kk : ∀ (H1 : Heap) (locs1 : List Loc) (M1 : Mm), M1 = sJ M a (m1 (mJ M a) i.toNatClampNeg x) → Wd D cy A Y M1 H1 → va_S A H0 H1 locs1 → W p l e R s m args below meth c H1 locs1 cells slots Q (F0 m (pc + 1) ls rest)) : W p l e R s m args below meth c H locs cells slots Q (F0 m pc ls (.long x :: .int i :: .ref a :: rest)) := by
  obtain ⟨L, k, hL, hP, hD, ha, hq⟩ := Wd_get hW (a := a) (by omega)
  have hq' := hq
  rw [FF_l hk] at hq
  refine va_last hx hb hK hP hD hS k 2 hq rfl hin hdg (fun H1 locs1 hP1 hD1 hS1 => kk H1 locs1 _ rfl (Wd_upd hL hD ha hq' ?_ (e := .inl (cy.2.2.1, yN Y a, .inr (.inl (vp_updL (mJ M a) i.toNatClampNeg x)))) ?_ ?_ hP1 hD1) hS1)
  · intro b j hbk
    exact hW.1 b j hbk
  · rw [FF_l hk, mJ_sJ_self]; rfl
  · intro b hba
    exact FF_of rfl (mJ_sJ_ne _ _ hba) rfl
theorem gm_alen (hx : p.tables.exec = Jvm.exec) (hb : c.code = cc) (hK : va_K D vwCl (tysC cy) s) (hW : Wd D cy A Y M H) {a : Nat} (hk : 100 ≤ yK Y a ∧ yK Y a ≤ 104) (hdg : decode cc pc = .ok (.arraylength, 1))
    (kk : W p l e R s m args below meth c H locs cells slots Q (F0 m (pc + 1) ls (.int (nI (yN Y a)) :: rest))) : W p l e R s m args below meth c H locs cells slots Q (F0 m pc ls (.ref a :: rest)) := by
  obtain ⟨L, k, hL, hP, hD, ha, hq⟩ := Wd_get hW (a := a) (by omega)
  rcases (show yK Y a = 100 ∨ yK Y a = 101 ∨ yK Y a = 102 ∨ yK Y a = 103 ∨ yK Y a = 104 by omega) with h | h | h | h | h
  · rw [FF_b h] at hq; exact va_alen hx hb hK hP k 0 hq rfl rfl hdg kk
  · rw [FF_i h] at hq; exact va_alen hx hb hK hP k 1 hq rfl rfl hdg kk
  · rw [FF_l h] at hq; exact va_alen hx hb hK hP k 2 hq rfl rfl hdg kk
  · rw [FF_z h] at hq; exact va_alen hx hb hK hP k 3 hq rfl rfl hdg kk
  · rw [FF_r h] at hq; exact va_alen hx hb hK hP k 4 hq rfl rfl hdg kk
end GMR
