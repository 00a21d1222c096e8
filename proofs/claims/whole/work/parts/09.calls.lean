/-! calls: one list of words for every method (its own code ahead of TT), one world for caller and callee -/
theorem good_S {own : String} {idx : Nat} {y : MethodName} {b : ByteArray} {n : Nat} {r : Option FieldType} (h1 : Cond.methodLink own idx y ∈ TT) (h2 : Cond.static y ∈ TT) (h3 : Cond.initialized y.cls ∈ TT) (h4 : Cond.code y b n r ∈ TT) : GoodIn TT (va_wsS own idx y (.code y b n r :: TT)) := by
  intro w hw
  simp only [va_wsS, List.mem_append, List.mem_cons, List.not_mem_nil, or_false] at hw
  rcases hw with (rfl | rfl | rfl) | rfl | h
  · exact TT_good _ h1
  · exact TT_good _ h2
  · exact TT_good _ h3
  · exact TT_good _ h4
  · exact TT_good _ h
theorem good_V {own C : String} {idx : Nat} {y : MethodName} {b : ByteArray} {n : Nat} {r : Option FieldType} (h1 : Cond.methodLink own idx y ∈ TT) (h2 : Cond.instanceMethod y ∈ TT) (h5 : Cond.selects C y y ∈ TT) (h3 : Cond.initialized C ∈ TT) (h4 : Cond.code y b n r ∈ TT) : GoodIn TT (wsV own idx C y (.code y b n r :: TT)) := by
  intro w hw
  simp only [wsV, List.mem_append, List.mem_cons, List.not_mem_nil, or_false] at hw
  rcases hw with (rfl | rfl | rfl | rfl) | rfl | h
  · exact TT_good _ h1
  · exact TT_good _ h2
  · exact TT_good _ h5
  · exact TT_good _ h3
  · exact TT_good _ h4
  · exact TT_good _ h
theorem good_C {y : MethodName} {b : ByteArray} {n : Nat} {r : Option FieldType} (h4 : Cond.code y b n r ∈ TT) : GoodIn TT (.code y b n r :: TT) := by
  intro w hw
  rcases List.mem_cons.mp hw with rfl | h
  · exact TT_good _ h4
  · exact TT_good _ h
theorem lg_lt {x y : Int64} : lg_cmp x y < 0 ↔ x < y := by
  unfold lg_cmp
  split
  · rename_i h
    exact ⟨fun z => absurd z (by decide), fun z => absurd (Int64.lt_trans z h) Int64.lt_irrefl⟩
  · split
    · rename_i h; subst h; exact ⟨fun z => absurd z (by decide), fun z => absurd z Int64.lt_irrefl⟩
    · rename_i h1 h2
      refine ⟨fun _ => ?_, fun _ => by decide⟩
      exact Int64.lt_of_le_of_ne (Int64.not_lt.mp h1) h2
theorem lg_eq {x y : Int64} : lg_cmp x y = 0 ↔ x = y := by
  unfold lg_cmp
  split
  · rename_i h
    exact ⟨fun z => absurd z (by decide), fun z => by subst z; exact absurd h Int64.lt_irrefl⟩
  · split
    · rename_i h; exact ⟨fun _ => h, fun _ => rfl⟩
    · rename_i h1 h2; exact ⟨fun z => absurd z (by decide), fun z => absurd z h2⟩
theorem lg_gt {x y : Int64} : 0 < lg_cmp x y ↔ y < x := by
  unfold lg_cmp
  split
  · rename_i h; exact ⟨fun _ => h, fun _ => by decide⟩
  · split
    · rename_i h1 h2; exact ⟨fun z => absurd z (by decide), fun z => absurd z h1⟩
    · rename_i h1 h2; exact ⟨fun z => absurd z (by decide), fun z => absurd z h1⟩
theorem lg_ge {x y : Int64} : 0 ≤ lg_cmp x y ↔ y ≤ x := by
  rw [← Int32.not_lt, lg_lt, Int64.not_lt]
theorem lg_le {x y : Int64} : lg_cmp x y ≤ 0 ↔ x ≤ y := by
  rw [← Int32.not_lt, lg_gt, Int64.not_lt]
/-- a truth value -/
def bz (v : Int32) : Prop := v = 0 ∨ v = 1
theorem bz_n {v : Int32} (h : bz v) : narrow .boolean (.int v) = .int v := by rcases h with rfl | rfl <;> rfl
theorem bz_f {v : Int32} (h : bz v) : fits .boolean (.int v) = true := by rcases h with rfl | rfl <;> rfl
theorem bz_v {v : Int32} (h : bz v) : vp_nar .boolean v = v := by rcases h with rfl | rfl <;> rfl
def PcG (D : va_G) (cy : Cy) (tq : Nat) (av : List Value) (sz : Nat) (Y : Ly) (M : Mm) (G : Prop) : Array Value → State → Prop :=
  va_Pc av (fun U => U.heap.size = sz ∧ Wd D cy (fun _ => True) Y M U.heap ∧ va_K D vwCl (tysC cy) U ∧ CX tq (Am Y sz) U U.heap ∧ G)
theorem PcG_blind {D : va_G} {cy : Cy} {tq : Nat} {av : List Value} {sz : Nat} {Y : Ly} {M : Mm} {G : Prop} : FrameBlind (PcG D cy tq av sz Y M G) := by
  intro a U g mk h
  obtain ⟨h0, h1, h2, h3, h4, h5⟩ := h
  exact ⟨h0, h1, h2, va_K.moved (u := U) (U := U.calling g mk a) (Vm.Alike.refl U.vm) h3, CX.same (s := U) (U := U.calling g mk a) rfl h4, h5⟩
abbrev BG (D : va_G) (cy : Cy) (A : Nat → Prop) (Y : Ly) : Mm → State → Prop := fun M' t => Wd D cy A Y M' t.heap
section GMC
variable {p : Program} {l : Launch} {e : Env} {R : Room} {s : State} {m : MethodId} {args : Array Value} {below : List Frame} {meth : Method} {c : Code} {H : Heap} {locs : List Loc} {cells slots mc ms : Nat} {Q : State → Prop}
variable {pc : Nat} {ls : Array Slot} {rest st0 : List Value} {cc : ByteArray} {D : va_G} {cy : Cy} {A : Nat → Prop} {Y : Ly} {M : Mm} {tq : Nat}
theorem Am_sub (hW : Wd D cy A Y M H) (hS : va_S A s.heap H locs) (hA : ∀ q, s.heap.size ≤ q → A q) : ∀ q, Am Y H.size q → A q := by
  intro q h
  rcases h with h | h
  · exact Wd_in hW h
  · exact hA q (Nat.le_trans hS.1 h)
theorem CX_at {U : State} (hW : Wd D cy A Y M H) (hC : CX tq A s s.heap) (hS : va_S A s.heap H locs) (hA : ∀ q, s.heap.size ≤ q → A q) (hU : U.heap = H) (hWm : s.WarmedH U.vm) : CX tq (Am Y H.size) U U.heap := by
  rw [hU]
  exact ((hC.kept hS.2.1).narrow (Am_sub hW hS hA)).warm hWm
theorem gm_preS {As : List Value} {G : Prop} (hK : va_K D vwCl (tysC cy) s) (hW : Wd D cy A Y M H) (hC : CX tq A s s.heap) (hS : va_S A s.heap H locs) (hA : ∀ q, s.heap.size ≤ q → A q) (hG : G) : PreS s H (PcG D cy tq As H.size Y M G) As :=
  ⟨PcG_blind, fun U hU hWm => ⟨rfl, by rw [hU], by rw [hU]; exact Wd_true hW (fun _ _ => trivial), va_K.moved hWm.alike hK, CX_at hW hC hS hA hU hWm, hG⟩⟩
theorem gm_preV {As : List Value} {G : Prop} {b ci : Nat} {q : vw_C} {C : String} (hK : va_K D vwCl (tysC cy) s) (hW : Wd D cy A Y M H) (hC : CX tq A s s.heap) (hS : va_S A s.heap H locs) (hA : ∀ q, s.heap.size ≤ q → A q) (hk : yK Y b = ci) (hci : ci < 100 ∧ ci ≠ 0) (hc : vwCl[ci]? = some q) (hq : q.1 = C) (hG : G) : PreV s H C b (PcG D cy tq (.ref b :: As) H.size Y M G) As := by
  obtain ⟨L, k, hL, hP, hD, ha, hp⟩ := Wd_get hW (a := b) (by omega)
  rw [FF_o hk hci.1] at hp
  subst hq
  exact ⟨PcG_blind, va_recv hK hP hc hp, fun U hU hWm => ⟨rfl, by rw [hU], by rw [hU]; exact Wd_true hW (fun _ _ => trivial), va_K.moved hWm.alike hK, CX_at hW hC hS hA hU hWm, hG⟩⟩
theorem gm_ci {Kn : Int32 → Mm → Prop} {a : Array Value} (hr : va_Run p l e R s m args below meth c H locs cells slots mc ms (F0 m pc ls st0) rest (va_Qi Kn (BG D cy (Am Y H.size) Y) (Am Y H.size) a) (Am Y H.size)) (hW : Wd D cy A Y M H) (hS : va_S A s.heap H locs) (hA : ∀ q, s.heap.size ≤ q → A q)
    (kk : ∀ (r : Int32) (M' : Mm) (H1 : Heap) (locs1 : List Loc), Wd D cy A Y M' H1 → va_S A s.heap H1 locs1 → Kn r M' → W p l e R s m args below meth c H1 locs1 (cells + mc) (slots + ms) Q (F0 m (pc + 3) ls (.int r :: rest))) : W p l e R s m args below meth c H locs cells slots Q (F0 m pc ls st0) :=
  have hF := Am_sub hW hS hA
  va_calli hr hS (fun q _ h => hF q h) hF (fun r u t H1 locs1 ht hvm hp hB hz hk hS1 => kk r u H1 locs1 (by rw [← ht]; exact Wd_true hB hF) hS1 hp)
theorem gm_cl {Kn : Int64 → Mm → Prop} {a : Array Value} (hr : va_Run p l e R s m args below meth c H locs cells slots mc ms (F0 m pc ls st0) rest (va_Ql Kn (BG D cy (Am Y H.size) Y) (Am Y H.size) a) (Am Y H.size)) (hW : Wd D cy A Y M H) (hS : va_S A s.heap H locs) (hA : ∀ q, s.heap.size ≤ q → A q)
    (kk : ∀ (r : Int64) (M' : Mm) (H1 : Heap) (locs1 : List Loc), Wd D cy A Y M' H1 → va_S A s.heap H1 locs1 → Kn r M' → W p l e R s m args below meth c H1 locs1 (cells + mc) (slots + ms) Q (F0 m (pc + 3) ls (.long r :: rest))) : W p l e R s m args below meth c H locs cells slots Q (F0 m pc ls st0) :=
  have hF := Am_sub hW hS hA
  va_calll hr hS (fun q _ h => hF q h) hF (fun r u t H1 locs1 ht hvm hp hB hz hk hS1 => kk r u H1 locs1 (by rw [← ht]; exact Wd_true hB hF) hS1 hp)
theorem gm_cv {Kn : Mm → Prop} {a : Array Value} (hr : va_Run p l e R s m args below meth c H locs cells slots mc ms (F0 m pc ls st0) rest (va_Qv Kn (BG D cy (Am Y H.size) Y) (Am Y H.size) a) (Am Y H.size)) (hW : Wd D cy A Y M H) (hS : va_S A s.heap H locs) (hA : ∀ q, s.heap.size ≤ q → A q)
    (kk : ∀ (M' : Mm) (H1 : Heap) (locs1 : List Loc), Wd D cy A Y M' H1 → va_S A s.heap H1 locs1 → Kn M' → W p l e R s m args below meth c H1 locs1 (cells + mc) (slots + ms) Q (F0 m (pc + 3) ls rest)) : W p l e R s m args below meth c H locs cells slots Q (F0 m pc ls st0) :=
  have hF := Am_sub hW hS hA
  va_callv hr hS (fun q _ h => hF q h) hF (fun u t H1 locs1 ht hvm hp hB hz hk hS1 => kk u H1 locs1 (by rw [← ht]; exact Wd_true hB hF) hS1 hp)
/-- an answer that is a reference -/
abbrev BR (D : va_G) (cy : Cy) (A : Nat → Prop) (Y : Ly) (Kn : Nat → Mm → Prop) : Mm → Nat → State → Prop := fun M' r t => Wd D cy A Y M' t.heap ∧ Kn r M'
theorem gm_cr {Kn : Nat → Mm → Prop} {a : Array Value} (hr : va_Run p l e R s m args below meth c H locs cells slots mc ms (F0 m pc ls st0) rest (va_Qr (fun _ => True) (BR D cy (Am Y H.size) Y Kn) (Am Y H.size) a) (Am Y H.size)) (hW : Wd D cy A Y M H) (hS : va_S A s.heap H locs) (hA : ∀ q, s.heap.size ≤ q → A q)
    (kk : ∀ (r : Nat) (M' : Mm) (H1 : Heap) (locs1 : List Loc), Wd D cy A Y M' H1 → va_S A s.heap H1 locs1 → Kn r M' → W p l e R s m args below meth c H1 locs1 (cells + mc) (slots + ms) Q (F0 m (pc + 3) ls (.ref r :: rest))) : W p l e R s m args below meth c H locs cells slots Q (F0 m pc ls st0) :=
  have hF := Am_sub hW hS hA
  va_callr hr hS (fun q _ h => hF q h) hF (fun u r t H1 locs1 ht hvm hp hB hz hk hS1 => kk r u H1 locs1 (by rw [← ht]; exact Wd_true hB.1 hF) hS1 hB.2)
/-! ends -/
theorem gm_iret {Kn : Int32 → Mm → Prop} {v : Int32} (hx : p.tables.exec = Jvm.exec) (hb : c.code = cc) (hr : meth.sig.returnType = some .int) (hlocks : meth.locks = false) (hW : Wd D cy A Y M H) (hS : va_S A s.heap H locs) (hf : Kn v M) (hdg : decode cc pc = .ok (.ireturn, 1)) :
    W p l e R s m args below meth c H locs cells slots (MQ below (va_Qi Kn (BG D cy A Y) A) args s cells slots A) (F0 m pc ls [.int v]) :=
  W.iret hx hb hr (fun t ht _ => ⟨⟨v, M, rfl, hf, by show Wd _ _ _ _ _ t.heap; rw [ht]; exact hW⟩, hS.F ht⟩) hS.2.2 hdg hlocks
theorem gm_zret {Kn : Int32 → Mm → Prop} {v : Int32} (hx : p.tables.exec = Jvm.exec) (hb : c.code = cc) (hr : meth.sig.returnType = some .boolean) (hlocks : meth.locks = false) (hW : Wd D cy A Y M H) (hS : va_S A s.heap H locs) (hz : bz v) (hf : Kn v M) (hdg : decode cc pc = .ok (.ireturn, 1)) :
    W p l e R s m args below meth c H locs cells slots (MQ below (va_Qi Kn (BG D cy A Y) A) args s cells slots A) (F0 m pc ls [.int v]) :=
  W.zret hx hb hr (bz_n hz) (fun t ht _ => ⟨⟨v, M, rfl, hf, by show Wd _ _ _ _ _ t.heap; rw [ht]; exact hW⟩, hS.F ht⟩) hS.2.2 hdg hlocks
theorem gm_lret {Kn : Int64 → Mm → Prop} {v : Int64} (hx : p.tables.exec = Jvm.exec) (hb : c.code = cc) (hr : meth.sig.returnType = some .long) (hlocks : meth.locks = false) (hW : Wd D cy A Y M H) (hS : va_S A s.heap H locs) (hf : Kn v M) (hdg : decode cc pc = .ok (.lreturn, 1)) :
    W p l e R s m args below meth c H locs cells slots (MQ below (va_Ql Kn (BG D cy A Y) A) args s cells slots A) (F0 m pc ls [.long v]) :=
  W.lret hx hb hr (fun t ht _ => ⟨⟨v, M, rfl, hf, by show Wd _ _ _ _ _ t.heap; rw [ht]; exact hW⟩, hS.F ht⟩) hS.2.2 hdg hlocks
theorem gm_vret {Kn : Mm → Prop} (hx : p.tables.exec = Jvm.exec) (hb : c.code = cc) (hr : meth.sig.returnType = none) (hlocks : meth.locks = false) (hW : Wd D cy A Y M H) (hS : va_S A s.heap H locs) (hf : Kn M) (hdg : decode cc pc = .ok (.return_, 1)) :
    W p l e R s m args below meth c H locs cells slots (MQ below (va_Qv Kn (BG D cy A Y) A) args s cells slots A) (F0 m pc ls []) :=
  W.vret hx hb hr (fun t ht _ => ⟨⟨M, rfl, hf, by show Wd _ _ _ _ _ t.heap; rw [ht]; exact hW⟩, hS.F ht⟩) hS.2.2 hdg hlocks
theorem gm_aret {Kn : Nat → Mm → Prop} {v : Nat} {rt : FieldType} (hx : p.tables.exec = Jvm.exec) (hb : c.code = cc) (hr : meth.sig.returnType = some rt) (hrt : (∃ n, rt = .object n) ∨ ∃ t, rt = .array t) (hlocks : meth.locks = false) (hW : Wd D cy A Y M H) (hS : va_S A s.heap H locs) (hf : Kn v M) (hdg : decode cc pc = .ok (.areturn, 1)) :
    W p l e R s m args below meth c H locs cells slots (MQ below (va_Qr (fun _ => True) (BR D cy A Y Kn) A) args s cells slots A) (F0 m pc ls [.ref v]) :=
  W.aret hx hb hr hrt (Or.inr ⟨v, rfl⟩) (fun t ht _ => ⟨⟨M, v, rfl, trivial, ⟨by rw [ht]; exact hW, hf⟩⟩, hS.F ht⟩) hS.2.2 hdg hlocks
/-! System.arraycopy, of bytes and of ints -/
theorem nfw_le : nativeFrameWords "java/lang/System" "arraycopy" 5 + 11 ≤ 60 := by decide +kernel
theorem gm_copyb (hx : p.tables.exec = Jvm.exec) (hb : c.code = cc) (hml : c.maxLocals = ls.size) {own : String} {index : Nat} (hown : s.vm.findClass own = some m.cls) (hlink : (Cond.methodLink own index arraycopyName).before args s = true) (hnat : (Cond.native arraycopyName).before args s = true) (hstat : (Cond.static arraycopyName).before args s = true) (hini : (Cond.initialized "java/lang/System").before args s = true)
    (hK : va_K D vwCl (tysC cy) s) (hW : Wd D cy A Y M H) (hS : va_S A s.heap H locs) {a0 a : Nat} (hk0 : yK Y a0 = 100) (hk1 : yK Y a = 100) {sp dp n : Int32} (h : (¬ sp < 0) ∧ (¬ dp < 0) ∧ (¬ n < 0) ∧ sp.toNatClampNeg + n.toNatClampNeg ≤ yN Y a0 ∧ dp.toNatClampNeg + n.toNatClampNeg ≤ yN Y a)
    (hframes : 1 ≤ R.frames) (hlocals : (rest.map fun v => v.category).sum + 60 ≤ R.locals) (hdg : decode cc pc = .ok (.invokestatic index, 3))
    (kk : ∀ (H1 : Heap) (locs1 : List Loc) (M1 : Mm), M1 = sI M a (va_cpy (mI M a0) (mI M a) sp.toNatClampNeg dp.toNatClampNeg n.toNatClampNeg) → Wd D cy A Y M1 H1 → va_S A s.heap H1 locs1 → W p l e R s m args below meth c H1 locs1 cells slots Q (F0 m (pc + 3) ls rest)) : W p l e R s m args below meth c H locs cells slots Q (F0 m pc ls (.int n :: .int dp :: .ref a :: .int sp :: .ref a0 :: rest)) := by
  obtain ⟨L, k, hL, hP, hD, ha, hq⟩ := Wd_get hW (a := a) (by omega)
  obtain ⟨k0, hq0⟩ := va_pl_get (X := []) (f := FF cy Y M) ((hL a0).2 (by omega))
  simp only [List.nil_append] at hq0
  have hq' := hq
  rw [FF_b hk1] at hq
  rw [FF_b hk0] at hq0
  refine va_copyi hx hb hml hown hlink hnat hstat hini hK hP hD hS k0 k 0 0 hq0 hq rfl rfl rfl h.1 h.2.1 h.2.2.1 h.2.2.2.1 h.2.2.2.2 (fun i _ => hW.1 a0 _ hk0) hframes (Nat.le_trans (Nat.add_le_add_left nfw_le _) hlocals) hdg (fun H1 locs1 hP1 hD1 hS1 => kk H1 locs1 _ rfl (Wd_upd hL hD ha hq' ?_ (e := .inl (cy.1, yN Y a, .inl (va_cpy (mI M a0) (mI M a) sp.toNatClampNeg dp.toNatClampNeg n.toNatClampNeg))) ?_ ?_ hP1 hD1) hS1)
  · intro b j hbk
    by_cases hba : b = a
    · subst hba; rw [mI_sI_self]
      unfold va_cpy
      split
      · exact hW.1 a0 _ hk0
      · exact hW.1 b j hbk
    · rw [mI_sI_ne _ _ hba]; exact hW.1 b j hbk
  · rw [FF_b hk1, mI_sI_self]
  · intro b hba
    exact FF_of (mI_sI_ne _ _ hba) rfl rfl
theorem gm_copyi (hx : p.tables.exec = Jvm.exec) (hb : c.code = cc) (hml : c.maxLocals = ls.size) {own : String} {index : Nat} (hown : s.vm.findClass own = some m.cls) (hlink : (Cond.methodLink own index arraycopyName).before args s = true) (hnat : (Cond.native arraycopyName).before args s = true) (hstat : (Cond.static arraycopyName).before args s = true) (hini : (Cond.initialized "java/lang/System").before args s = true)
    (hK : va_K D vwCl (tysC cy) s) (hW : Wd D cy A Y M H) (hS : va_S A s.heap H locs) {a0 a : Nat} (hk0 : yK Y a0 = 101) (hk1 : yK Y a = 101) {sp dp n : Int32} (h : (¬ sp < 0) ∧ (¬ dp < 0) ∧ (¬ n < 0) ∧ sp.toNatClampNeg + n.toNatClampNeg ≤ yN Y a0 ∧ dp.toNatClampNeg + n.toNatClampNeg ≤ yN Y a)
    (hframes : 1 ≤ R.frames) (hlocals : (rest.map fun v => v.category).sum + 60 ≤ R.locals) (hdg : decode cc pc = .ok (.invokestatic index, 3))
    (kk : ∀ (H1 : Heap) (locs1 : List Loc) (M1 : Mm), M1 = sI M a (va_cpy (mI M a0) (mI M a) sp.toNatClampNeg dp.toNatClampNeg n.toNatClampNeg) → Wd D cy A Y M1 H1 → va_S A s.heap H1 locs1 → W p l e R s m args below meth c H1 locs1 cells slots Q (F0 m (pc + 3) ls rest)) : W p l e R s m args below meth c H locs cells slots Q (F0 m pc ls (.int n :: .int dp :: .ref a :: .int sp :: .ref a0 :: rest)) := by
  obtain ⟨L, k, hL, hP, hD, ha, hq⟩ := Wd_get hW (a := a) (by omega)
  obtain ⟨k0, hq0⟩ := va_pl_get (X := []) (f := FF cy Y M) ((hL a0).2 (by omega))
  simp only [List.nil_append] at hq0
  have hq' := hq
  rw [FF_i hk1] at hq
  rw [FF_i hk0] at hq0
  refine va_copyi hx hb hml hown hlink hnat hstat hini hK hP hD hS k0 k 1 1 hq0 hq rfl rfl rfl h.1 h.2.1 h.2.2.1 h.2.2.2.1 h.2.2.2.2 (fun i _ => rfl) hframes (Nat.le_trans (Nat.add_le_add_left nfw_le _) hlocals) hdg (fun H1 locs1 hP1 hD1 hS1 => kk H1 locs1 _ rfl (Wd_upd hL hD ha hq' ?_ (e := .inl (cy.2.1, yN Y a, .inl (va_cpy (mI M a0) (mI M a) sp.toNatClampNeg dp.toNatClampNeg n.toNatClampNeg))) ?_ ?_ hP1 hD1) hS1)
  · intro b j hbk
    by_cases hba : b = a
    · subst hba; omega
    · rw [mI_sI_ne _ _ hba]; exact hW.1 b j hbk
  · rw [FF_i hk1, mI_sI_self]
  · intro b hba
    exact FF_of (mI_sI_ne _ _ hba) rfl rfl
end GMC
theorem gm_entry (m : MethodId) (av : List Value) {n : Nat} {args : Array Value} (h : args = av.toArray) (hn : (lg_sl av).length ≤ n) : ∃ ls, entryFrame m args n = F0 m 0 ls [] ∧ lv_has ls n (lv_args 0 av) := by
  subst h
  exact ⟨_, lg_entry_eq m av n, lv_entry av hn⟩
theorem sw_split (x : Int32) (n : Nat) (hn : n < 2 ^ 31) : (x < 0 ∨ nI n ≤ x) ∨ ∃ k : Nat, k < n ∧ x = nI k := by
  rcases pk_ix x hn with h | h | h
  · exact Or.inl (Or.inl h)
  · exact Or.inl (Or.inr h)
  · exact Or.inr h
/-- as Met.ofW, of a method that no native row stands for, though its class has such rows -/
theorem Met_ofWF {l : Launch} {y : MethodName} {ws ws' : List Cond} {rm : Room} {Pc : Array Value → State → Prop} {Qc : Array Value → State → Outcome → State → Prop} {mc ms : Nat} {free : Addr → Prop} {cc : ByteArray} {maxL : Nat} {ret : Option FieldType}
    (hy : plainFor y = true) (hw : ws = Cond.code y cc maxL ret :: ws')
    (body : ∀ p e s m args below meth c s₁, BodyLoose p l y (headSpec ws rm) cc maxL ret e s m args below meth c s₁ → c.maxLocals = maxL → Pc args s →
      W p l e (headSpec ws rm).room s m args below meth c s.heap [] 0 0 (MQ below Qc args s mc ms free) (entryFrame m args maxL)) : Met l y ws rm Pc Qc mc ms free := by
  refine MetFree.of_bodySF (code := cc) (maxLocals := maxL) (ret := ret) hy ?_ ?_
  · intro args s m h hn
    obtain ⟨meth, c, h1, h2, h3, h4, h5, h6, -, -⟩ := Cond.code_spec hn (atoms_spec (ws := ws) h _ (by rw [hw]; exact List.mem_cons_self))
    exact ⟨meth, c, h1, h2, h3, h4, h5, h6⟩
  · intro p e s m args below meth c s₁ B hml hP _
    obtain ⟨t, a1, o, b1, b2, b3⟩ := body p e s m args below meth c s₁ B hml hP s₁ (by rw [B.state]; rfl) (Stand.of_body B)
    exact ⟨t, o, a1, b1, b2, ⟨b3.1, b3.2⟩⟩
theorem kmath_maxI : Cond.code Lib.Math.max.name Lib.Math.max.code 2 (some .int) ∈ TT := by
  rw [show Lib.Math.max.code = cJ9_max_7cf53 from by decide +kernel]
  exact kw_135
theorem kmath_minI : Cond.code Lib.Math.min.name Lib.Math.min.code 2 (some .int) ∈ TT := by
  rw [show Lib.Math.min.code = cJ9_min_7cf53 from by decide +kernel]
  exact kw_132
theorem kmath_maxJ : Cond.code Lib.MathLoose.max_long.x Lib.MathLoose.max_long.code 4 (some .long) ∈ TT := by
  rw [show Lib.MathLoose.max_long.code = cJ9_max_f86c9 from by decide +kernel]
  exact kw_382
theorem kmath_minJ : Cond.code Lib.MathLoose.min_long.x Lib.MathLoose.min_long.code 4 (some .long) ∈ TT := by
  rw [show Lib.MathLoose.min_long.code = cJ9_min_f86c9 from by decide +kernel]
  exact kw_1080
theorem sw_int {x : Int32} (n : Nat) {hi : Int} (hn : n < 2 ^ 31) (hh : hi + 1 = n) (h : x < 0 ∨ nI n ≤ x) : x.toInt < 0 ∨ hi < x.toInt := by
  rcases h with h | h
  · exact Or.inl (by have := Int32.lt_iff_toInt_lt.mp h; simpa using this)
  · refine Or.inr ?_
    have h1 := Int32.le_iff_toInt_le.mp h
    rw [nI_toInt hn] at h1
    omega
theorem lk_none {x : Int32} {o1 o2 d : Int} (h1 : ¬ x = 1) (h2 : ¬ x = 2) : Op.lookupswitch.offset [(1, o1), (2, o2)] d x.toInt = d := by
  have g1 : ¬ x.toInt = 1 := fun z => h1 (Int32.toInt_inj.mp (by rw [z]; rfl))
  have g2 : ¬ x.toInt = 2 := fun z => h2 (Int32.toInt_inj.mp (by rw [z]; rfl))
  simp [Op.lookupswitch.offset, g1, g2, Ne.symm g1, Ne.symm g2]
