/-! methods that may throw: the throw goes on to the continuation Xn -/
abbrev XX (D : va_G) (cy : Cy) (A : Nat → Prop) (Y : Ly) (Xn : String → Mm → Prop) : String → State → State → Prop := vx_X (fun _ : Mm => True) (fun E u t => Xn E u ∧ Wd D cy A Y u t.heap) A
theorem Wd_heap {D : va_G} {cy : Cy} {A : Nat → Prop} {Y : Ly} {M : Mm} {H H1 : Heap} (h : Wd D cy A Y M H) (hk : ∀ q : Nat, q < H.size → H1[q]? = H[q]?) : Wd D cy A Y M H1 := by
  obtain ⟨h0, L, hL, hP, hD⟩ := h
  exact ⟨h0, L, hL, hP.kept (fun k q hq => hk q.1 (hP k q hq).lt), hD⟩
section GMX
variable {p : Program} {l : Launch} {e : Env} {R : Room} {s : State} {m : MethodId} {args : Array Value} {below : List Frame} {meth : Method} {c : Code} {H : Heap} {locs : List Loc} {cells slots mc ms : Nat} {Q : State → Prop}
variable {pc : Nat} {ls : Array Slot} {rest st0 : List Value} {cc : ByteArray} {D : va_G} {cy : Cy} {A : Nat → Prop} {Y : Ly} {M : Mm} {tq : Nat}
theorem gx_ci {Kn : Int32 → Mm → Prop} {Xn : String → Mm → Prop} {a : Array Value} (hr : vx_Run p l e R s m args below meth c H locs cells slots mc ms (F0 m pc ls st0) rest (va_Qi Kn (BG D cy (Am Y H.size) Y) (Am Y H.size) a) (XX D cy (Am Y H.size) Y Xn) (Am Y H.size)) (hW : Wd D cy A Y M H) (hS : va_S A s.heap H locs) (hA : ∀ q, s.heap.size ≤ q → A q)
    (kx : ∀ (E : String) (M' : Mm) (H1 : Heap) (locs1 : List Loc) (ce : Cell) (q : Addr), Wd D cy A Y M' H1 → va_S A s.heap H1 locs1 → Xn E M' → H1[q]? = some ce → ce.vm = .none → s.vm.findClass E = some ce.cls → vx_W p l e R s m args below meth c H1 locs1 (cells + mc) (slots + ms) Q (F0 m pc ls rest) q)
    (kk : ∀ (r : Int32) (M' : Mm) (H1 : Heap) (locs1 : List Loc), Wd D cy A Y M' H1 → va_S A s.heap H1 locs1 → Kn r M' → W p l e R s m args below meth c H1 locs1 (cells + mc) (slots + ms) Q (F0 m (pc + 3) ls (.int r :: rest))) : W p l e R s m args below meth c H locs cells slots Q (F0 m pc ls st0) :=
  have hF := Am_sub hW hS hA
  vx_calli hr hS (fun q _ h => hF q h) hF (fun q _ h => hF q h)
    (fun E ce q9 u t H1 locs1 ht _ _ hB _ _ hS1 h1 h2 h3 => kx E u H1 locs1 ce q9 (by rw [← ht]; exact Wd_true hB.2 hF) hS1 hB.1 h1 h2 h3)
    (fun r u t H1 locs1 ht hvm hp hB hz hk hS1 => kk r u H1 locs1 (by rw [← ht]; exact Wd_true hB hF) hS1 hp)
theorem gx_cl {Kn : Int64 → Mm → Prop} {Xn : String → Mm → Prop} {a : Array Value} (hr : vx_Run p l e R s m args below meth c H locs cells slots mc ms (F0 m pc ls st0) rest (va_Ql Kn (BG D cy (Am Y H.size) Y) (Am Y H.size) a) (XX D cy (Am Y H.size) Y Xn) (Am Y H.size)) (hW : Wd D cy A Y M H) (hS : va_S A s.heap H locs) (hA : ∀ q, s.heap.size ≤ q → A q)
    (kx : ∀ (E : String) (M' : Mm) (H1 : Heap) (locs1 : List Loc) (ce : Cell) (q : Addr), Wd D cy A Y M' H1 → va_S A s.heap H1 locs1 → Xn E M' → H1[q]? = some ce → ce.vm = .none → s.vm.findClass E = some ce.cls → vx_W p l e R s m args below meth c H1 locs1 (cells + mc) (slots + ms) Q (F0 m pc ls rest) q)
    (kk : ∀ (r : Int64) (M' : Mm) (H1 : Heap) (locs1 : List Loc), Wd D cy A Y M' H1 → va_S A s.heap H1 locs1 → Kn r M' → W p l e R s m args below meth c H1 locs1 (cells + mc) (slots + ms) Q (F0 m (pc + 3) ls (.long r :: rest))) : W p l e R s m args below meth c H locs cells slots Q (F0 m pc ls st0) :=
  have hF := Am_sub hW hS hA
  vx_calll hr hS (fun q _ h => hF q h) hF (fun q _ h => hF q h)
    (fun E ce q9 u t H1 locs1 ht _ _ hB _ _ hS1 h1 h2 h3 => kx E u H1 locs1 ce q9 (by rw [← ht]; exact Wd_true hB.2 hF) hS1 hB.1 h1 h2 h3)
    (fun r u t H1 locs1 ht hvm hp hB hz hk hS1 => kk r u H1 locs1 (by rw [← ht]; exact Wd_true hB hF) hS1 hp)
theorem gx_cv {Kn : Mm → Prop} {Xn : String → Mm → Prop} {a : Array Value} (hr : vx_Run p l e R s m args below meth c H locs cells slots mc ms (F0 m pc ls st0) rest (va_Qv Kn (BG D cy (Am Y H.size) Y) (Am Y H.size) a) (XX D cy (Am Y H.size) Y Xn) (Am Y H.size)) (hW : Wd D cy A Y M H) (hS : va_S A s.heap H locs) (hA : ∀ q, s.heap.size ≤ q → A q)
    (kx : ∀ (E : String) (M' : Mm) (H1 : Heap) (locs1 : List Loc) (ce : Cell) (q : Addr), Wd D cy A Y M' H1 → va_S A s.heap H1 locs1 → Xn E M' → H1[q]? = some ce → ce.vm = .none → s.vm.findClass E = some ce.cls → vx_W p l e R s m args below meth c H1 locs1 (cells + mc) (slots + ms) Q (F0 m pc ls rest) q)
    (kk : ∀ (M' : Mm) (H1 : Heap) (locs1 : List Loc), Wd D cy A Y M' H1 → va_S A s.heap H1 locs1 → Kn M' → W p l e R s m args below meth c H1 locs1 (cells + mc) (slots + ms) Q (F0 m (pc + 3) ls rest)) : W p l e R s m args below meth c H locs cells slots Q (F0 m pc ls st0) :=
  have hF := Am_sub hW hS hA
  vx_callv hr hS (fun q _ h => hF q h) hF (fun q _ h => hF q h)
    (fun E ce q9 u t H1 locs1 ht _ _ hB _ _ hS1 h1 h2 h3 => kx E u H1 locs1 ce q9 (by rw [← ht]; exact Wd_true hB.2 hF) hS1 hB.1 h1 h2 h3)
    (fun u t H1 locs1 ht hvm hp hB hz hk hS1 => kk u H1 locs1 (by rw [← ht]; exact Wd_true hB hF) hS1 hp)
/-- it goes on to the caller -/
theorem gx_out {Qc : Array Value → State → Outcome → State → Prop} {Xn : String → Mm → Prop} {E : String} {ce : Cell} {q : Addr} (hno : ∀ x ∈ c.exceptionTable.toList, False) (hlocks : meth.locks = false) (hW : Wd D cy A Y M H) (hS : va_S A s.heap H locs) (hf : Xn E M) (h1 : H[q]? = some ce) (h2 : ce.vm = .none) (h3 : s.vm.findClass E = some ce.cls) (hc : cells ≤ mc) (hs : slots ≤ ms) :
    vx_W p l e R s m args below meth c H locs cells slots (vx_MQ below Qc (XX D cy A Y Xn) args s mc ms A) (F0 m pc ls rest) q :=
  vx_out (fun x hx => absurd (hno x hx) id) hlocks h1 h2 h3 (fun t ht _ => ⟨M, trivial, ⟨hf, by rw [ht]; exact hW⟩, hS.F ht⟩) hS.2.2 hc hs
end GMX
/-! the two methods that make an exception -/
theorem atS_good {w : Cond} (h : w ∈ lw_tbl) (hg : goodWord w = true) : w ∈ TT := TT_in h hg
theorem at_ISE : ∀ w ∈ (vx_atS RX11 389 iSE [rTE, "java/lang/Exception"]).filter goodWord, w ∈ lw_tbl := by decide +kernel
theorem at_IAE : ∀ w ∈ (vx_atS RX11 382 iAE [rTE, "java/lang/Exception"]).filter goodWord, w ∈ lw_tbl := by decide +kernel
theorem bt_ISE : ∀ w ∈ (vx_atS RX11 389 iSE [rTE, "java/lang/Exception"]).filter (fun w => !goodWord w), w ∈ [Cond.castable iSE iSE, Cond.declares (Bundle.initS rTE), Cond.declares (Bundle.initS "java/lang/Exception"), Cond.declares (Bundle.initS "java/lang/Throwable")] := by decide +kernel
theorem bt_IAE : ∀ w ∈ (vx_atS RX11 382 iAE [rTE, "java/lang/Exception"]).filter (fun w => !goodWord w), w ∈ [Cond.castable iAE iAE, Cond.declares (Bundle.initS rTE), Cond.declares (Bundle.initS "java/lang/Exception"), Cond.declares (Bundle.initS "java/lang/Throwable")] := by decide +kernel
theorem ot_ISE : ∀ w ∈ Cond.classLink RX11 385 iSE :: Cond.initialized iSE :: vx_atS RX11 389 iSE [rTE, "java/lang/Exception"], vx_ot w = true := by decide +kernel
theorem ot_IAE : ∀ w ∈ Cond.classLink RX11 378 iAE :: Cond.initialized iAE :: vx_atS RX11 382 iAE [rTE, "java/lang/Exception"], vx_ot w = true := by decide +kernel
def f_X11_needState (Y : Ly) (v0 : Int32) (M : Mm) (Kn : Mm → Prop) (Xn : String → Mm → Prop) : Prop := (¬ v0 = 0 → Kn M) ∧ (v0 = 0 → Xn iSE M)
def f_X11_needArguments (Y : Ly) (v0 : Int32) (M : Mm) (Kn : Mm → Prop) (Xn : String → Mm → Prop) : Prop := (¬ v0 = 0 → Kn M) ∧ (v0 = 0 → Xn iAE M)
abbrev rm_X11_needState : Room := { frames := 6, cells := 1, slots := 6, locals := 90 }
abbrev rm_X11_needArguments : Room := { frames := 6, cells := 1, slots := 6, locals := 90 }
set_option maxHeartbeats 4000000 in
set_option maxRecDepth 100000 in
theorem m_X11_needState (l : Launch) (hlt : l.stackTraces = false) (D : va_G) (cy : Cy) (tq sz : Nat) (Y : Ly) (v0 : Int32) (M : Mm) (Kn : Mm → Prop) (Xn : String → Mm → Prop) : vx_Met l yX11_needState (Cond.code yX11_needState cX11_needState 1 none :: TT) rm_X11_needState (PcG D cy tq [.int v0] sz Y M (f_X11_needState Y v0 M Kn Xn)) (va_Qv Kn (BG D cy (Am Y sz) Y) (Am Y sz)) (XX D cy (Am Y sz) Y Xn) 1 6 (Am Y sz) := by
  refine vx_ofW (cc := cX11_needState) (maxL := 1) (ret := none) (by decide) rfl ?_
  intro p e s m args below meth c s₁ B hml hno hv
  obtain ⟨hargs, hsz, hW, hK, hC, hf⟩ := hv
  subst hsz
  have hx := B.exec
  have hb := B.bytes
  have hr := B.returns
  have hts : ∀ w ∈ TT, w.before args s = true := fun w h => atoms_spec (ws := Cond.code yX11_needState cX11_needState 1 none :: TT) B.pre w (List.mem_cons_of_mem _ h)
  have hown : s.vm.findClass RX11 = some m.cls := findClass_of_methodNamed B.named
  have hlocks := B.notSynchronized
  replace hW := Wd_self (sz := s.heap.size) hW
  generalize hAe : Am Y s.heap.size = A at hW hC ⊢
  have hA : ∀ q : Nat, s.heap.size ≤ q → A q := fun q h => by rw [← hAe]; exact Or.inr h
  clear hAe
  have hS : va_S A s.heap s.heap [] := va_S.rf
  obtain ⟨ls, hE, hl⟩ := gm_entry m [.int v0] (n := 1) hargs (Nat.le_of_ble_eq_true rfl)
  rw [hE]
  have hl : lv_has ls 1 [(0, .int v0)] := hl
  show W p l e rm_X11_needState s m args below meth c s.heap [] 0 0 (vx_MQ below (va_Qv Kn (BG D cy A Y) A) (XX D cy A Y Xn) args s 1 6 A) (F0 m 0 ls [])
  unfold f_X11_needState at hf
  refine lv_iload_n hx hb dX11_needState_0 rfl (lv_at hl 0 rfl) ?_
  refine lv_if_ne (tgt := 15) hx hb dX11_needState_1 (by decide) (fun c1 => ?_) (fun c1 => ?_)
  · replace hf := hf.1 c1
    refine W.widen (k := 1) (n := 6) (Nat.zero_le _) (Nat.zero_le _) ?_
    exact vx_ret (gm_vret hx hb hr hlocks hW hS hf dX11_needState_15)
  · replace hf := hf.2 c1
    obtain ⟨sa, hstr⟩ := hC.2.2.2.2.2.2.2.2.2.2.2.2.2.1
    refine vx_throwSW hx hb hlt hown (by decide +kernel) (names := [rTE, "java/lang/Exception"]) (by decide +kernel) (hts _ kw_405) (hts _ kw_16) hstr
      (vx_hat (fun w h => hts w (TT_in (at_ISE w h) (List.mem_filter.mp h).2)) bt_ISE (fun w h => ?_)) ot_ISE hC.2.2.2.2.2.2.2.2.2.2.2.1 hC.2.2.2.2.2.2.2.2.2.2.2.2.1 hS (by rw [hml]; exact hl.1) dX11_needState_4 dX11_needState_7 dX11_needState_8 dX11_needState_11 dX11_needState_14
      (fun x hx => absurd (hno x hx) id) (Nat.le_of_ble_eq_true rfl) (Nat.le_of_ble_eq_true rfl) (Nat.le_of_ble_eq_true rfl) (Nat.le_of_ble_eq_true rfl) hlocks
      (fun t _ hz hk => ⟨M, trivial, ⟨hf, Wd_heap hW hk⟩, hz, fun q h1 _ => hk q h1⟩) (fun z hz => absurd hz List.not_mem_nil) (Nat.le_of_ble_eq_true rfl) (Nat.le_of_ble_eq_true rfl)
    simp only [List.mem_cons, List.not_mem_nil, or_false] at h
    rcases h with rfl | rfl | rfl | rfl
    · exact va_Nw.use rfl hC.2.2.2.2.2.2.2.2.2.2.2.2.2.2.2.1
    · exact va_Nw.use rfl hC.2.2.2.2.2.2.2.2.2.2.2.2.2.2.2.2.2.1
    · exact va_Nw.use rfl hC.2.2.2.2.2.2.2.2.2.2.2.2.2.2.2.2.2.2.1
    · exact va_Nw.use rfl hC.2.2.2.2.2.2.2.2.2.2.2.2.2.2.2.2.2.2.2.1
set_option maxHeartbeats 4000000 in
set_option maxRecDepth 100000 in
theorem m_X11_needArguments (l : Launch) (hlt : l.stackTraces = false) (D : va_G) (cy : Cy) (tq sz : Nat) (Y : Ly) (v0 : Int32) (M : Mm) (Kn : Mm → Prop) (Xn : String → Mm → Prop) : vx_Met l yX11_needArguments (Cond.code yX11_needArguments cX11_needArguments 1 none :: TT) rm_X11_needArguments (PcG D cy tq [.int v0] sz Y M (f_X11_needArguments Y v0 M Kn Xn)) (va_Qv Kn (BG D cy (Am Y sz) Y) (Am Y sz)) (XX D cy (Am Y sz) Y Xn) 1 6 (Am Y sz) := by
  refine vx_ofW (cc := cX11_needArguments) (maxL := 1) (ret := none) (by decide) rfl ?_
  intro p e s m args below meth c s₁ B hml hno hv
  obtain ⟨hargs, hsz, hW, hK, hC, hf⟩ := hv
  subst hsz
  have hx := B.exec
  have hb := B.bytes
  have hr := B.returns
  have hts : ∀ w ∈ TT, w.before args s = true := fun w h => atoms_spec (ws := Cond.code yX11_needArguments cX11_needArguments 1 none :: TT) B.pre w (List.mem_cons_of_mem _ h)
  have hown : s.vm.findClass RX11 = some m.cls := findClass_of_methodNamed B.named
  have hlocks := B.notSynchronized
  replace hW := Wd_self (sz := s.heap.size) hW
  generalize hAe : Am Y s.heap.size = A at hW hC ⊢
  have hA : ∀ q : Nat, s.heap.size ≤ q → A q := fun q h => by rw [← hAe]; exact Or.inr h
  clear hAe
  have hS : va_S A s.heap s.heap [] := va_S.rf
  obtain ⟨ls, hE, hl⟩ := gm_entry m [.int v0] (n := 1) hargs (Nat.le_of_ble_eq_true rfl)
  rw [hE]
  have hl : lv_has ls 1 [(0, .int v0)] := hl
  show W p l e rm_X11_needArguments s m args below meth c s.heap [] 0 0 (vx_MQ below (va_Qv Kn (BG D cy A Y) A) (XX D cy A Y Xn) args s 1 6 A) (F0 m 0 ls [])
  unfold f_X11_needArguments at hf
  refine lv_iload_n hx hb dX11_needArguments_0 rfl (lv_at hl 0 rfl) ?_
  refine lv_if_ne (tgt := 15) hx hb dX11_needArguments_1 (by decide) (fun c1 => ?_) (fun c1 => ?_)
  · replace hf := hf.1 c1
    refine W.widen (k := 1) (n := 6) (Nat.zero_le _) (Nat.zero_le _) ?_
    exact vx_ret (gm_vret hx hb hr hlocks hW hS hf dX11_needArguments_15)
  · replace hf := hf.2 c1
    obtain ⟨sa, hstr⟩ := hC.2.2.2.2.2.2.2.2.2.2.2.2.2.2.1
    refine vx_throwSW hx hb hlt hown (by decide +kernel) (names := [rTE, "java/lang/Exception"]) (by decide +kernel) (hts _ kw_466) (hts _ kw_18) hstr
      (vx_hat (fun w h => hts w (TT_in (at_IAE w h) (List.mem_filter.mp h).2)) bt_IAE (fun w h => ?_)) ot_IAE hC.2.2.2.2.2.2.2.2.2.2.2.1 hC.2.2.2.2.2.2.2.2.2.2.2.2.1 hS (by rw [hml]; exact hl.1) dX11_needArguments_4 dX11_needArguments_7 dX11_needArguments_8 dX11_needArguments_11 dX11_needArguments_14
      (fun x hx => absurd (hno x hx) id) (Nat.le_of_ble_eq_true rfl) (Nat.le_of_ble_eq_true rfl) (Nat.le_of_ble_eq_true rfl) (Nat.le_of_ble_eq_true rfl) hlocks
      (fun t _ hz hk => ⟨M, trivial, ⟨hf, Wd_heap hW hk⟩, hz, fun q h1 _ => hk q h1⟩) (fun z hz => absurd hz List.not_mem_nil) (Nat.le_of_ble_eq_true rfl) (Nat.le_of_ble_eq_true rfl)
    simp only [List.mem_cons, List.not_mem_nil, or_false] at h
    rcases h with rfl | rfl | rfl | rfl
    · exact va_Nw.use rfl hC.2.2.2.2.2.2.2.2.2.2.2.2.2.2.2.2.1
    · exact va_Nw.use rfl hC.2.2.2.2.2.2.2.2.2.2.2.2.2.2.2.2.2.1
    · exact va_Nw.use rfl hC.2.2.2.2.2.2.2.2.2.2.2.2.2.2.2.2.2.2.1
    · exact va_Nw.use rfl hC.2.2.2.2.2.2.2.2.2.2.2.2.2.2.2.2.2.2.2.1
