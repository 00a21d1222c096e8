/-! the static context: what the tables and the statics hold, and that no method changes -/
def c4_tab : List Int32 := [0, 274646895, 549293790, 820201905, 1098587580, 1361435347, 1640403810, 1905808397, -2097792136, -1834419177, -1572096602, -1307217207, -1014159676, -741088853, -483350502, -210866315]
def cx4 : Nat → Value := fun i => .int (c4_tab.getD i 0)
def CX (tq : Nat) (A : Nat → Prop) (U : State) (H : Heap) : Prop :=
  va_Z RX1 "FOUR_STEPS" "[I" (.ref tq) A U H ∧ va_T .int tq 16 cx4 A U H ∧ va_Nw (.methodLinkNest RX5 71 yX11_isWithin RX11) U ∧ va_Nw (.methodLinkNest RX8 35 yX11_isWithin RX11) U
theorem CX.warm {tq : Nat} {A : Nat → Prop} {s U : State} {H : Heap} (hW : s.WarmedH U.vm) (h : CX tq A s H) : CX tq A U H :=
  ⟨va_Z.moved hW.alike h.1, va_T.moved hW.alike h.2.1, va_Nw.warmM hW h.2.2.1, va_Nw.warmM hW h.2.2.2⟩
theorem CX.same {tq : Nat} {A : Nat → Prop} {s U : State} {H : Heap} (hv : s.vm = U.vm) (h : CX tq A s H) : CX tq A U H :=
  ⟨va_Z.moved (hv ▸ Vm.Alike.refl s.vm) h.1, va_T.moved (hv ▸ Vm.Alike.refl s.vm) h.2.1, va_Nw.same rfl hv h.2.2.1, va_Nw.same rfl hv h.2.2.2⟩
theorem CX.kept {tq : Nat} {A : Nat → Prop} {U : State} {H H1 : Heap} (h : CX tq A U H) (hq : ∀ a : Nat, a < H.size → ¬ A a → H1[a]? = H[a]?) : CX tq A U H1 :=
  ⟨va_Z.kept h.1 hq, va_T.kept h.2.1 hq, h.2.2.1, h.2.2.2⟩
theorem CX.narrow {tq : Nat} {A B : Nat → Prop} {U : State} {H : Heap} (h : CX tq A U H) (hAB : ∀ q, B q → A q) : CX tq B U H :=
  ⟨va_Z.narrow h.1 hAB, va_T.narrow h.2.1 hAB, h.2.2.1, h.2.2.2⟩
