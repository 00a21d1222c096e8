/-! the logs and the power, as both sides hold them -/
abbrev LSt : Type := (Nat → Int64) × (Nat → List Sg) × Int32 × Int32 × Int32
def lE (L : LSt) : Nat → Int64 := L.1
def lS (L : LSt) : Nat → List Sg := L.2.1
def lL (L : LSt) : Int32 := L.2.2.1
def lW (L : LSt) : Int32 := L.2.2.2.1
def lD (L : LSt) : Int32 := L.2.2.2.2
def LogS (q : Nat → Nat → Nat) (nL W : Nat) (M : Mm) : Prop := mI M (q 0 13) 2 = nI W ∧ mI M (q 0 13) 3 = nI (nL + 2) ∧ ∀ l, l ≤ nL → mI M (q (l + 1) 0) 0 = nI (l + 1)
def CL (q : Nat → Nat → Nat) (nL W nB : Nat) (M : Mm) (st : Nat → Int64) (L : LSt) : Prop := LogS q nL W M ∧ DkA nL (mI M (q 0 11)) st (lE L) (lS L) ∧ mI M (q 0 10) 1 = lW L ∧ mI M (q 0 10) 2 = lL L ∧ mI M (q 0 10) 3 = lD L ∧ (lD L = 0 → LogC q nL W nB M st (lE L) (lS L))
def ML (q : Nat → Nat → Nat) (nL W nB : Nat) (M : Mm) (st : Nat → Int64) (L : LSt) : Prop := (∃ B hp ht, LogM q nL W nB M st (lE L) (lS L) B hp ht) ∧ mI M (q 20 0) 6 = lW L ∧ mI M (q 20 0) 7 = lL L ∧ mI M (q 20 0) 5 = lD L
def ApR (nL W nB l : Nat) (bt : Bt) (L L' : LSt) (r : Int32) : Prop :=
  (AddF nL W nB (lS L) l bt.length ∧ L' = L ∧ r = -2) ∨ (∃ T k x l' ad dn full, AddR nL W nB (lS L) l (based (lE L l) bt) T k x ∧ SpR (lL L) (tch x bt.length + 1) l' ad dn full ∧ ((full ∧ L' = (m1 (lE L) l (lE L l + (cntB bt).toInt64), m1 (lS L) l T, l', lW L + nI ad, dn)) ∨ (¬ full ∧ L' = (lE L, lS L, l', lW L + nI ad, dn))) ∧ r = if dn = 0 then 1 else -3)
theorem Lst_fun {lo W nB a b : Nat} {F : List Nat} (h : Lst lo W nB F a) (k : Lst lo W nB F b) : a = b := by
  rcases Nat.lt_trichotomy a b with g | g | g
  · exact absurd h.2.2.1 (k.2.2.2 a h.1 g)
  · exact g
  · exact absurd k.2.2.1 (h.2.2.2 b k.1 g)
theorem snoc_inj {α : Type} {x y : List α} {a b : α} (h : x ++ [a] = y ++ [b]) : x = y ∧ a = b := by
  obtain ⟨h1, h2⟩ := List.append_inj' h rfl
  exact ⟨h1, List.singleton_inj.mp h2⟩
theorem AddR_fun {nL W nB l : Nat} {S : Nat → List Sg} {b : Bt} {T T' : List Sg} {k k' x x' : Nat} (h : AddR nL W nB S l b T k x) (h' : AddR nL W nB S l b T' k' x') : T = T' ∧ k = k' ∧ x = x' := by
  rcases h with ⟨S0, bs, e, f, t, x0⟩ | ⟨n, s, f, t, x0⟩ <;> rcases h' with ⟨S0', bs', e', f', t', x0'⟩ | ⟨n', s', f', t', x0'⟩
  · obtain ⟨h1, h2⟩ := snoc_inj (e.symm.trans e')
    cases h2
    subst h1
    exact ⟨t.trans t'.symm, rfl, x0.trans x0'.symm⟩
  · have := n' S0 _ e; omega
  · have := n S0' _ e'; omega
  · have := Lst_fun f f'
    subst this
    exact ⟨t.trans t'.symm, rfl, x0.trans x0'.symm⟩
theorem AddFR {nL W nB l : Nat} {S : Nat → List Sg} {b : Bt} {T : List Sg} {k x : Nat} (h : AddF nL W nB S l b.length) (h' : AddR nL W nB S l b T k x) : False := by
  rcases h' with ⟨S0, bs, e, f, t, x0⟩ | ⟨n, s, f, t, x0⟩
  · have := h.1 S0 _ e; omega
  · rcases h.2 with g | g
    · omega
    · exact g k f.1 f.2.1 f.2.2.1
theorem ApR_fun {nL W nB l : Nat} {bt : Bt} {L L1 L2 : LSt} {r1 r2 : Int32} (h61 : 61 ≤ bt.length) (h : ApR nL W nB l bt L L1 r1) (h' : ApR nL W nB l bt L L2 r2) : L1 = L2 ∧ r1 = r2 := by
  rcases h with ⟨a, b, c⟩ | ⟨T, k, x, l', ad, dn, full, a, b, c, d⟩ <;> rcases h' with ⟨a', b', c'⟩ | ⟨T', k', x', l2, ad', dn', full', a', b', c', d'⟩
  · exact ⟨b.trans b'.symm, c.trans c'.symm⟩
  · exact (AddFR (by rw [based_len _ h61]; exact a) a').elim
  · exact (AddFR (by rw [based_len _ h61]; exact a') a).elim
  · obtain ⟨rfl, rfl, rfl⟩ := AddR_fun a a'
    obtain ⟨rfl, rfl, rfl, hf⟩ := SpR_fun b b'
    refine ⟨?_, d.trans d'.symm⟩
    rcases c with ⟨c, e⟩ | ⟨c, e⟩ <;> rcases c' with ⟨c', e'⟩ | ⟨c', e'⟩
    · exact e.trans e'.symm
    · exact absurd (hf.mp c) c'
    · exact absurd (hf.mpr c') c
    · exact e.trans e'.symm
theorem m1_at {α : Type} (f : Nat → α) (a : Nat) (v : α) : m1 f a v a = v := by simp [m1]
theorem m1_nat {α : Type} (f : Nat → α) {a b : Nat} (v : α) (h : b ≠ a) : m1 f a v b = f b := m1_ne _ _ h
/-- a batch comes into log l of the class -/
theorem c_app {Y : Ly} {q : Nat → Nat → Nat} {nL W nB : Nat} {M : Mm} {st : Nat → Int64} {L : LSt} {l c : Nat} {bt : Bt} {Kn : Int64 → Mm → Prop} (hC : SC Y q nL W nB) (hR : SR q nL (mR M)) (hl : l ≤ nL) (hc : c = 1 ∨ c = 33) (hG : Geo nL W nB (lS L)) (hCL : CL q nL W nB M st L) (hD0 : lD L = 0) (hlf : LfOK (lL L)) (hL : Lie (mI M (q 0 c)) 0 bt) (h61 : 61 ≤ bt.length) (hbW : bt.length ≤ W * 1024) (hcl : bt.length ≤ yN Y (q 0 c))
    (h : ∀ L' r M', ApR nL W nB l bt L L' r → CL q nL W nB M' st L' → Fr q (Ap l c) M M' → (∀ j, j < 1024 → mI M' (q 0 11) j = mI M (q 0 11) j) → Kn (if r = 1 then lE L l else if r = -2 then -2 else -3) M') : f_X9_append Y (q 0 13) (q (l + 1) 0) (q 0 c) (nI bt.length) M Kn := by
  have hd := sdims hC
  obtain ⟨hLS, hDk, hw, hlf2, hdn, hLC⟩ := hCL
  have hLC := hLC hD0
  rw [← hlf2] at hlf
  refine c_append hC hR hl hc hG hLC hDk (by rw [hdn]; exact hD0) hlf hL h61 hbW hcl ?_ ?_
  · intro hF u
    have F : Fr q (Ap l c) M (sI M (q 0 15) u) := Fr_sI _ _ _ _ (Or.inr ⟨rfl, by simp⟩)
    have := h L (-2) (sI M (q 0 15) u) (Or.inl ⟨hF, rfl, rfl⟩) ?_ F (fun j _ => by rw [I_ne hC _ _ (by omega)])
    · exact this
    · refine ⟨⟨by rw [I_ne hC _ _ (by omega)]; exact hLS.1, by rw [I_ne hC _ _ (by omega)]; exact hLS.2.1, fun l hl => by rw [I_ne hC _ _ (by omega)]; exact hLS.2.2 l hl⟩, by rw [I_ne hC _ _ (by omega)]; exact hDk, by rw [I_ne hC _ _ (by omega)]; exact hw, by rw [I_ne hC _ _ (by omega)]; exact hlf2, by rw [I_ne hC _ _ (by omega)]; exact hdn, fun _ => LogC_fr hC hLC (Fr_sI (A := fun a b => a = 0 ∧ b = 15) _ _ _ _ ⟨rfl, rfl⟩) (by omega) (fun l c => by omega)⟩
  · intro T k x hA M' l' ad dn full hS F h0 w1 w2 w3 hT hJ1 hJ2 hfull hnf hb0
    rw [hlf2] at hS
    have e13 : mI M' (q 0 13) = mI M (q 0 13) := Fr_I hC F (by unfold Ap; rcases hc with rfl | rfl <;> omega)
    have eo : ∀ l2 b, l2 ≤ nL → l2 ≠ l → mI M' (q (l2 + 1) b) = mI M (q (l2 + 1) b) ∧ mJ M' (q (l2 + 1) b) = mJ M (q (l2 + 1) b) := by
      intro l2 b h2 hn
      have : ¬ Ap l c (l2 + 1) b := by unfold Ap; omega
      exact ⟨Fr_I hC F this, Fr_J hC F this⟩
    have hLS' : LogS q nL W M' := by
      refine ⟨by rw [e13]; exact hLS.1, by rw [e13]; exact hLS.2.1, fun l2 h2 => ?_⟩
      by_cases e : l2 = l
      · subst e; exact h0
      · rw [(eo l2 0 h2 e).1]; exact hLS.2.2 l2 h2
    have hr := SpR_dn hS
    have key : ∀ L', ((full ∧ L' = (m1 (lE L) l (lE L l + (cntB bt).toInt64), m1 (lS L) l T, l', lW L + nI ad, dn)) ∨ (¬ full ∧ L' = (lE L, lS L, l', lW L + nI ad, dn))) → CL q nL W nB M' st L' := by
      rintro L' (⟨hf, rfl⟩ | ⟨hf, rfl⟩)
      · refine ⟨hLS', hfull hf, by rw [w1, hw]; rfl, w2, w3, fun _ => ⟨hLS'.1, hLS'.2.1, fun l2 h2 => ?_⟩⟩
        show mI M' (q (l2 + 1) 0) 0 = nI (l2 + 1) ∧ TabM q l2 M' (m1 (lS L) l T l2) ∧ mJ M' (q (l2 + 1) 0) 1 = st l2 ∧ mJ M' (q (l2 + 1) 0) 2 = m1 (lE L) l (lE L l + (cntB bt).toInt64) l2
        by_cases e : l2 = l
        · subst e
          rw [m1_at, m1_at]
          exact ⟨h0, hT, hJ1, hJ2⟩
        · rw [m1_nat _ _ e, m1_nat _ _ e]
          obtain ⟨a1, a2, a3, a4⟩ := hLC.2.2 l2 h2
          exact ⟨hLS'.2.2 l2 h2, TabM_of a2 (fun c => (eo l2 c h2 e).1), by rw [(eo l2 0 h2 e).2]; exact a3, by rw [(eo l2 0 h2 e).2]; exact a4⟩
      · refine ⟨hLS', hnf hf, by rw [w1, hw]; rfl, w2, w3, fun e => absurd (SpR_up hS e).1 hf⟩
    have fin : ∀ L', ((full ∧ L' = (m1 (lE L) l (lE L l + (cntB bt).toInt64), m1 (lS L) l T, l', lW L + nI ad, dn)) ∨ (¬ full ∧ L' = (lE L, lS L, l', lW L + nI ad, dn))) → Kn (if dn = 0 then lE L l else -3) M' := by
      intro L' hL'
      have := h L' (if dn = 0 then 1 else -3) M' (Or.inr ⟨T, k, x, l', ad, dn, full, hA, hS, hL', rfl⟩) (key L' hL') F hb0
      rcases hr with e | ⟨e, _⟩
      · rw [e] at this ⊢; exact this
      · rw [e] at this ⊢; exact this
    by_cases hf : full
    · exact fin _ (Or.inl ⟨hf, rfl⟩)
    · exact fin _ (Or.inr ⟨hf, rfl⟩)
def PA : Nat → Nat → Nat → Prop := fun a b j => a = 20 ∧ ((b = 0 ∧ (j = 5 ∨ j = 6 ∨ j = 7 ∨ j = 18 ∨ j = 25)) ∨ b = 20 ∨ b = 21 ∨ b = 22 ∨ b = 23 ∨ b = 24 ∨ b = 25 ∨ b = 28 ∨ b = 29 ∨ b = 30 ∨ b = 31 ∨ b = 32)
/-- the same by the model -/
theorem m_app {Y : Ly} {q : Nat → Nat → Nat} {nL W nB : Nat} {M : Mm} {st : Nat → Int64} {L : LSt} {l c : Nat} {bt : Bt} {Kn : Int32 → Mm → Prop} (hC : SC Y q nL W nB) (hM : SM q (mR M)) (hl : l ≤ nL) (hc : c = 11 ∨ c = 68) (hG : Geo nL W nB (lS L)) (hML : ML q nL W nB M st L) (hD0 : lD L = 0) (hlf : LfOK (lL L)) (hL : Lie (mI M (q 20 c)) 0 (m8 bt)) (hBy : Bys bt) (h61 : 61 ≤ bt.length) (hbW : bt.length ≤ W * 1024) (hcl : bt.length ≤ yN Y (q 20 c))
    (h : ∀ L' r M', ApR nL W nB l bt L L' r → ML q nL W nB M' st L' → Ef q PA M M' → Kn r M') : f_X12_append Y (q 20 0) (nI l) (q 20 c) (nI bt.length) M Kn := by
  obtain ⟨⟨B, hp, ht, hLM⟩, hw, hlf2, hdn⟩ := hML
  rw [← hlf2] at hlf
  refine m_append hC hM hl hc hG hLM hlf hL hBy h61 hbW hcl ?_ ?_
  · intro hF u
    have E : EfH q PA M (sI M (q 20 32) u) := EfH_sIr hC rfl (fun j => by unfold PA; omega)
    have E2 : EfH q (fun a b _ => a = 20 ∧ b = 32) M (sI M (q 20 32) u) := EfH_sIr hC rfl (fun j => by omega)
    refine h L (-2) _ (Or.inl ⟨hF, rfl, rfl⟩) ⟨⟨B, hp, ht, LogM_ef hLM E2 (fun a b j z => by unfold PLg at z; omega)⟩, ?_, ?_, ?_⟩ E.1
    · rw [I_ne hC _ _ (by omega)]; exact hw
    · rw [I_ne hC _ _ (by omega)]; exact hlf2
    · rw [I_ne hC _ _ (by omega)]; exact hdn
  · intro T k x hA M' l' ad dn full hS F hRf hIj hJ0 w6 w7 w5 hfull hnf
    rw [hlf2] at hS
    have E : Ef q PA M M' := by
      refine ⟨fun a b j n => ?_, F.2, fun f a b c => hRf f a b⟩
      by_cases e : a = 20 ∧ b = 0
      · obtain ⟨rfl, rfl⟩ := e
        unfold PA at n
        exact ⟨hIj j (by omega) (by omega) (by omega) (by omega) (by omega), by rw [hJ0]⟩
      · have : ¬ svA a b := by unfold svA; unfold PA at n; omega
        exact ⟨by rw [FrM_I hC F this], by rw [FrM_J hC F this]⟩
    have fin : ∀ L', ((full ∧ L' = (m1 (lE L) l (lE L l + (cntB bt).toInt64), m1 (lS L) l T, l', lW L + nI ad, dn)) ∨ (¬ full ∧ L' = (lE L, lS L, l', lW L + nI ad, dn))) → Kn (if dn = 0 then 1 else -3) M' := by
      intro L' hL'
      refine h L' _ M' (Or.inr ⟨T, k, x, l', ad, dn, full, hA, hS, hL', rfl⟩) ?_ E
      rcases hL' with ⟨hf, rfl⟩ | ⟨hf, rfl⟩
      · obtain ⟨B', hp', ht', hLM'⟩ := hfull hf
        exact ⟨⟨B', hp', ht', hLM'⟩, by rw [w6, hw]; rfl, w7, w5⟩
      · exact ⟨⟨B, hp, ht, hnf hf⟩, by rw [w6, hw]; rfl, w7, w5⟩
    by_cases hf : full
    · exact fin _ (Or.inl ⟨hf, rfl⟩)
    · exact fin _ (Or.inr ⟨hf, rfl⟩)
