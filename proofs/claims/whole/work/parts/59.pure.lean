/-! power that is spent -/
def LfOK (left : Int32) : Prop := left = -1 ∨ ∃ L, 0 < L ∧ L < 2 ^ 31 ∧ left = nI L
def SpR (left : Int32) (t : Nat) (left' : Int32) (ad : Nat) (dn : Int32) (full : Prop) : Prop :=
  (left = -1 ∧ left' = -1 ∧ ad = t ∧ dn = 0 ∧ full) ∨ (∃ L, t < L ∧ L < 2 ^ 31 ∧ left = nI L ∧ left' = nI (L - t) ∧ ad = t ∧ dn = 0 ∧ full) ∨ (∃ L, 0 < L ∧ L ≤ t ∧ L < 2 ^ 31 ∧ left = nI L ∧ left' = 0 ∧ ad = L ∧ dn = 1 ∧ (full ↔ L = t))
theorem SpR_up {left left' : Int32} {t ad : Nat} {dn : Int32} {full : Prop} (h : SpR left t left' ad dn full) (hd : dn = 0) : full ∧ ad = t ∧ LfOK left' := by
  rcases h with ⟨a, b, c, d, e⟩ | ⟨L, a, b, c, d, e, f, g⟩ | ⟨L, a, b, a', c, d, e, f, g⟩
  · exact ⟨e, c, Or.inl b⟩
  · exact ⟨g, e, Or.inr ⟨L - t, by omega, by omega, d⟩⟩
  · rw [hd] at f; exact absurd f (by decide)
theorem SpR_dn {left left' : Int32} {t ad : Nat} {dn : Int32} {full : Prop} (h : SpR left t left' ad dn full) : (dn = 0 ∨ (dn = 1 ∧ left' = 0)) := by
  rcases h with ⟨a, b, c, d, e⟩ | ⟨L, a, b, c, d, e, f, g⟩ | ⟨L, a, b, a', c, d, e, f, g⟩
  · exact Or.inl d
  · exact Or.inl f
  · exact Or.inr ⟨f, d⟩
theorem SpR_add {left l1 l2 : Int32} {t u a1 a2 : Nat} {d2 : Int32} {f1 f2 : Prop} (h1 : SpR left t l1 a1 0 f1) (h2 : SpR l1 u l2 a2 d2 f2) : SpR left (t + u) l2 (a1 + a2) d2 f2 := by
  rcases h1 with ⟨a, b, c, d, e⟩ | ⟨L, a, b, c, d, e, f, g⟩ | ⟨L, a, b, a', c, d, e, f, g⟩
  · rw [b] at h2
    rcases h2 with ⟨a', b', c', d', e'⟩ | ⟨L', a', b', c', d', e', f', g'⟩ | ⟨L', a', b', a'', c', d', e', f', g'⟩
    · exact Or.inl ⟨a, b', by omega, d', e'⟩
    · exact absurd c'.symm (nI_nm1 b')
    · exact absurd c'.symm (nI_nm1 a'')
  · rw [d] at h2
    rcases h2 with ⟨a', b', c', d', e'⟩ | ⟨L', a', b', c', d', e', f', g'⟩ | ⟨L', a', b', a'', c', d', e', f', g'⟩
    · exact absurd a' (nI_nm1 (by omega))
    · rw [nI_eq (by omega) (by omega)] at c'
      exact Or.inr (Or.inl ⟨L, by omega, b, c, by rw [d']; congr 1; omega, by omega, f', g'⟩)
    · rw [nI_eq (by omega) (by omega)] at c'
      exact Or.inr (Or.inr ⟨L, by omega, by omega, b, c, d', by omega, f', by rw [g']; omega⟩)
  · exact absurd f (by decide)
theorem SpR_cut {left l1 : Int32} {t a1 : Nat} {f1 : Prop} (u : Nat) (h1 : SpR left t l1 a1 1 f1) (hu : 0 < u) : SpR left (t + u) l1 a1 1 False := by
  rcases h1 with ⟨a, b, c, d, e⟩ | ⟨L, a, b, c, d, e, f, g⟩ | ⟨L, a, b, a', c, d, e, f, g⟩
  · exact absurd d (by decide)
  · exact absurd f (by decide)
  · exact Or.inr (Or.inr ⟨L, a, by omega, a', c, d, e, rfl, by simp; omega⟩)
theorem SpR_fun {left l1 l2 : Int32} {t a1 a2 : Nat} {d1 d2 : Int32} {f1 f2 : Prop} (h1 : SpR left t l1 a1 d1 f1) (h2 : SpR left t l2 a2 d2 f2) : l1 = l2 ∧ a1 = a2 ∧ d1 = d2 ∧ (f1 ↔ f2) := by
  rcases h1 with ⟨a, b, c, d, e⟩ | ⟨L, a, b, c, d, e, f, g⟩ | ⟨L, a, b, a3, c, d, e, f, g⟩
  · rcases h2 with ⟨a', b', c', d', e'⟩ | ⟨L', a', b', c', d', e', f', g'⟩ | ⟨L', a', b', a'', c', d', e', f', g'⟩
    · exact ⟨by rw [b, b'], by omega, by rw [d, d'], by simp [e, e']⟩
    · rw [a] at c'; exact absurd c'.symm (nI_nm1 b')
    · rw [a] at c'; exact absurd c'.symm (nI_nm1 a'')
  · rcases h2 with ⟨a', b', c', d', e'⟩ | ⟨L', a', b', c', d', e', f', g'⟩ | ⟨L', a', b', a'', c', d', e', f', g'⟩
    · rw [c] at a'; exact absurd a' (nI_nm1 b)
    · rw [c, nI_eq b b'] at c'
      subst c'
      exact ⟨by rw [d, d'], by omega, by rw [f, f'], by simp [g, g']⟩
    · rw [c, nI_eq b a''] at c'
      omega
  · rcases h2 with ⟨a', b', c', d', e'⟩ | ⟨L', a', b', c', d', e', f', g'⟩ | ⟨L', a', b', a'', c', d', e', f', g'⟩
    · rw [c] at a'; exact absurd a' (nI_nm1 a3)
    · rw [c, nI_eq a3 b'] at c'
      omega
    · rw [c, nI_eq a3 a''] at c'
      subst c'
      exact ⟨by rw [d, d'], by omega, by rw [f, f'], by rw [g, g']⟩
theorem w_write2 {Y : Ly} {d row src p a n : Nat} {M : Mm} {Kn : Int32 → Mm → Prop} (hkd : yK Y d = 3) (hkr : yK Y row = 100) (hks : yK Y src = 100) (hne : row ≠ d) (hsd : src ≠ d) (hsr : src ≠ row) (hR : mR M d 0 = some row) (hp : p + n ≤ yN Y row) (ha : a + n ≤ yN Y src) (hb : yN Y row < 2 ^ 30) (hb2 : yN Y src < 2 ^ 30) (h3 : mI M d 3 = 0) (hl : LfOK (mI M d 2))
    (h : ∀ l' ad dn full f, SpR (mI M d 2) (tch p n) l' ad dn full → (∀ j, (j < p ∨ p + n ≤ j) → f j = mI M row j) → (full → f = cp (mI M row) (mI M src) a p n) → Kn (if dn = 0 then 1 else 0) (dk M d row f (mI M d 1 + nI ad) l' dn)) : f_X3_write Y d (nI p) src (nI a) (nI n) M Kn := by
  have htn : tch p n ≤ n := by unfold tch; split <;> omega
  refine w_write hkd hkr hks hne hsd hsr hR hp ha hb hb2 rfl h3 ?_ ?_ ?_ hl
  · intro e
    exact h (-1) (tch p n) 0 True _ (Or.inl ⟨e, rfl, rfl, rfl, trivial⟩) (fun j hj => cp_out hj) (fun _ => rfl)
  · intro L h1 h2 e
    exact h (nI (L - tch p n)) (tch p n) 0 True _ (Or.inr (Or.inl ⟨L, h1, h2, e, rfl, rfl, rfl, trivial⟩)) (fun j hj => cp_out hj) (fun _ => rfl)
  · intro L h1 h2 e f hf hfull
    exact h 0 L 1 (L = tch p n) f (Or.inr (Or.inr ⟨L, h1, h2, by omega, e, rfl, rfl, rfl, Iff.rfl⟩)) hf hfull
theorem c_writeHead {Y : Ly} {q : Nat → Nat → Nat} {nL W nB l : Nat} {S : List Sg} {M : Mm} {Kn : Int32 → Mm → Prop} (hC : SC Y q nL W nB) (hR : SR q nL (mR M)) (hl : l ≤ nL) (hT : TabM q l M S) (hS : S.length ≤ 60) (hB : ∀ s, s ∈ S → s.1 < 2 ^ 20 ∧ sz s < 2 ^ 30) (h0 : mI M (q (l + 1) 0) 0 = nI (l + 1)) (h3 : mI M (q 0 10) 3 = 0) (hlf : LfOK (mI M (q 0 10) 2))
    (h : ∀ F l' ad dn full f, SpR (mI M (q 0 10) 2) 1 l' ad dn full → (∀ j, (j < (l + 1) * 1024 ∨ (l + 1) * 1024 + 500 ≤ j) → f j = mI M (q 0 11) j) → (full → Lie f ((l + 1) * 1024) (hdL (mJ M (q (l + 1) 0) 1) (mJ M (q (l + 1) 0) 2) S)) → Kn (if dn = 0 then 1 else 0) (dk (sI M (q 0 16) F) (q 0 10) (q 0 11) f (mI M (q 0 10) 1 + nI ad) l' dn)) : f_X9_writeHead Y (q 0 13) (q (l + 1) 0) M Kn := by
  have hd := sdims hC
  unfold f_X9_writeHead
  refine ⟨sk_0_13 hC, c_fillHead hC hR hl hT hS hB ?_⟩
  intro F hF
  simp only [mR_sI]
  refine ⟨_, sr_0_13_0 hR, sk_t_0 hC l hl, _, sr_0_13_5 hR, _, sr_0_13_5 hR, sk_0_16 hC, sk_0_10 hC, ?_⟩
  rw [I_ne hC _ _ (by omega), h0, sn_0_16 hC, show (1024 : Int32) = nI 1024 from rfl, pk_mul]
  have ht : tch ((l + 1) * 1024) 500 = 1 := by unfold tch; rw [if_neg (by decide)]; omega
  refine w_write2 (a := 0) (sk_0_10 hC) (sk_0_11 hC) (sk_0_16 hC) (q_ne hC (by omega)) (q_ne hC (by omega)) (q_ne hC (by omega)) (sr_0_10_0 hR) ?_ ?_ ?_ ?_ ?_ ?_ ?_
  · rw [sn_0_11 hC]; omega
  · rw [sn_0_16 hC]; omega
  · rw [sn_0_11 hC]; omega
  · rw [sn_0_16 hC]; omega
  · rw [I_ne hC _ _ (by omega)]; exact h3
  · rw [I_ne hC _ _ (by omega)]; exact hlf
  · rw [I_ne hC _ _ (by omega), I_ne hC _ _ (by omega), mI_sI_self, ht]
    intro l' ad dn full f hsp hout hfull
    refine ⟨by split <;> first | exact bz_0 | exact bz_1, h F l' ad dn full f hsp hout (fun hf => ?_)⟩
    rw [hfull hf]
    exact cp_Lie hF (by rw [hdL_len _ _ hS]; omega)
