/-! compaction: which batches stay, how they are packed -/
def pks (W : Nat) (X : List (List Bt)) (b : Bt) : List (List Bt) :=
  match X.getLast? with
  | none => X ++ [[b]]
  | some g => if tot g + b.length ≤ W * 1024 then X.dropLast ++ [g ++ [b]] else X ++ [[b]]
theorem snoc_cases {α : Type} (X : List α) : X = [] ∨ ∃ X0 g, X = X0 ++ [g] := by
  cases X with
  | nil => exact Or.inl rfl
  | cons x xs => exact Or.inr ⟨(x :: xs).dropLast, (x :: xs).getLast (by simp), (List.dropLast_concat_getLast (by simp)).symm⟩
theorem pks_cases (W : Nat) (X : List (List Bt)) (b : Bt) : (∃ X0 g, X = X0 ++ [g] ∧ tot g + b.length ≤ W * 1024 ∧ pks W X b = X0 ++ [g ++ [b]]) ∨ ((∀ X0 g, X = X0 ++ [g] → ¬ tot g + b.length ≤ W * 1024) ∧ pks W X b = X ++ [[b]]) := by
  rcases snoc_cases X with e | ⟨X0, g, e⟩
  · refine Or.inr ⟨fun X0 g e2 => ?_, ?_⟩
    · rw [e] at e2; simp at e2
    · rw [e]; rfl
  · have ep : pks W X b = if tot g + b.length ≤ W * 1024 then X0 ++ [g ++ [b]] else X ++ [[b]] := by
      unfold pks
      rw [e, List.getLast?_concat, List.dropLast_concat]
    by_cases z : tot g + b.length ≤ W * 1024
    · rw [if_pos z] at ep
      exact Or.inl ⟨X0, g, e, z, ep⟩
    · rw [if_neg z] at ep
      refine Or.inr ⟨fun X1 g1 e1 => ?_, ep⟩
      rw [e] at e1
      rw [← (snoc_inj e1).2]; exact z
theorem pks_flat (W : Nat) (X : List (List Bt)) (b : Bt) : (pks W X b).flatten = X.flatten ++ [b] := by
  rcases pks_cases W X b with ⟨X0, g, e, -, h⟩ | ⟨-, h⟩
  · rw [h, e]; simp
  · rw [h]; simp
theorem pks_len (W : Nat) (X : List (List Bt)) (b : Bt) : X.length ≤ (pks W X b).length ∧ (pks W X b).length ≤ X.length + 1 := by
  rcases pks_cases W X b with ⟨X0, g, e, -, h⟩ | ⟨-, h⟩
  · rw [h, e]; simp
  · rw [h]; simp
def pko (W : Nat) (X : List (List Bt)) : Option Bt → List (List Bt)
  | none => X
  | some b => pks W X b
def pkf (W : Nat) (X : List (List Bt)) (os : List (Option Bt)) : List (List Bt) := os.foldl (pko W) X
theorem pkf_s {W : Nat} {X : List (List Bt)} {os : List (Option Bt)} {i : Nat} {o : Option Bt} (h : os[i]? = some o) : pkf W X (os.take (i + 1)) = pko W (pkf W X (os.take i)) o := by
  rw [take_s h]; unfold pkf; rw [List.foldl_append]; rfl
theorem pko_len (W : Nat) (X : List (List Bt)) (o : Option Bt) : X.length ≤ (pko W X o).length := by
  cases o with
  | none => exact Nat.le_refl _
  | some b => exact (pks_len W X b).1
theorem pkf_len (W : Nat) : ∀ (os : List (Option Bt)) (X : List (List Bt)), X.length ≤ (pkf W X os).length
  | [], _ => Nat.le_refl _
  | o :: os, X => Nat.le_trans (pko_len W X o) (pkf_len W os _)
theorem pkf_app (W : Nat) (X : List (List Bt)) (x y : List (Option Bt)) : pkf W X (x ++ y) = pkf W (pkf W X x) y := by unfold pkf; rw [List.foldl_append]
theorem pkf_tk (W : Nat) (X : List (List Bt)) (os : List (Option Bt)) (i : Nat) : (pkf W X (os.take i)).length ≤ (pkf W X os).length := by
  have := pkf_len W (os.drop i) (pkf W X (os.take i))
  rw [← pkf_app, List.take_append_drop] at this
  exact this
theorem pkf_flat (W : Nat) : ∀ (os : List (Option Bt)) (X : List (List Bt)), (pkf W X os).flatten = X.flatten ++ os.filterMap id
  | [], _ => by simp [pkf]
  | none :: os, X => by
    show (pkf W X os).flatten = _
    rw [pkf_flat W os X]; rfl
  | some b :: os, X => by
    show (pkf W (pks W X b) os).flatten = _
    rw [pkf_flat W os _, pks_flat]; simp
def PkI (W : Nat) (X : List (List Bt)) : Prop := ∀ g, g ∈ X → g ≠ [] ∧ tot g ≤ W * 1024
theorem PkI_s {W : Nat} {X : List (List Bt)} {b : Bt} (h : PkI W X) (hb : b.length ≤ W * 1024) : PkI W (pks W X b) := by
  intro g hg
  rcases pks_cases W X b with ⟨X0, g0, e, h1, h2⟩ | ⟨-, h2⟩
  · rw [h2, List.mem_append, List.mem_singleton] at hg
    rcases hg with hg | rfl
    · exact h g (by rw [e]; simp [hg])
    · exact ⟨by simp, by rw [tot_s]; exact h1⟩
  · rw [h2, List.mem_append, List.mem_singleton] at hg
    rcases hg with hg | rfl
    · exact h g hg
    · exact ⟨by simp, by simpa [tot] using hb⟩
theorem PkI_f {W : Nat} : ∀ {os : List (Option Bt)} {X : List (List Bt)}, PkI W X → (∀ b, some b ∈ os → b.length ≤ W * 1024) → PkI W (pkf W X os)
  | [], _, h, _ => h
  | none :: os, X, h, hb => PkI_f (os := os) h (fun b hm => hb b (List.mem_cons_of_mem _ hm))
  | some b :: os, X, h, hb => PkI_f (os := os) (PkI_s h (hb b (List.mem_cons_self ..))) (fun b hm => hb b (List.mem_cons_of_mem _ hm))
def PkB (t f : Nat) (X : List (List Bt)) : Prop := X.length ≤ t ∨ (X.length = t + 1 ∧ ∀ X0 g, X = X0 ++ [g] → tot g ≤ f)
theorem PkB_up {t f n : Nat} {X : List (List Bt)} (h : PkB t f X) : PkB t (f + n) X := by
  rcases h with h | ⟨h, k⟩
  · exact Or.inl h
  · exact Or.inr ⟨h, fun X0 g e => by have := k X0 g e; omega⟩
theorem PkB_s {W t f n : Nat} {X : List (List Bt)} {b : Bt} (h : PkB t f X) (hb : b.length ≤ n) (hf : f + n ≤ W * 1024) : PkB t (f + n) (pks W X b) := by
  rcases pks_cases W X b with ⟨X0, g0, e, h1, h2⟩ | ⟨h1, h2⟩
  · rw [h2]
    have el : (X0 ++ [g0 ++ [b]]).length = X.length := by rw [e]; simp
    rcases h with h | ⟨h, k⟩
    · exact Or.inl (by omega)
    · refine Or.inr ⟨by omega, fun X1 g1 e1 => ?_⟩
      rw [← (snoc_inj e1).2, tot_s]
      have := k X0 g0 e
      omega
  · rw [h2]
    rcases h with h | ⟨h, k⟩
    · by_cases z : X.length + 1 ≤ t
      · exact Or.inl (by simpa using z)
      · refine Or.inr ⟨by simp; omega, fun X1 g1 e1 => ?_⟩
        rw [← (snoc_inj e1).2]
        simp [tot]; omega
    · exfalso
      rcases snoc_cases X with e | ⟨X0, g, e⟩
      · rw [e] at h; simp at h
      · exact h1 X0 g e (by have := k X0 g e; omega)
def Shr : List Bt → List (Option Bt) → Prop
  | [], [] => True
  | b :: bs, o :: os => (∀ b', o = some b' → b'.length ≤ b.length) ∧ Shr bs os
  | [], _ :: _ => False
  | _ :: _, [] => False
theorem Shr_app : ∀ {x y : List Bt} {os : List (Option Bt)}, Shr (x ++ y) os → ∃ o1 o2, os = o1 ++ o2 ∧ Shr x o1 ∧ Shr y o2
  | [], _, os, h => ⟨[], os, rfl, trivial, h⟩
  | b :: x, y, [], h => absurd h (fun z => z)
  | b :: x, y, o :: os, h => by
    obtain ⟨h1, h2⟩ := (show _ ∧ Shr (x ++ y) os from h)
    obtain ⟨o1, o2, e, a, c⟩ := Shr_app h2
    exact ⟨o :: o1, o2, by rw [e]; rfl, ⟨h1, a⟩, c⟩
theorem PkB_seg {W t : Nat} : ∀ {bs : List Bt} {os : List (Option Bt)} {f : Nat} {X : List (List Bt)}, Shr bs os → PkB t f X → f + tot bs ≤ W * 1024 → PkB t (f + tot bs) (pkf W X os)
  | [], [], f, X, _, h, _ => h
  | [], _ :: _, _, _, h, _, _ => absurd h (fun z => z)
  | _ :: _, [], _, _, h, _, _ => absurd h (fun z => z)
  | b :: bs, o :: os, f, X, h, k, hf => by
    have et : tot (b :: bs) = b.length + tot bs := by simp [tot]
    rw [et] at hf ⊢
    rw [← Nat.add_assoc]
    refine PkB_seg (os := os) h.2 ?_ (by omega)
    cases o with
    | none => exact PkB_up k
    | some b' => exact PkB_s k (h.1 b' rfl) (by omega)
theorem PkB_all {W : Nat} : ∀ {S : List Sg} {t : Nat} {os : List (Option Bt)} {X : List (List Bt)}, Shr (BS S) os → (∀ s, s ∈ S → sz s ≤ W * 1024) → X.length ≤ t → (pkf W X os).length ≤ t + S.length
  | [], t, [], X, _, _, h => h
  | [], _, _ :: _, _, h, _, _ => absurd h (fun z => z)
  | s :: S, t, os, X, h, hs, hX => by
    obtain ⟨o1, o2, e, a, c⟩ := Shr_app (show Shr (s.2 ++ BS S) os from h)
    rw [e, pkf_app]
    have h1 := hs s (List.mem_cons_self ..)
    have := PkB_seg (W := W) (t := t) (f := 0) a (Or.inl hX) (by rw [Nat.zero_add]; exact h1)
    have h2 : (pkf W X o1).length ≤ t + 1 := by rcases this with g | ⟨g, -⟩ <;> omega
    have := PkB_all (S := S) (t := t + 1) c (fun s hs' => hs s (List.mem_cons_of_mem _ hs')) h2
    simp only [List.length_cons]
    omega
theorem Shr_of : ∀ {bs : List Bt} {os : List (Option Bt)}, bs.length = os.length → (∀ (i : Nat) b b', bs[i]? = some b → os[i]? = some (some b') → b'.length ≤ b.length) → Shr bs os
  | [], [], _, _ => trivial
  | [], _ :: _, h, _ => by simp at h
  | _ :: _, [], h, _ => by simp at h
  | b :: bs, o :: os, h, k => ⟨fun b' e => k 0 b b' rfl (by rw [e]; rfl), Shr_of (by simpa using h) (fun i b b' h1 h2 => k (i + 1) b b' h1 h2)⟩
noncomputable def kcn (Q : KQ) (now : Int32) (x : Nat × Bt) : Nat := (kst Q now x.1 x.2 (rsB x.2).length).2.1
def kno (xs : List Bt) (i : Nat) (b : Bt) : Prop := prB b ≠ -1 ∧ ((xs.drop (i + 1)).filter (fun c => decide (prB c = prB b))).length < 5
noncomputable def kop (Q : KQ) (now : Int32) (xs : List Bt) (x : Nat × Bt) (i : Nat) : Option Bt := cif (kcn Q now x = 0 ∧ ¬ kno xs i x.2) none (some (kbt Q now x.1 x.2))
noncomputable def koz (Q : KQ) (now : Int32) (xs : List Bt) (Z : List (Nat × Bt)) : List (Option Bt) := Z.zipIdx.map (fun y => kop Q now xs y.1 y.2)
noncomputable def gnz (Q : KQ) (now : Int32) (Z : List (Nat × Bt)) : Nat := (Z.map (fun x => (rsB x.2).length - kcn Q now x)).sum
def lsz (os : List (Option Bt)) : Nat := (os.filter (fun o => o.isNone)).length
theorem koz_at {Q : KQ} {now : Int32} {xs : List Bt} {Z : List (Nat × Bt)} {i : Nat} {x : Nat × Bt} (h : Z[i]? = some x) : (koz Q now xs Z)[i]? = some (kop Q now xs x i) := by
  unfold koz; rw [List.getElem?_map, zip_get h]; rfl
theorem koz_len (Q : KQ) (now : Int32) (xs : List Bt) (Z : List (Nat × Bt)) : (koz Q now xs Z).length = Z.length := by unfold koz; rw [List.length_map, List.length_zipIdx]
theorem gnz_s {Q : KQ} {now : Int32} {Z : List (Nat × Bt)} {i : Nat} {x : Nat × Bt} (h : Z[i]? = some x) : gnz Q now (Z.take (i + 1)) = gnz Q now (Z.take i) + ((rsB x.2).length - kcn Q now x) := by
  rw [take_s h]; unfold gnz; simp
theorem lsz_s {os : List (Option Bt)} {i : Nat} {o : Option Bt} (h : os[i]? = some o) : lsz (os.take (i + 1)) = lsz (os.take i) + if o = none then 1 else 0 := by
  rw [take_s h]; unfold lsz
  rw [List.filter_append, List.length_append]
  cases o with
  | none => rfl
  | some b => rfl
theorem kbt_len {Q : KQ} {now : Int32} {p : Nat} {b : Bt} (hb : BatOK b) : (kbt Q now p b).length = 61 + (kst Q now p b (rsB b).length).1.length ∧ (kbt Q now p b).length ≤ b.length ∧ kcn Q now (p, b) ≤ (rsB b).length := by
  obtain ⟨la, hla, hlaB, hrec⟩ := Bat_rec hb
  have h1 := (rp_7 hrec.1 hb.1 _ (Nat.le_refl _)).2
  obtain ⟨h2, h3⟩ := kst_le (Q := Q) (now := now) (p := p) hb _ (Nat.le_refl _)
  have e : (kbt Q now p b).length = 61 + (kst Q now p b (rsB b).length).1.length := by unfold kbt; exact keB_len _ _ _ hb.1
  exact ⟨e, by omega, h3⟩
theorem kop_len {Q : KQ} {now : Int32} {xs : List Bt} {x : Nat × Bt} {i : Nat} (hb : BatOK x.2) {b' : Bt} (h : kop Q now xs x i = some b') : b' = kbt Q now x.1 x.2 ∧ 61 ≤ b'.length ∧ b'.length ≤ x.2.length := by
  by_cases z : kcn Q now x = 0 ∧ ¬ kno xs i x.2
  · unfold kop at h; rw [cif_y z] at h; cases h
  · unfold kop at h; rw [cif_n z] at h; cases h
    have := kbt_len (Q := Q) (now := now) (p := x.1) hb
    exact ⟨rfl, by omega, this.2.1⟩
theorem koz_Shr {Q : KQ} {now : Int32} {xs : List Bt} {Z : List (Nat × Bt)} (hb : ∀ x, x ∈ Z → BatOK x.2) : Shr (Z.map (fun x => x.2)) (koz Q now xs Z) := by
  refine Shr_of (by rw [List.length_map, koz_len]) (fun i b b' h1 h2 => ?_)
  rw [List.getElem?_map] at h1
  cases hx : Z[i]? with
  | none => rw [hx] at h1; cases h1
  | some x =>
    rw [hx] at h1; cases h1
    rw [koz_at hx] at h2
    cases e : kop Q now xs x i with
    | none => rw [e] at h2; cases h2
    | some b2 =>
      rw [e] at h2; cases h2
      exact (kop_len (hb x (List.mem_of_getElem? hx)) e).2.2
theorem Shr_tot : ∀ {bs : List Bt} {os : List (Option Bt)}, Shr bs os → ∀ i, tot ((os.take i).filterMap id) ≤ tot (bs.take i)
  | [], [], _, _ => by simp [tot]
  | [], _ :: _, h, _ => absurd h (fun z => z)
  | _ :: _, [], h, _ => absurd h (fun z => z)
  | b :: bs, o :: os, h, 0 => by simp [tot]
  | b :: bs, o :: os, h, i + 1 => by
    have := Shr_tot (bs := bs) (os := os) h.2 i
    cases o with
    | none => simp [tot] at this ⊢; omega
    | some b' =>
      have := h.1 b' rfl
      simp [tot] at *; omega
