/-! segments and tables -/
abbrev Bt : Type := List Int32
abbrev Sg : Type := Nat × List Bt
def sz (s : Sg) : Nat := (s.2.map List.length).sum
def pbs : Nat → List Bt → List (Nat × Bt)
  | _, [] => []
  | a, b :: bs => (a, b) :: pbs (a + b.length) bs
def PS (S : List Sg) : List (Nat × Bt) := S.flatMap (fun s => pbs (s.1 * 1024) s.2)
def BS (S : List Sg) : List Bt := S.flatMap (fun s => s.2)
theorem pbs_snd : ∀ (bs : List Bt) (a : Nat), (pbs a bs).map (fun p => p.2) = bs
  | [], _ => rfl
  | b :: bs, a => by simp [pbs, pbs_snd bs]
theorem pbs_len (bs : List Bt) (a : Nat) : (pbs a bs).length = bs.length := by
  have := congrArg List.length (pbs_snd bs a)
  simpa using this
theorem pbs_app : ∀ (x y : List Bt) (a : Nat), pbs a (x ++ y) = pbs a x ++ pbs (a + (x.map List.length).sum) y
  | [], y, a => by simp [pbs]
  | b :: x, y, a => by
    simp only [List.cons_append, pbs, List.map_cons, List.sum_cons, pbs_app x y, Nat.add_assoc]
theorem PS_snd (S : List Sg) : (PS S).map (fun p => p.2) = BS S := by
  unfold PS BS
  induction S with
  | nil => rfl
  | cons s S ih => simp only [List.flatMap_cons, List.map_append, ih, pbs_snd]
theorem PS_len (S : List Sg) : (PS S).length = (BS S).length := by
  have := congrArg List.length (PS_snd S)
  simpa using this
theorem PS_app (S T : List Sg) : PS (S ++ T) = PS S ++ PS T := by simp [PS]
theorem PS_1 (s : Sg) : PS [s] = pbs (s.1 * 1024) s.2 := by simp [PS]
theorem PS_last (S : List Sg) (k : Nat) (bs : List Bt) (b : Bt) : PS (S ++ [(k, bs ++ [b])]) = PS (S ++ [(k, bs)]) ++ [(k * 1024 + sz (k, bs), b)] := by
  rw [PS_app, PS_app, PS_1, PS_1, pbs_app, List.append_assoc]
  rfl
theorem sz_add (k : Nat) (bs : List Bt) (b : Bt) : sz (k, bs ++ [b]) = sz (k, bs) + b.length := by simp [sz]
def Ar (f : Nat → Int32) (xs : List Nat) : Prop := ∀ i, i < xs.length → f i = nI (xs.getD i 0)
theorem Ar_nil (f : Nat → Int32) : Ar f [] := fun i h => absurd h (by simp)
theorem getD_app1 {xs ys : List Nat} {i : Nat} (h : i < xs.length) : (xs ++ ys).getD i 0 = xs.getD i 0 := by
  simp [List.getD, List.getElem?_append, h]
theorem getD_app2 {xs ys : List Nat} (i : Nat) : (xs ++ ys).getD (xs.length + i) 0 = ys.getD i 0 := by
  simp [List.getD, List.getElem?_append, show ¬ xs.length + i < xs.length from by omega]
theorem Ar_snoc {f : Nat → Int32} {xs : List Nat} (h : Ar f xs) (x : Nat) : Ar (m1 f xs.length (nI x)) (xs ++ [x]) := by
  intro i hi
  rw [List.length_append, List.length_singleton] at hi
  by_cases e : i = xs.length
  · subst e
    rw [m1_self]
    have := getD_app2 (xs := xs) (ys := [x]) 0
    rw [Nat.add_zero] at this
    rw [this]; rfl
  · rw [m1_ne _ _ e, h i (by omega), getD_app1 (by omega)]
theorem Ar_set {f : Nat → Int32} {xs : List Nat} {y : Nat} (h : Ar f (xs ++ [y])) (x : Nat) : Ar (m1 f xs.length (nI x)) (xs ++ [x]) := by
  have h' : Ar f xs := fun i hi => by rw [h i (by rw [List.length_append]; omega), getD_app1 hi]
  exact Ar_snoc h' x
theorem Ar_last {f : Nat → Int32} {xs : List Nat} {y : Nat} (h : Ar f (xs ++ [y])) : f xs.length = nI y := by
  rw [h xs.length (by simp)]
  have := getD_app2 (xs := xs) (ys := [y]) 0
  rw [Nat.add_zero] at this
  rw [this]; rfl
theorem Ar_at {f : Nat → Int32} {xs : List Nat} (h : Ar f xs) {i x : Nat} (hx : xs[i]? = some x) : f i = nI x := by
  have hi : i < xs.length := by
    apply Classical.byContradiction
    intro hc
    rw [List.getElem?_eq_none (by omega)] at hx
    cases hx
  rw [h i hi]
  simp [List.getD, hx]
def TabR (tb b1 b2 b3 b4 : Nat → Int32) (S : List Sg) : Prop :=
  tb 3 = nI S.length ∧ tb 7 = nI (PS S).length ∧ Ar b1 (S.map (fun s => s.1)) ∧ Ar b2 (S.map sz) ∧ Ar b3 (S.map (fun s => s.2.length)) ∧ Ar b4 ((PS S).map (fun p => p.1))
def TabM (q : Nat → Nat → Nat) (l : Nat) (M : Mm) (S : List Sg) : Prop := TabR (mI M (q (l + 1) 0)) (mI M (q (l + 1) 1)) (mI M (q (l + 1) 2)) (mI M (q (l + 1) 3)) (mI M (q (l + 1) 4)) S
/-- nothing else has changed -/
def Fr (q : Nat → Nat → Nat) (A : Nat → Nat → Prop) (M M' : Mm) : Prop := (∀ x, (∀ a b, A a b → x ≠ q a b) → mI M' x = mI M x ∧ mJ M' x = mJ M x) ∧ mR M' = mR M
theorem Fr_refl (q : Nat → Nat → Nat) (A : Nat → Nat → Prop) (M : Mm) : Fr q A M M := ⟨fun _ _ => ⟨rfl, rfl⟩, rfl⟩
theorem Fr_trans {q : Nat → Nat → Nat} {A : Nat → Nat → Prop} {M M' M'' : Mm} (h : Fr q A M M') (k : Fr q A M' M'') : Fr q A M M'' :=
  ⟨fun x hx => ⟨((k.1 x hx).1).trans (h.1 x hx).1, ((k.1 x hx).2).trans (h.1 x hx).2⟩, k.2.trans h.2⟩
theorem Fr_mono {q : Nat → Nat → Nat} {A B : Nat → Nat → Prop} {M M' : Mm} (h : Fr q A M M') (hs : ∀ a b, A a b → B a b) : Fr q B M M' :=
  ⟨fun x hx => h.1 x (fun a b hab => hx a b (hs a b hab)), h.2⟩
theorem Fr_sI {q : Nat → Nat → Nat} {A : Nat → Nat → Prop} (M : Mm) (a b : Nat) (f : Nat → Int32) (h : A a b) : Fr q A M (sI M (q a b) f) :=
  ⟨fun x hx => ⟨mI_sI_ne _ _ (hx a b h), rfl⟩, rfl⟩
theorem Fr_sJ {q : Nat → Nat → Nat} {A : Nat → Nat → Prop} (M : Mm) (a b : Nat) (f : Nat → Int64) (h : A a b) : Fr q A M (sJ M (q a b) f) :=
  ⟨fun x hx => ⟨rfl, mJ_sJ_ne _ _ (hx a b h)⟩, rfl⟩
theorem Fr_I {Y : Ly} {q : Nat → Nat → Nat} {nL W nB : Nat} (hC : SC Y q nL W nB) {A : Nat → Nat → Prop} {M M' : Mm} (h : Fr q A M M') {c d : Nat} (hn : ¬ A c d) : mI M' (q c d) = mI M (q c d) :=
  (h.1 (q c d) (fun a b hab e => hn (by rw [sinj hC] at e; rw [e.1, e.2]; exact hab))).1
theorem Fr_J {Y : Ly} {q : Nat → Nat → Nat} {nL W nB : Nat} (hC : SC Y q nL W nB) {A : Nat → Nat → Prop} {M M' : Mm} (h : Fr q A M M') {c d : Nat} (hn : ¬ A c d) : mJ M' (q c d) = mJ M (q c d) :=
  (h.1 (q c d) (fun a b hab e => hn (by rw [sinj hC] at e; rw [e.1, e.2]; exact hab))).2
theorem q_ne {Y : Ly} {q : Nat → Nat → Nat} {nL W nB : Nat} (hC : SC Y q nL W nB) {a b c d : Nat} (h : ¬ (a = c ∧ b = d)) : q a b ≠ q c d := fun e => h (by rw [sinj hC] at e; exact e)
theorem I_ne {Y : Ly} {q : Nat → Nat → Nat} {nL W nB : Nat} (hC : SC Y q nL W nB) (M : Mm) {a b c d : Nat} (f : Nat → Int32) (h : ¬ (c = a ∧ d = b)) : mI (sI M (q a b) f) (q c d) = mI M (q c d) := mI_sI_ne _ _ (q_ne hC h)
theorem c_addSegment {Y : Ly} {q : Nat → Nat → Nat} {nL W nB l k : Nat} {S : List Sg} {M : Mm} {Kn : Mm → Prop} (hC : SC Y q nL W nB) (hR : SR q nL (mR M)) (hl : l ≤ nL) (hT : TabM q l M S) (hS : S.length < 60)
    (h : ∀ M', Fr q (fun a _ => a = l + 1) M M' → mJ M' = mJ M → mI M' (q (l + 1) 0) 0 = mI M (q (l + 1) 0) 0 → TabM q l M' (S ++ [(k, [])]) → Kn M') : f_X8_addSegment Y (q (l + 1) 0) (nI k) M Kn := by
  obtain ⟨t3, t7, tb, tz, th, ta⟩ := hT
  unfold f_X8_addSegment
  rw [t3, nI_clamp (by omega)]
  refine ⟨sk_t_0 hC l hl, _, sr_t_4 hR l hl, sk_t_1 hC l hl, by rw [sn_t_1 hC l hl]; exact vp_in_nI hS (by decide), fun M5 e5 => ?_⟩
  subst e5
  simp only [mR_sI]
  refine ⟨_, sr_t_5 hR l hl, sk_t_2 hC l hl, ?_, fun M9 e9 => ?_⟩
  · rw [I_ne hC _ _ (by omega), t3, sn_t_2 hC l hl]; exact vp_in_nI hS (by decide)
  rw [I_ne hC _ _ (by omega), I_ne hC _ _ (by omega), t3, nI_clamp (by omega)] at e9
  subst e9
  simp only [mR_sI]
  refine ⟨_, sr_t_6 hR l hl, sk_t_3 hC l hl, ?_, fun M13 e13 M14 e14 => ?_⟩
  · rw [I_ne hC _ _ (by omega), I_ne hC _ _ (by omega), t3, sn_t_3 hC l hl]; exact vp_in_nI hS (by decide)
  rw [I_ne hC _ _ (by omega), I_ne hC _ _ (by omega), I_ne hC _ _ (by omega), I_ne hC _ _ (by omega), t3, nI_clamp (by omega)] at e13
  subst e13
  rw [I_ne hC _ _ (by omega), I_ne hC _ _ (by omega), I_ne hC _ _ (by omega), t3, nI_1] at e14
  subst e14
  refine h _ ?_ rfl ?_ ?_
  · exact Fr_trans (Fr_trans (Fr_trans (Fr_sI _ _ _ _ rfl) (Fr_sI _ _ _ _ rfl)) (Fr_sI _ _ _ _ rfl)) (Fr_sI _ _ _ _ rfl)
  · rw [mI_sI_self]; simp [m1]
  · have e0 : PS (S ++ [(k, [])]) = PS S := by rw [PS_app, PS_1]; simp [pbs]
    unfold TabM TabR
    rw [e0]
    simp only [mI_sI_self]
    rw [I_ne hC _ _ (by omega), I_ne hC _ _ (by omega), I_ne hC _ _ (by omega), mI_sI_self, I_ne hC _ _ (by omega), I_ne hC _ _ (by omega), mI_sI_self, I_ne hC _ _ (by omega), mI_sI_self, I_ne hC _ _ (by omega), I_ne hC _ _ (by omega), I_ne hC _ _ (by omega), I_ne hC _ _ (by omega)]
    simp only [List.map_append, List.map_cons, List.map_nil, List.length_append, List.length_singleton]
    refine ⟨by simp [m1], by simp [m1, t7], ?_, ?_, ?_, ta⟩
    · have := Ar_snoc tb k; rwa [List.length_map] at this
    · have := Ar_snoc tz 0; rw [List.length_map] at this; exact this
    · have := Ar_snoc th 0; rw [List.length_map] at this; exact this
theorem c_addBatch {Y : Ly} {q : Nat → Nat → Nat} {nL W nB l k : Nat} {S : List Sg} {bs : List Bt} {b : Bt} {M : Mm} {Kn : Int32 → Mm → Prop} (hC : SC Y q nL W nB) (hR : SR q nL (mR M)) (hl : l ≤ nL) (hT : TabM q l M (S ++ [(k, bs)])) (hS : S.length < 60) (hP : (PS (S ++ [(k, bs)])).length < nB * 1024 / 61)
    (h : ∀ M', Fr q (fun a _ => a = l + 1) M M' → mJ M' = mJ M → mI M' (q (l + 1) 0) 0 = mI M (q (l + 1) 0) 0 → TabM q l M' (S ++ [(k, bs ++ [b])]) → Kn (nI (k * 1024 + sz (k, bs))) M') : f_X8_addBatch Y (q (l + 1) 0) (nI b.length) M Kn := by
  obtain ⟨t3, t7, tb, tz, th, ta⟩ := hT
  have hd := sdims hC
  have x3 : (mI M (q (l + 1) 0) 3) - 1 = nI S.length := by
    rw [t3, List.length_append, List.length_singleton]; exact nI_pred _
  simp only [List.map_append, List.map_cons, List.map_nil] at tb tz th ta
  have eb := Ar_last tb
  have ez := Ar_last tz
  have eh := Ar_last th
  rw [List.length_map] at eb ez eh
  unfold f_X8_addBatch
  rw [x3]
  refine ⟨sk_t_0 hC l hl, fun x2 e2 => ?_⟩
  subst e2
  rw [nI_clamp (by omega)]
  refine ⟨_, sr_t_4 hR l hl, sk_t_1 hC l hl, by rw [sn_t_1 hC l hl]; exact vp_in_nI hS (by decide), _, sr_t_5 hR l hl, sk_t_2 hC l hl, by rw [sn_t_2 hC l hl]; exact vp_in_nI hS (by decide), fun x9 e9 => ?_⟩
  rw [eb, ez, show (1024 : Int32) = nI 1024 from rfl, pk_mul, nI_add] at e9
  subst e9
  refine ⟨_, sr_t_8 hR l hl, sk_t_4 hC l hl, ?_, fun M13 e13 M14 e14 => ?_⟩
  · rw [t7, sn_t_4 hC l hl]; exact vp_in_nI hP (by omega)
  rw [t7, nI_clamp (by omega)] at e13
  subst e13
  rw [I_ne hC _ _ (by omega), t7, nI_1] at e14
  subst e14
  simp only [mR_sI]
  refine ⟨_, sr_t_5 hR l hl, sk_t_2 hC l hl, by rw [sn_t_2 hC l hl]; exact vp_in_nI hS (by decide), by rw [sn_t_2 hC l hl]; exact vp_in_nI hS (by decide), fun M19 e19 => ?_⟩
  rw [I_ne hC _ _ (by omega), I_ne hC _ _ (by omega), ez, nI_add] at e19
  subst e19
  simp only [mR_sI]
  refine ⟨_, sr_t_6 hR l hl, sk_t_3 hC l hl, by rw [sn_t_3 hC l hl]; exact vp_in_nI hS (by decide), by rw [sn_t_3 hC l hl]; exact vp_in_nI hS (by decide), fun M24 e24 => ?_⟩
  rw [I_ne hC _ _ (by omega), I_ne hC _ _ (by omega), I_ne hC _ _ (by omega), eh, nI_1] at e24
  subst e24
  refine h _ ?_ rfl ?_ ?_
  · exact Fr_trans (Fr_trans (Fr_trans (Fr_sI _ _ _ _ rfl) (Fr_sI _ _ _ _ rfl)) (Fr_sI _ _ _ _ rfl)) (Fr_sI _ _ _ _ rfl)
  · rw [I_ne hC _ _ (by omega), I_ne hC _ _ (by omega), mI_sI_self]; simp [m1]
  · unfold TabM TabR
    rw [PS_last]
    have r0 : ∀ (f2 f3 f0 f4 : Nat → Int32) (M0 : Mm), mI (sI (sI (sI (sI M0 (q (l + 1) 4) f4) (q (l + 1) 0) f0) (q (l + 1) 2) f2) (q (l + 1) 3) f3) (q (l + 1) 0) = f0 := fun f2 f3 f0 f4 M0 => by
      rw [I_ne hC _ _ (by omega), I_ne hC _ _ (by omega), mI_sI_self]
    have r1 : ∀ (f2 f3 f0 f4 : Nat → Int32) (M0 : Mm), mI (sI (sI (sI (sI M0 (q (l + 1) 4) f4) (q (l + 1) 0) f0) (q (l + 1) 2) f2) (q (l + 1) 3) f3) (q (l + 1) 1) = mI M0 (q (l + 1) 1) := fun f2 f3 f0 f4 M0 => by
      rw [I_ne hC _ _ (by omega), I_ne hC _ _ (by omega), I_ne hC _ _ (by omega), I_ne hC _ _ (by omega)]
    have r2 : ∀ (f2 f3 f0 f4 : Nat → Int32) (M0 : Mm), mI (sI (sI (sI (sI M0 (q (l + 1) 4) f4) (q (l + 1) 0) f0) (q (l + 1) 2) f2) (q (l + 1) 3) f3) (q (l + 1) 2) = f2 := fun f2 f3 f0 f4 M0 => by
      rw [I_ne hC _ _ (by omega), mI_sI_self]
    have r4 : ∀ (f2 f3 f0 f4 : Nat → Int32) (M0 : Mm), mI (sI (sI (sI (sI M0 (q (l + 1) 4) f4) (q (l + 1) 0) f0) (q (l + 1) 2) f2) (q (l + 1) 3) f3) (q (l + 1) 4) = f4 := fun f2 f3 f0 f4 M0 => by
      rw [I_ne hC _ _ (by omega), I_ne hC _ _ (by omega), I_ne hC _ _ (by omega), mI_sI_self]
    rw [r0, r1, r2, r4, mI_sI_self]
    simp only [List.map_append, List.map_cons, List.map_nil, List.length_append, List.length_singleton]
    rw [List.length_append, List.length_singleton] at t3
    refine ⟨by simp [m1, t3], by simp [m1], tb, ?_, ?_, ?_⟩
    · have := Ar_set tz (sz (k, bs) + b.length); rw [List.length_map] at this; rw [sz_add]; exact this
    · have := Ar_set th (bs.length + 1); rw [List.length_map] at this; exact this
    · have ta' : Ar (mI M (q (l + 1) 4)) ((PS (S ++ [(k, bs)])).map (fun p => p.1)) := ta
      have := Ar_snoc ta' (k * 1024 + sz (k, bs)); rw [List.length_map] at this; exact this
