/-! batches without fault -/
def RS : List Int32 → List Rc → Prop
  | bs, [] => bs = []
  | bs, c :: cs => RF bs c ∧ RS (bs.drop (rC c)) cs
def OfS : Nat → List Rc → Nat → Prop
  | _, [], _ => True
  | lo, c :: cs, la => ∃ o, rO c = lN o ∧ lo ≤ o ∧ o ≤ la ∧ OfS (o + 1) cs la
def RecOK (b : Bt) (rs : List Rc) (la : Nat) : Prop := RS (b.drop 61) rs ∧ cntB b = nI rs.length ∧ rs.length ≤ 1000 ∧ (∀ r, r ∈ rs → okT (ftB b + rT r) ∧ ftB b + rT r ≤ gtB b) ∧ OfS 0 rs la
def BatOK (b : Bt) : Prop := 61 ≤ b.length ∧ b.length ≤ 16384 ∧ Bys b ∧ b_sizeOf (fB b) 0 = nI b.length ∧ b_true (fB b) 0 b.length ∧ (∃ a, a < 2 ^ 40 ∧ baB b = lN a) ∧ (prB b = -1 ∨ (0 ≤ prB b ∧ ∃ s, s < 2 ^ 31 ∧ sqB b = nI s)) ∧ ∃ la rs, la < 1000 ∧ laB b = nI la ∧ RecOK b rs la
def LogOK (nL : Nat) (S : Nat → List Sg) : Prop := ∀ l, l ≤ nL → ∀ b, b ∈ BS (S l) → BatOK b
/-! the latest batches of a producer -/
def Kb (S : List Sg) (p : Int64) (r : Nat) : Option Bt := knL (fun b => decide (prB b = p)) r (BS S).reverse
theorem Kb_c (S : List Sg) (p : Int64) (r : Nat) : (knL (fun x : Nat × Bt => decide (prB x.2 = p)) r (PS S).reverse).map (fun x => x.2) = Kb S p r := by
  unfold Kb
  rw [← PS_snd, ← List.map_reverse, knL_map (fun b => decide (prB b = p)) (fun x : Nat × Bt => x.2)]
theorem SB_BS (S : List Sg) : (SB S).map (fun p => p.2) = BS S := by
  unfold SB BS
  induction S with
  | nil => rfl
  | cons s S ih =>
    simp only [List.flatMap_cons, List.map_append, ih]
    congr 1
    simp [List.map_map, Function.comp_def]
theorem zip_ofL (l : Nat) : ∀ (B : List Bm) (n : Nat), ((B.zipIdx n).filter (fun x => decide (mL x.1 = l))).map (fun x => mB x.1) = (ofL l B).map mB
  | [], _ => rfl
  | x :: B, n => by
    unfold ofL
    rw [List.zipIdx_cons]
    by_cases g : mL x = l
    · rw [List.filter_cons_of_pos (by rw [decide_eq_true_eq]; exact g), List.filter_cons_of_pos (by rw [decide_eq_true_eq]; exact g)]
      simp only [List.map_cons]
      have := zip_ofL l B (n + 1)
      unfold ofL at this
      rw [this]
    · rw [List.filter_cons_of_neg (by rw [decide_eq_true_eq]; exact g), List.filter_cons_of_neg (by rw [decide_eq_true_eq]; exact g)]
      exact zip_ofL l B (n + 1)
def fM (l : Nat) (p : Int64) : Bm × Nat → Bool := fun x => decide (mL x.1 = l) && decide (prB (mB x.1) = p)
theorem Kb_m {nL : Nat} {S : Nat → List Sg} {B : List Bm} (h : Lnk nL S B) {l : Nat} (hl : l ≤ nL) (p : Int64) (r : Nat) : (knL (fM l p) r B.zipIdx.reverse).map (fun x => mB x.1) = Kb (S l) p r := by
  unfold fM Kb
  rw [knL_filter (fun x : Bm × Nat => decide (prB (mB x.1) = p)) (fun x : Bm × Nat => decide (mL x.1 = l)), List.filter_reverse]
  rw [← SB_BS, ← h.2 l hl, List.map_map]
  have e : (ofL l B).map ((fun p : Nat × Bt => p.2) ∘ fun x => (mS x, mB x)) = (ofL l B).map mB := rfl
  rw [e, ← zip_ofL l B 0, ← List.map_reverse, knL_map (fun b => decide (prB b = p)) (fun x : Bm × Nat => mB x.1)]
theorem zip_get {α : Type} {xs : List α} {i : Nat} {x : α} (h : xs[i]? = some x) : (xs.zipIdx)[i]? = some (x, i) := by
  rw [List.getElem?_zipIdx, h]; simp
theorem zip_of {α : Type} {xs : List α} {x : α × Nat} (h : x ∈ xs.zipIdx) : xs[x.2]? = some x.1 := by
  obtain ⟨i, hi⟩ := List.getElem?_of_mem h
  rw [List.getElem?_zipIdx] at hi
  cases hx : xs[i]? with
  | none => rw [hx] at hi; cases hi
  | some y => rw [hx] at hi; cases hi; simpa using hx
theorem m_knownOne {Y : Ly} {q : Nat → Nat → Nat} {nL W nB hp ht l r : Nat} {p : Int64} {S : Nat → List Sg} {B : List Bm} {st en : Nat → Int64} {M : Mm} {Kn : Int32 → Mm → Prop} (hC : SC Y q nL W nB) (hM : SM q (mR M)) (hG : Geo nL W nB S) (hLM : LogM q nL W nB M st en S B hp ht) (hr : r < 5) (hl : l ≤ nL)
    (h : Kn (if p < 0 then -1 else ans (fun x => x.2) (knL (fM l p) r B.zipIdx.reverse)) M) : f_X12_knownOne Y (q 20 0) (nI l) p (nI r) M Kn := by
  have hd := sdims hC
  have hct := Lnk_count hG hLM.2.2.2.2.2.2.2.2
  have hzl : B.zipIdx.length = B.length := List.length_zipIdx
  unfold f_X12_knownOne
  refine ⟨sk_20_0 hC, fun x2 e2 => ?_⟩
  rw [hLM.2.1] at e2
  subst e2
  refine LOOP3_inv (fun x3 x4 M5 => ∃ j i, M5 = M ∧ j ≤ r ∧ x3 = nI j ∧ i ≤ B.length ∧ x4 = nI i - 1 ∧ knL (fM l p) r B.zipIdx.reverse = knL (fM l p) j (B.zipIdx.take i).reverse) (fun _ x4 _ => (x4 + 1).toNatClampNeg) ?_ _ _ _ ⟨r, B.length, rfl, Nat.le_refl _, rfl, Nat.le_refl _, rfl, by rw [List.take_of_length_le (by omega)]⟩
  rintro x3 x4 M5 again ⟨j, i, rfl, hj, rfl, hi, rfl, hk⟩ hag
  unfold L_X12_knownOne_12 f_X12_knownOne_68
  cases i with
  | zero =>
    refine ⟨fun _ => ?_, fun c => absurd (show (nI 0 - 1 : Int32) < 0 from by decide) c⟩
    rw [hk] at h
    by_cases hp0 : p < 0
    · rwa [if_pos hp0] at h
    · rw [if_neg hp0] at h; exact h
  | succ i =>
    rw [nI_pred]
    refine ⟨fun c => absurd c (nI_pos (by omega)), fun _ => ⟨fun c => absurd c (nI_ge hr (by decide)), fun _ => ⟨fun c => by rwa [if_pos c] at h, fun c => ?_⟩⟩⟩
    rw [if_neg c] at h
    obtain ⟨x, hx⟩ := lt_some (show i < B.length by omega)
    obtain ⟨v1, v2, v3, v4, v5, v6, v7, v8, v9⟩ := m_at hG hLM hx
    rw [rev_s (zip_get hx)] at hk
    simp only [knL] at hk
    have hin : ∀ b, yN Y b = 4500 → vp_in (nI i) (yN Y b) := fun b hb => by rw [hb]; exact vp_in_nI (by omega) (by decide)
    have nx : ∀ j', j' ≤ r → knL (fM l p) r B.zipIdx.reverse = knL (fM l p) j' (B.zipIdx.take i).reverse → f_X12_knownOne_62 Y (nI i) again (nI j') M5 := by
      intro j' hj' hk'
      unfold f_X12_knownOne_62
      intro x19 e19
      have : nI i + (-1) = nI i - 1 := by rw [Int32.sub_eq_add_neg]
      rw [this] at e19
      subst e19
      refine hag _ _ _ ⟨j', i, rfl, hj', rfl, by omega, rfl, hk'⟩ ?_
      rw [Int32.sub_add_cancel, Int32.sub_add_cancel, nI_clamp (by omega), nI_clamp (by omega)]; omega
    refine ⟨_, sm_19 hM, sk_20_20 hC, hin _ (sn_20_20 hC), ?_⟩
    rw [nI_clamp (by omega), v1, nI_eq (by omega) (by omega)]
    refine ⟨fun c2 => nx j hj (by rw [hk, if_neg (by simp [fM, c2])]), fun c2 => ?_⟩
    unfold f_X12_producerOf
    refine ⟨sk_20_0 hC, _, hLM.2.2.2.2.1.2.1, _, sm_20 hM, sk_20_21 hC, hin _ (sn_20_21 hC), ?_⟩
    rw [nI_clamp (by omega), v2, show (43 : Int32) = nI 43 from rfl, nI_add]
    refine m_num (n := 8) hC hG hLM hx (by simp) (by omega) ?_
    refine ⟨fun c3 => nx j hj (by rw [hk, if_neg (by simp [fM, c2]; exact c3)]), fun c3 => ?_⟩
    rw [if_pos (by simp [fM, c2]; exact c3)] at hk
    have e0 : nI j = 0 ↔ j = 0 := by rw [show (0 : Int32) = nI 0 from rfl, nI_eq (by omega) (by omega)]
    rw [e0]
    refine ⟨fun c4 x20 e20 => ?_, fun c4 => ?_⟩
    · rw [sb_m1 (by omega)] at e20
      subst e20
      exact nx (j - 1) (by omega) (by rw [hk, if_neg c4])
    · rw [hk, if_pos c4] at h
      exact h
/-- how many of the five -/
def IsC (K : Nat → Option Bt) (k : Nat) : Prop := k ≤ 5 ∧ (∀ j, j < k → K j ≠ none) ∧ (k < 5 → K k = none)
theorem IsC_fun {K : Nat → Option Bt} {k k' : Nat} (h : IsC K k) (h' : IsC K k') : k = k' := by
  rcases Nat.lt_trichotomy k k' with g | g | g
  · exact absurd (h.2.2 (by have := h'.1; omega)) (h'.2.1 k g)
  · exact g
  · exact absurd (h'.2.2 (by have := h.1; omega)) (h.2.1 k' g)
theorem ans_none {α : Type} {g : α → Nat} {o : Option α} (h : ∀ x, o = some x → g x < 2 ^ 31) : (ans g o = -1 ↔ o = none) ∧ (ans g o < 0 ↔ o = none) := by
  cases o with
  | none => simp [ans]
  | some x =>
    have := h x rfl
    refine ⟨⟨fun e => absurd e (nI_nm1 this), fun e => by cases e⟩, ⟨fun e => absurd e (nI_pos this), fun e => by cases e⟩⟩
theorem map_none {α β : Type} {g : α → β} {o : Option α} : o.map g = none ↔ o = none := by cases o <;> simp
theorem PS_b {nL W nB l : Nat} {S : Nat → List Sg} (hG : Geo nL W nB S) (hl : l ≤ nL) (hnB : nB ≤ 256) {p : Int64} {r : Nat} : ∀ x, knL (fun x : Nat × Bt => decide (prB x.2 = p)) r (PS (S l)).reverse = some x → x.1 < 2 ^ 31 := by
  intro x hx
  have := PS_lo hG hl (List.mem_reverse.mp (knL_mem hx).1)
  have h2 : nB * 1024 ≤ 256 * 1024 := Nat.mul_le_mul_right _ hnB
  omega
theorem c_knownCount {Y : Ly} {q : Nat → Nat → Nat} {nL W nB l : Nat} {p : Int64} {S : Nat → List Sg} {st en : Nat → Int64} {M : Mm} {Kn : Int32 → Mm → Prop} (hC : SC Y q nL W nB) (hR : SR q nL (mR M)) (hl : l ≤ nL) (hG : Geo nL W nB S) (hLC : LogC q nL W nB M st en S) (hD : DkA nL (mI M (q 0 11)) st en S) (hp : ¬ p = -1)
    (h : ∀ k, IsC (Kb (S l) p) k → Kn (nI k) M) : f_X9_knownCount Y (q 0 13) (q (l + 1) 0) p M Kn := by
  have hd := sdims hC
  unfold f_X9_knownCount
  refine LOOP2_inv (fun x1 M2 => ∃ k, M2 = M ∧ x1 = nI k ∧ k ≤ 5 ∧ ∀ j, j < k → Kb (S l) p j ≠ none) (fun x1 _ => 5 - x1.toNatClampNeg) ?_ _ _ ⟨0, rfl, rfl, by omega, fun j hj => by omega⟩
  rintro x1 M2 again ⟨k, rfl, rfl, hk, hall⟩ hag
  unfold L_X9_knownCount_3 f_X9_knownCount_27
  rw [show (5 : Int32) = nI 5 from rfl, nI_cmp (by omega) (by omega)]
  refine ⟨fun c => h k ⟨hk, hall, fun g => by omega⟩, fun c => ⟨sk_0_13 hC, ?_⟩⟩
  refine c_knownAt hC hR hl hG hLC hD (by omega) ?_
  rw [if_neg hp, (ans_none (PS_b hG hl hd.2.2.2.2.2)).1, ← map_none (g := fun x => x.2), Kb_c]
  refine ⟨fun c2 => h k ⟨hk, hall, fun _ => c2⟩, fun c2 x9 e9 => ?_⟩
  rw [nI_1] at e9
  subst e9
  refine hag _ _ ⟨k + 1, rfl, rfl, by omega, fun j hj => ?_⟩ ?_
  · by_cases e : j = k
    · rw [e]; exact c2
    · exact hall j (by omega)
  · rw [nI_clamp (by omega), nI_clamp (by omega)]; omega
