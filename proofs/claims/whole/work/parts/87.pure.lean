/-! groups -/
abbrev GSt : Type := (Nat → Nat) × (Nat → Nat) × (Nat → Nat) × (Nat → Nat) × (Nat → Nat) × (Nat → Nat) × Nat
def gN (G : GSt) : Nat → Nat := G.1
def gS (G : GSt) : Nat → Nat := G.2.1
def gM (G : GSt) : Nat → Nat := G.2.2.1
def gJ (G : GSt) : Nat → Nat := G.2.2.2.1
def gL (G : GSt) : Nat → Nat := G.2.2.2.2.1
def gH (G : GSt) : Nat → Nat := G.2.2.2.2.2.1
def gT (G : GSt) : Nat := G.2.2.2.2.2.2
def AR (n : Nat) (fn : Nat → Int32) (f : Nat → Nat) : Prop := ∀ g, g < n → fn g = nI (f g)
theorem AR_set {n : Nat} {fn : Nat → Int32} {f : Nat → Nat} (h : AR n fn f) (g v : Nat) : AR n (m1 fn g (nI v)) (m1 f g v) := by
  intro i hi
  simp only [m1]
  split
  · rfl
  · exact h i hi
def GC (q : Nat → Nat → Nat) (M : Mm) (G : GSt) : Prop := mI M (q 0 26) 0 = nI (gT G) ∧ AR 8 (mI M (q 0 27)) (gN G) ∧ AR 8 (mI M (q 0 28)) (gS G) ∧ AR 8 (mI M (q 0 29)) (gM G) ∧ AR 8 (mI M (q 0 30)) (gJ G) ∧ AR 8 (mI M (q 0 31)) (gL G) ∧ AR 64 (mI M (q 0 32)) (gH G)
def bt1 (m k : Nat) : Int32 := if m.testBit k = true then 1 else 0
def AB (fn : Nat → Int32) (f : Nat → Nat) : Prop := ∀ g k, g < 8 → k < 8 → fn (8 * g + k) = bt1 (f g) k
def GM (q : Nat → Nat → Nat) (M : Mm) (G : GSt) : Prop := mI M (q 20 0) 4 = nI (gT G) ∧ AR 8 (mI M (q 20 36)) (gN G) ∧ AR 8 (mI M (q 20 35)) (gS G) ∧ AB (mI M (q 20 38)) (gM G) ∧ AB (mI M (q 20 39)) (gJ G) ∧ AR 8 (mI M (q 20 37)) (gL G) ∧ AR 64 (mI M (q 20 40)) (gH G)
def sub8 (a b : Nat) : Prop := ∀ k, k < 8 → a.testBit k = true → b.testBit k = true
def GI (n : Nat) (G : GSt) : Prop := gT G ≤ 100000 ∧ (∀ k, k < 64 → gH G k ≤ gT G) ∧ ∀ g, g < 8 → gN G g ≤ n ∧ gS G g ≤ 2 ∧ gM G g < 256 ∧ gJ G g < 256 ∧ sub8 (gJ G g) (gM G g) ∧ gL G g ≤ gT G + 20 ∧ (gS G g = 2 → gJ G g = gM G g ∧ gM G g ≠ 0) ∧ (gS G g = 0 → gM G g = 0 ∧ gJ G g = 0)
def mixG (G : GSt) (g : Nat) : GSt := (gN G, m1 (gS G) g 1, gM G, m1 (gJ G) g 0, m1 (gL G) g (gT G + 20), gH G, gT G)
def empG (G : GSt) (g : Nat) : GSt := (gN G, m1 (gS G) g 0, m1 (gM G) g 0, m1 (gJ G) g 0, gL G, gH G, gT G)
def memG (G : GSt) (g v : Nat) : GSt := (gN G, gS G, m1 (gM G) g v, gJ G, gL G, gH G, gT G)
def joiG (G : GSt) (g v : Nat) : GSt := (gN G, gS G, gM G, m1 (gJ G) g v, gL G, gH G, gT G)
def heaG (G : GSt) (k : Nat) : GSt := (gN G, gS G, gM G, gJ G, gL G, m1 (gH G) k (gT G), gT G)
def fil8 (f : Nat → Nat) (g v : Nat) : Nat → Nat := fun k => if 8 * g ≤ k ∧ k < 8 * g + 8 then v else f k
def setG (G : GSt) (g : Nat) : GSt := (m1 (gN G) g (gN G g + 1), m1 (gS G) g 2, m1 (gM G) g (gJ G g), gJ G, gL G, fil8 (gH G) g (gT G), gT G)
def timG (G : GSt) (t : Nat) : GSt := (gN G, gS G, gM G, gJ G, gL G, gH G, t)
/-! bits -/
theorem bz_or : ∀ m : Fin 256, ∀ k : Fin 8, nI m.val ||| ((1 : Int32) <<< (nI k.val &&& 31)) = nI (m.val ||| 2 ^ k.val) := by decide +kernel
theorem bz_no : ∀ m : Fin 256, ∀ k : Fin 8, nI m.val &&& (((1 : Int32) <<< (nI k.val &&& 31)) ^^^ (-1)) = nI (m.val &&& (255 ^^^ 2 ^ k.val)) := by decide +kernel
theorem bz_has : ∀ m : Fin 256, ∀ k : Fin 8, ((nI m.val >>> (nI k.val &&& 31)) &&& 1) = if m.val.testBit k.val = true then 1 else 0 := by decide +kernel
theorem bo_lt : ∀ m : Fin 256, ∀ k : Fin 8, m.val ||| 2 ^ k.val < 256 := by decide +kernel
theorem bn_lt : ∀ m : Fin 256, ∀ k : Fin 8, m.val &&& (255 ^^^ 2 ^ k.val) < 256 := by decide +kernel
theorem bo_t : ∀ m : Fin 256, ∀ k j : Fin 8, (m.val ||| 2 ^ k.val).testBit j.val = if j.val = k.val then true else m.val.testBit j.val := by decide +kernel
theorem bn_t : ∀ m : Fin 256, ∀ k j : Fin 8, (m.val &&& (255 ^^^ 2 ^ k.val)).testBit j.val = if j.val = k.val then false else m.val.testBit j.val := by decide +kernel
theorem t_ext {a b : Nat} (ha : a < 256) (hb : b < 256) (h : ∀ k, k < 8 → a.testBit k = b.testBit k) : a = b := by
  apply Nat.eq_of_testBit_eq
  intro i
  by_cases g : i < 8
  · exact h i g
  · have h1 : a.testBit i = false := Nat.testBit_lt_two_pow (Nat.lt_of_lt_of_le ha (show 2 ^ 8 ≤ 2 ^ i from Nat.pow_le_pow_right (by decide) (by omega)))
    have h2 : b.testBit i = false := Nat.testBit_lt_two_pow (Nat.lt_of_lt_of_le hb (show 2 ^ 8 ≤ 2 ^ i from Nat.pow_le_pow_right (by decide) (by omega)))
    rw [h1, h2]
/-! the class's small steps -/
def Fg : Nat → Nat → Prop := fun a b => a = 0 ∧ 26 ≤ b ∧ b ≤ 32
theorem AR_at {n : Nat} {fn : Nat → Int32} {f : Nat → Nat} (h : AR n fn f) {g : Nat} (hg : g < n) (hn : n < 2 ^ 31) : fn (nI g).toNatClampNeg = nI (f g) := by
  rw [nI_clamp (by omega)]; exact h g hg
theorem c_mix {Y : Ly} {q : Nat → Nat → Nat} {nL W nB : Nat} {M : Mm} {G : GSt} {g : Nat} {Kn : Mm → Prop} (hC : SC Y q nL W nB) (hR : SR q nL (mR M)) (hGC : GC q M G) (hg : g < 8) (h : ∀ M', Fr q Fg M M' → mJ M' = mJ M → GC q M' (mixG G g) → Kn M') : f_X7_mix Y (q 0 26) (nI g) M Kn := by
  obtain ⟨h0, h1, h2, h3, h4, h5, h6⟩ := hGC
  have vin : ∀ b, yN Y b = 8 → vp_in (nI g) (yN Y b) := fun b hb => by rw [hb]; exact vp_in_nI hg (by decide)
  have hgc : (nI g).toNatClampNeg = g := nI_clamp (by omega)
  unfold f_X7_mix
  refine ⟨sk_0_26 hC, _, sr_0_26_2 hR, sk_0_28 hC, vin _ (sn_0_28 hC), fun M5 e5 => ⟨q 0 30, by rw [e5]; exact sr_0_26_4 hR, sk_0_30 hC, vin _ (sn_0_30 hC), fun M9 e9 => ⟨q 0 31, by rw [e9, e5]; exact sr_0_26_5 hR, sk_0_31 hC, vin _ (sn_0_31 hC), fun M13 e13 => ?_⟩⟩⟩
  rw [hgc] at e5 e9 e13
  have t9 : mI M9 (q 0 26) 0 = nI (gT G) := by rw [e9, I_ne hC _ _ (by omega), e5, I_ne hC _ _ (by omega)]; exact h0
  rw [t9, show nI (gT G) + 20 = nI (gT G + 20) from nI_add _ 20, e9, I_ne hC _ _ (by omega), e5, I_ne hC _ _ (by omega)] at e13
  rw [I_ne hC _ _ (by omega)] at e13
  have F : Fr q Fg M M13 := by
    rw [e13]
    exact Fr_trans (Fr_sI _ _ _ _ ⟨rfl, by omega⟩) (Fr_trans (Fr_sI _ _ _ _ ⟨rfl, by omega⟩) (Fr_sI _ _ _ _ ⟨rfl, by omega⟩))
  refine h M13 F (by rw [e13]; rfl) ⟨?_, ?_, ?_, ?_, ?_, ?_, ?_⟩
  · rw [e13]; simp only [I_ne hC _ _ (show ¬ (0 = 0 ∧ 26 = 31) by omega), I_ne hC _ _ (show ¬ (0 = 0 ∧ 26 = 30) by omega), I_ne hC _ _ (show ¬ (0 = 0 ∧ 26 = 28) by omega)]; exact h0
  · rw [e13]; simp only [I_ne hC _ _ (show ¬ (0 = 0 ∧ 27 = 31) by omega), I_ne hC _ _ (show ¬ (0 = 0 ∧ 27 = 30) by omega), I_ne hC _ _ (show ¬ (0 = 0 ∧ 27 = 28) by omega)]; exact h1
  · rw [e13]; simp only [I_ne hC _ _ (show ¬ (0 = 0 ∧ 28 = 31) by omega), I_ne hC _ _ (show ¬ (0 = 0 ∧ 28 = 30) by omega), mI_sI_self]; exact AR_set h2 g 1
  · rw [e13]; simp only [I_ne hC _ _ (show ¬ (0 = 0 ∧ 29 = 31) by omega), I_ne hC _ _ (show ¬ (0 = 0 ∧ 29 = 30) by omega), I_ne hC _ _ (show ¬ (0 = 0 ∧ 29 = 28) by omega)]; exact h3
  · rw [e13]; simp only [I_ne hC _ _ (show ¬ (0 = 0 ∧ 30 = 31) by omega), mI_sI_self]; exact AR_set h4 g 0
  · rw [e13, mI_sI_self]; exact AR_set h5 g _
  · rw [e13]; simp only [I_ne hC _ _ (show ¬ (0 = 0 ∧ 32 = 31) by omega), I_ne hC _ _ (show ¬ (0 = 0 ∧ 32 = 30) by omega), I_ne hC _ _ (show ¬ (0 = 0 ∧ 32 = 28) by omega)]; exact h6
