theorem s_rz {Y : Ly} {v row e : Nat} {M : Mm} {Kn : Mm → Prop} {bs : List Int32} (hkv : yK Y v = 10) (hkr : yK Y row = 100) (hL : Lie (mI M row) e bs) (hN : e + bs.length ≤ yN Y row) (hb : yN Y row < 2 ^ 31) (he : mI M v 6 = nI e)
    (h : ∀ (e' : Nat) (s' : Int32), ((s' = mI M v 7 ∧ e' = e + 1 ∧ ∃ ps, bs = 0 :: ps) ∨ (s' = 0 ∧ e' = e ∧ ∀ ps, bs ≠ 0 :: ps)) → Kn (vw M v e' s')) : f_X10_readZero Y v row (nI (e + bs.length)) M Kn := by
  have fail : (∀ ps, bs ≠ 0 :: ps) → f_X10_readZero_30 Y v M Kn := by
    intro hn
    refine ⟨bz_0, fun M4 e4 => ?_⟩
    subst e4
    have := h e 0 (Or.inr ⟨rfl, rfl, hn⟩)
    unfold vw at this
    rw [← he, m1_same] at this
    exact this
  unfold f_X10_readZero
  rw [he, nI_cmp (by omega) (by omega)]
  refine ⟨hkv, fun c => fail ?_, fun c => ⟨hkr, vp_in_nI (by omega) hb, ?_⟩⟩
  · intro ps hp
    rw [hp] at c
    simp at c
    omega
  · cases bs with
    | nil => simp at c
    | cons p ps =>
      rw [nI_clamp (by simp at hN; omega), show mI M row e = p from hL.1]
      refine ⟨fun d => fail (fun qs hq => d ?_), fun d M9 e9 => ?_⟩
      · cases hq; rfl
      · subst e9
        rw [nI_1]
        have := h (e + 1) (mI M v 7) (Or.inl ⟨rfl, rfl, ps, by rw [d]⟩)
        unfold vw at this
        rw [m1_swap _ _ _ (show (6 : Nat) ≠ 7 by decide), m1_same] at this
        exact this
theorem i64_nI {x : Int64} (h0 : 0 ≤ x.toInt) (h1 : x.toInt < 2 ^ 31) : x.toInt32 = nI x.toInt.toNat := by
  obtain ⟨k, hk, e⟩ := pk_lOf (x := x) (by rw [Int64.lt_iff_toInt_lt]; show ¬ x.toInt < 0; omega)
  subst e
  rw [pk_lT hk] at h1 ⊢
  rw [lN_i]
  rfl
theorem s_rt {Y : Ly} {v row e : Nat} {M : Mm} {Kn : Int32 → Mm → Prop} {bs : List Int32} (hkv : yK Y v = 10) (hkr : yK Y row = 100) (hne : row ≠ v) (hL : Lie (mI M row) e bs) (hN : e + bs.length ≤ yN Y row) (hb : yN Y row < 2 ^ 31) (he : mI M v 6 = nI e) (hs : bz (mI M v 7))
    (h : ∀ (r : Int32) (e' : Nat) (s' : Int32), e ≤ e' → e' ≤ e + bs.length → bz s' → ((s' = 1 ∧ mI M v 7 = 1 ∧ ∃ z rs, vr 0 0 bs = some (z, rs) ∧ ¬ badT z rs ∧ r = (uzz z).toInt32 ∧ bs.drop (e' - e) = rs.drop (nn z)) ∨ (s' = 0 ∧ (mI M v 7 = 0 ∨ ∀ z rs, vr 0 0 bs = some (z, rs) → badT z rs))) → Kn r (vw M v e' s')) : f_X10_readText Y v row (nI (e + bs.length)) M Kn := by
  unfold f_X10_readText
  refine ⟨hkv, s_rv hkv hkr hne hL hN hb he hs ?_⟩
  intro r e' s' h1 h2 hs' hW
  have fail : (r.toInt < -1 ∨ ((e + bs.length - e' : Nat) : Int) < r.toInt) → f_X10_readText_27 Y v Kn (vw M v e' s') := by
    intro hbad
    refine ⟨bz_0, fun M5 e5 => ?_⟩
    subst e5
    rw [vw_s7]
    refine h _ e' 0 h1 h2 bz_0 (Or.inr ⟨rfl, ?_⟩)
    rcases hW with ⟨-, -, z, hz, hr⟩ | ⟨-, h7 | hn⟩
    · right
      intro z' rs' hz'
      rw [hz] at hz'
      cases hz'
      subst hr
      unfold badT
      rw [List.length_drop, show bs.length - (e' - e) = e + bs.length - e' from by omega]
      exact hbad
    · exact Or.inl h7
    · right
      intro z rs hz
      rw [hn] at hz; cases hz
  rw [vw_6, pk_sub h2, nI_l (by omega)]
  have c1 : r < -1 ↔ r.toInt < -1 := Int64.lt_iff_toInt_lt
  have c2 : r ≤ lN (e + bs.length - e') ↔ r.toInt ≤ ((e + bs.length - e' : Nat) : Int) := by
    rw [Int64.le_iff_toInt_le, pk_lT (by omega)]
  have c0 : (0 < r) ↔ 0 < r.toInt := Int64.lt_iff_toInt_lt
  rw [c1, c2]
  refine ⟨fun c => fail (Or.inl c), fun c => ⟨fun d M8 e8 => ?_, fun d => fail (Or.inr (by omega))⟩⟩
  have en : (if 0 < r then r else 0).toInt32 = nI r.toInt.toNat := by
    by_cases g : 0 < r
    · rw [if_pos g]
      exact i64_nI (by rw [c0] at g; omega) (by omega)
    · rw [if_neg g]
      rw [c0] at g
      rw [show r.toInt.toNat = 0 from by omega]; rfl
  rw [en, nI_add, vw_s6] at e8
  subst e8
  refine h _ (e' + r.toInt.toNat) s' (by omega) (by omega) hs' ?_
  rcases hW with ⟨hs1, h7, z, hz, hr⟩ | ⟨hs0, h7 | hn⟩
  · left
    refine ⟨hs1, h7, z, _, hz, ?_, by rw [hr], ?_⟩
    · unfold badT
      rw [← hr, List.length_drop]
      omega
    · rw [List.drop_drop, show nn z = r.toInt.toNat from by rw [hr]; rfl]
      congr 1
      omega
  · exact Or.inr ⟨hs0, Or.inl h7⟩
  · refine Or.inr ⟨hs0, Or.inr (fun z rs hz => ?_)⟩
    rw [hn] at hz; cases hz
