/-! which record goes -/
def gon (Q : KQ) (now : Int32) (ft : Int64) (x : Nat × Option (List Int32)) (c : Rc) : Prop := ∃ key, x.2 = some key ∧ (lp Q key ≠ some x.1 ∨ (rV c = -1 ∧ ¬ (now - 1000).toInt64 < ft + rT c))
theorem c_goes {Y : Ly} {q : Nat → Nat → Nat} {nL W nB : Nat} {M : Mm} {m : Nat} {T : Nat → Option (List Int32)} {P : Nat → Nat} {Q : KQ} {now : Int32} {ft : Int64} {x : Nat × Option (List Int32)} {c : Rc} {Kn : Int32 → Mm → Prop} (hC : SC Y q nL W nB) (hR : SR q nL (mR M)) (ht : HT q nB M m T P) (lk : LK m (fun k => fmd (ckv k) m) T P Q) (hm1 : 1 ≤ m) (hm : m ≤ 2 * (nB * 1024 / 7) + 1) (hocc : occ T m < m) (e3 : mI M (q 0 19) 3 = -1 ↔ x.2 = none) (e5 : mI M (q 0 19) 5 = -1 ↔ rV c = -1) (eT : mJ M (q 0 19) 0 = rT c) (hin : ∀ key, x.2 = some key → HK q nB M x.1 key ∧ lp Q key ≠ none) (h1 : gon Q now ft x c → Kn 1 M) (h0 : ¬ gon Q now ft x c → Kn 0 M) : f_X2_goes Y (q 0 18) ft now M Kn := by
  have hd := sdims hC
  unfold f_X2_goes
  refine ⟨sk_0_18 hC, _, sr_0_18_2 hR, sk_0_19 hC, fun z => ⟨_, sr_0_18_2 hR, sk_0_19 hC, ?_⟩, fun z => ⟨Or.inl rfl, h0 ?_⟩⟩
  · rw [eT]
    obtain ⟨key, hk⟩ : ∃ key, x.2 = some key := by
      cases e : x.2 with
      | none => exact absurd (e3.mpr e) z
      | some key => exact ⟨key, rfl⟩
    obtain ⟨hK, hlp⟩ := hin key hk
    have t37 : ∀ y7 : Int32, (y7 = 0 ↔ (now - 1000).toInt64 < ft + rT c) → f_X2_goes_37 Y (q 0 18) M Kn y7 := by
      intro y7 hy
      unfold f_X2_goes_37 f_X2_goes_74 f_X2_goes_78 f_X2_goes_79
      refine ⟨_, sr_0_18_3 hR, c_slotOfKey hC hR ht hm1 hm hK (occ_le hocc) (fun j hj hit => ⟨sk_0_20 hC, by rw [sn_0_20 hC]; exact vp_in_nI (by omega) (by omega), _, sr_0_18_2 hR, sk_0_19 hC, ?_⟩)⟩
      obtain ⟨p, hp⟩ : ∃ p, lp Q key = some p := by
        cases e : lp Q key with
        | none => exact absurd e hlp
        | some p => exact ⟨p, rfl⟩
      obtain ⟨t1, t2⟩ := LK_hit lk hit hp
      obtain ⟨s1, s2, s3, s4⟩ := (ht.2 j hj).2 key t1
      rw [nI_clamp (by omega), s1, hK.1, t2, nI_eq (by rw [t2] at s4; omega) (by have := hK.2.2.2; omega)]
      refine ⟨fun ne => ⟨Or.inr rfl, h1 ⟨key, hk, Or.inl (fun y => ne (by rw [hp] at y; cases y; rfl))⟩⟩, fun eq => ⟨_, sr_0_18_2 hR, sk_0_19 hC, fun v5 => ⟨Or.inl rfl, h0 ?_⟩, fun v5 => ⟨fun y0 => ⟨Or.inl rfl, h0 ?_⟩, fun y0 => ⟨Or.inr rfl, h1 ⟨key, hk, Or.inr ⟨e5.mp v5, fun y => y0 (hy.mpr y)⟩⟩⟩⟩⟩⟩
      · rintro ⟨key', hk', w⟩
        rw [hk] at hk'
        cases hk'
        rcases w with w | ⟨w, _⟩
        · exact w (by rw [hp, eq])
        · exact v5 (e5.mpr w)
      · rintro ⟨key', hk', w⟩
        rw [hk] at hk'
        cases hk'
        rcases w with w | ⟨_, w⟩
        · exact w (by rw [hp, eq])
        · exact w (hy.mp y0)
    exact ⟨fun y => t37 0 ⟨fun _ => y, fun _ => rfl⟩, fun y => t37 1 ⟨fun z => absurd z (by decide), fun z => absurd z y⟩⟩
  · rintro ⟨key, hk, _⟩
    rw [e3.mp z] at hk
    cases hk
