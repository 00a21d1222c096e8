/-! the law's loop -/
theorem neg9 {L m : Nat} (hL : L < 2 ^ 30) (hm : m < 2 ^ 30) (h : L < m + 9) : nI L - 9 < nI m := by
  by_cases z : 9 ≤ L
  · rw [show nI L - 9 = nI (L - 9) from pk_sub (b := 9) z, nI_ltI (by omega) (by omega)]; omega
  · have : ∀ k : Fin 9, nI k.val - 9 < 0 := by decide
    exact Int32.lt_of_lt_of_le (this ⟨L, by omega⟩) (nI_ge0 (by omega))
theorem law_loop {Y : Ly} {q : Nat → Nat → Nat} {nL W nB : Nat} {L : Nat} {xs : Nat → Int32} (hC : SC Y q nL W nB) (hA : Rsl Y q) (hL : L ≤ 4611) (rC : Int32 → AS → Op) (cD : ∀ v A, Det (rC v A)) (cP : ∀ n, n + KK < 2 ^ 30 → ∀ v A, AI nL W nB n A → Pre nL W nB n (rC v A)) (cL : ∀ n, n + KK < 2 ^ 30 → ∀ v A M Kn, SR q nL (mR M) → CS q nL W nB M A → AI nL W nB n A → KC q nL W nB (rC v A) M Kn → f_L_compact Y (q 0 0) v (q 21 0) M Kn) (cN : ∀ n, n + KK < 2 ^ 30 → ∀ v A M (Kn : Int64 → Mm → Prop), SM q (mR M) → MS q nL W nB M A → AI nL W nB n A → KM q nL W nB (rC v A) M Kn → f_X12_compact Y (q 20 0) v M (fun r M' => Kn r.toInt64 M')) :
    ∀ m k M, k + m = 513 → 1 ≤ m → St q nL W nB (KK * k) M → LOOP2 (L_L_law_53 Y L xs (q 0 0) (q 20 0) (q 21 0)) m (nI (3 + 9 * k)) M
  | 0, _, _, _, h1, _ => absurd h1 (by decide)
  | m + 1, k, M, hk, _, hst => by
    show L_L_law_53 Y L xs (q 0 0) (q 20 0) (q 21 0) (nI (3 + 9 * k)) M (LOOP2 (L_L_law_53 Y L xs (q 0 0) (q 20 0) (q 21 0)) m)
    by_cases z : 3 + 9 * k + 9 ≤ L
    · obtain ⟨A, h1, h2, h3, h4, h5⟩ := hst
      have hn : KK * k + KK < 2 ^ 30 := by
        have : KK * k ≤ KK * 511 := Nat.mul_le_mul_left _ (by omega)
        unfold KK at *; omega
      refine law_step hC hA hL z h1 h2 h3 h4 h5 hn (fun M' h' => ?_) rC cD (cP _ hn) (cL _ hn) (cN _ hn)
      rw [show nI (3 + 9 * k) + 9 = nI (3 + 9 * (k + 1)) from by rw [show (9 : Int32) = nI 9 from rfl, nI_add]; congr 1]
      exact law_loop hC hA hL rC cD cP cL cN m (k + 1) M' (by omega) (by omega) (by rw [Nat.mul_succ]; exact h')
    · unfold L_L_law_53
      exact ⟨fun _ => trivial, fun c => absurd (neg9 (by omega) (by omega) (by omega)) c⟩
