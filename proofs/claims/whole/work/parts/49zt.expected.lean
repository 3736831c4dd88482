/-! expectedIncome: both add the same doubles in the same order, and none is a NaN. -/
theorem ei_loop {n : Nat} (hn : 1000 ≤ n) {x : BX5} {m : BX6} (I : Inv x m) (hth : pX6_thrown m = 0) {d : UInt64} (hd : Dbl 1 d) : ∀ (fu : Nat) (z : UInt64) (t : Int), 0 ≤ t → t ≤ 8 → 0 < fu → pX2_traders (pX5_market x) - t < fu → Dbl (60 + 2 * t) z →
    ∃ v, Dbl 90 v ∧ g_X5_expectedIncome_27 n fu d z t x = some (0, v) ∧ g_X6_expectedIncome_26 n fu d z t m = some (v, m) := by
  have ht := I.s.tra
  intro fu
  induction fu with
  | zero => intro z t _ _ h0; omega
  | succ fu ih =>
    intro z t t0 t8 _ hf hz
    rw [g_X5_expectedIncome_27.eq_2, g_X6_expectedIncome_26.eq_2, qA_ok (by omega : (0 : Int) ≤ 74) (by omega) (by omega), I.r.tra]
    by_cases hc : pX2_traders (pX5_market x) ≤ t
    · rw [if_pos hc, if_pos hc]
      unfold g_X6_expectedIncome_121
      exact ⟨z, hz.le (by omega), rfl, rfl⟩
    · rw [if_neg hc, if_neg hc, if_pos hth, qA_ok (by omega : 0 ≤ 107 + t) (by omega) (by omega), I.r.st t0 (by omega), s_X2_isSeated _ t0 (by omega), oB_some]
      by_cases e : pX2_starts (pX5_market x) t = -1
      · rw [zB_neg (by omega), if_pos rfl, if_pos e]
        unfold g_X5_expectedIncome_110 g_X6_expectedIncome_115
        rw [oR_ok (by omega) (by omega), oR_ok (by omega) (by omega)]
        exact ih _ _ (by omega) (by omega) (by omega) (by omega) (hz.le (by omega))
      · have hs := I.w.st t t0 (by omega)
        have hfr := I.s.fr t0 (by omega)
        have hpit := I.s.pit
        rw [zB_pos e, if_neg (by decide), if_neg e, qA_ok t0 (by omega) (by omega), qA_ok (by omega : 0 ≤ 107 + t) (by omega) (by omega), s_X2_blockRent (by omega) I.s t0 (by omega) (by omega) (by omega), oB_some, s_X2_isSheltered (by omega) I.w t0 (by omega) e, oB_some,
          s_X6_rentOf (by omega) I.s I.r t0 (by omega) (by omega) (by omega), oB_some, s_X6_isSheltered (by omega) I.w I.r t0 (by omega) e, oB_some]
        by_cases hw : pX2_needy (pX5_market x) t = 1 ∨ mOpen (pX5_market x) t (pX2_starts (pX5_market x) t) = 0
        · rw [zB_pos hw, if_neg (by decide), if_neg (by decide)]
          unfold g_X5_expectedIncome_108 g_X6_expectedIncome_113 g_X5_expectedIncome_110 g_X6_expectedIncome_115
          have hv := hz.add ((Dbl.int (Int32.ofInt (mRent (pX5_market x) t (pX2_starts (pX5_market x) t)))).le (by omega)) (by omega) (K := 60 + 2 * (t + 1)) (by omega) (by omega) (by omega)
          rw [oN_ok (hv.nn (by omega)), oN_ok (hv.nn (by omega)), oR_ok (by omega) (by omega), oR_ok (by omega) (by omega)]
          exact ih _ _ (by omega) (by omega) (by omega) (by omega) hv
        · obtain ⟨h1, h2, h3, h4, h5⟩ := Dbl.wet hd (Int32.ofInt (mRent (pX5_market x) t (pX2_starts (pX5_market x) t)))
          rw [zB_neg hw, if_pos rfl, if_pos rfl, oN_ok (h1.nn (by decide)), oN_ok (h2.nn (by decide)), oN_ok (h3.nn (by decide)), oN_ok (h4.nn (by decide)), oN_ok (h5.nn (by decide)),
            oN_ok (h1.nn (by decide)), oN_ok (h2.nn (by decide)), oN_ok (h3.nn (by decide)), oN_ok (h4.nn (by decide)), oN_ok (h5.nn (by decide))]
          unfold g_X5_expectedIncome_108 g_X6_expectedIncome_113 g_X5_expectedIncome_110 g_X6_expectedIncome_115
          have hv := hz.add (h5.le (by omega)) (by omega) (K := 60 + 2 * (t + 1)) (by omega) (by omega) (by omega)
          rw [oN_ok (hv.nn (by omega)), oN_ok (hv.nn (by omega)), oR_ok (by omega) (by omega), oR_ok (by omega) (by omega)]
          exact ih _ _ (by omega) (by omega) (by omega) (by omega) hv
theorem ei_bad {n : Nat} (hn : 1000 ≤ n) {x : BX5} {m : BX6} (I : Inv x m) (d z : UInt64) : g_X6_expectedIncome_26 n n d z 0 (sX6_thrown m 1) = some (z, sX6_thrown m 1) := by
  obtain ⟨k, rfl⟩ : ∃ k, n = k + 1 := ⟨n - 1, by omega⟩
  rw [g_X6_expectedIncome_26.eq_2, qA_ok (by omega) (by omega) (by omega), eX6_thrown_thrown, if_neg (c := (1 : Int) = 0) (by decide)]
  unfold g_X6_expectedIncome_121
  split <;> rfl
theorem op_expectedIncome {n : Nat} (hn : 1000 ≤ n) {x : BX5} {m : BX6} (I : Inv x m) {d : UInt64} (hd : Dbl 1 d) : ∃ cd v w m', g_X5_expectedIncome n x d = some (cd, v) ∧ g_X6_expectedIncome n m d = some (w, m') ∧
    ((cd = 0 ∧ pX6_thrown m' = 0 ∧ v = w ∧ Dbl 90 v) ∨ (cd = 2 ∧ pX6_thrown m' = 1)) ∧ Inv x m' := by
  have ht := I.s.tra
  unfold g_X5_expectedIncome g_X6_expectedIncome g_X5_expectedIncome_12 g_X6_expectedIncome_17 g_X6_expectedIncome_18
  by_cases h1 : (dcL d FP.dconst0).toInt < 0
  · rw [if_pos h1, if_pos h1, ei_bad hn I]
    exact ⟨_, _, _, _, rfl, rfl, .inr ⟨rfl, eX6_thrown_thrown _ _⟩, Inv_t I 1⟩
  · rw [if_neg h1, if_neg h1]
    by_cases h2 : (dcG d FP.dconst1).toInt ≤ 0
    · rw [if_pos h2, if_neg (by omega)]
      obtain ⟨v, hv, e1, e2⟩ := ei_loop hn (Inv_t I 0) (eX6_thrown_thrown _ _) hd n FP.dconst0 0 (by omega) (by omega) (by omega) (by omega) (Dbl.zero.le (by omega))
      rw [e1, e2]
      exact ⟨_, _, _, _, rfl, rfl, .inl ⟨rfl, eX6_thrown_thrown _ _, rfl, hv⟩, Inv_t I 0⟩
    · rw [if_neg h2, if_pos (by omega), ei_bad hn I]
      exact ⟨_, _, _, _, rfl, rfl, .inr ⟨rfl, eX6_thrown_thrown _ _⟩, Inv_t I 1⟩
