/-! contribution, clashCost. -/
theorem one_lt {b : BX2} (hb : S2 b) {t : Int} (t0 : 0 ≤ t) (t1 : t < pX2_traders b) : 0 ≤ zShl 1 t ∧ zShl 1 t < zShl 1 (pX2_traders b) := by
  have ht := hb.tra
  rw [zShl1_pow ht.1 ht.2]
  exact zShl1_lt (m := (pX2_traders b).toNat) (by omega) t0 (by omega)
theorem op_contribution {n : Nat} (hn : 20000 ≤ n) (bb : Nat) {x : BX5} {m : BX6} (I : Inv x m) (hB : Bud (pX3_tableN (pX5_planner x)) (pX5_market x) bb) (t : Int) : ∃ cd v x' w m', g_X5_contribution n bb x t = some (cd, v, x') ∧ g_X6_contribution n m t = some (w, m') ∧ ok1 1 cd v w (pX6_thrown m') ∧ Inv x' m' ∧ pX5_trialPlanner x' = pX5_trialPlanner x ∧ (pX3_tableN (pX5_planner x') = pX3_tableN (pX5_planner x) ∨ pX3_tableN (pX5_planner x') = newN (pX3_tableN (pX5_planner x)) (pX5_market x)) := by
  have hc := I.s.cov
  have hp := I.s.pit
  unfold g_X5_contribution g_X6_contribution g_X6_contribution_14
  rw [g_reqT, oB_some, s_X6_isTrader I.s I.r, oB_some]
  by_cases h1 : 0 ≤ t ∧ t < pX2_traders (pX5_market x)
  · obtain ⟨x', g1, g2, g3, g4, g5, g6, g7, g8, g9, g10⟩ := prep hn bb I hB
    have hcv : pX2_covers (pX3_street (pX5_planner x')) = pX2_covers (pX5_market x) := g4.2.2.2.2.2.2.2.2.2.2
    have hset := sets_b g3.1.1
    have hon := one_lt I.s h1.1 h1.2
    have hsb := sets_b I.s
    have hon2 : 0 ≤ zShl 1 t ∧ zShl 1 t < pX3_sets (pX5_planner x') := by rw [g3.2.1, g4.2.2.2.2.1]; exact hon
    obtain ⟨r1, p1, p2, p3, p4⟩ := s_X6_plans (n := n) (by omega) I.s (r := sX6_thrown m 0) (by rw [eX6_a_thrown]; exact I.r) (c := pX2_covers (pX5_market x)) hc.1 (by omega)
    have R1 : Rl (pX5_market x) (pX6_a r1) := by rw [p2.1, eX6_a_thrown]; exact I.r
    have o1 := opt_r I.s (p := 0) 0 0 (pX2_covers (pX5_market x)) (by omega)
    have o2 := opt_r I.s (p := 0) (zShl 1 t) 0 (pX2_covers (pX5_market x)) (by omega)
    have hbst := p3 0 (by omega) (by omega) (zShl 1 t) 8 (pX2_covers (pX5_market x)) hon.1 hon.2 (.inl rfl) hc.1 (Int.le_refl _)
    unfold barH rix at hbst
    rw [if_pos rfl] at hbst
    rw [if_pos h1, if_pos rfl, zB_pos h1, g1, oB2_some, if_pos rfl, g5, s_X3_incomeWithout g3 (by rw [g3.2.1]; omega) hc.1 (by omega), oB_some, s_X3_incomeWithout g3 hon2 hc.1 (by omega), oB_some, g4.optE, g4.optE, oR_ok (by omega) (by omega)]
    unfold g_X6_at
    rw [if_neg (by omega), if_pos (by omega), qA_ok (by omega) (by omega) (by omega), I.r.cov, p1, oB2_some, qA_ok (by omega) (by omega) (by omega), R1.cov, oR_ok (by omega) (by omega), oB_some, qA_ok (by omega) (by omega) (by omega), hbst, qD_ok o2.1 (by omega), oR_ok (by omega) (by omega)]
    refine ⟨_, _, _, _, _, rfl, rfl, .inl ⟨rfl, ?_, rfl⟩, ?_, g7, ?_⟩
    · rw [p2.2.2.2.2.2.2, eX6_thrown_thrown]
    · exact Inv_m (Inv_t g2 0) p2.1 p2.2.1 p2.2.2.1 p2.2.2.2.1 p2.2.2.2.2.1 p2.2.2.2.2.2.1
    · rw [g10]; split
      · exact .inr rfl
      · exact .inl rfl
  · rw [if_neg h1, if_neg (by omega), zB_neg h1, if_pos rfl, if_neg (by omega)]
    exact ⟨_, _, _, _, _, rfl, rfl, .inr ⟨rfl, eX6_thrown_thrown _ _⟩, Inv_t I 1, rfl, .inl rfl⟩
