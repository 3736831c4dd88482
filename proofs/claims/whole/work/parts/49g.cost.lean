/-! clashCost. -/
theorem op_clashCost {n : Nat} (hn : 20000 ≤ n) (bb b2 : Nat) {x : BX5} {m : BX6} (I : Inv x m) (i j : Int) (hB : Bud (pX3_tableN (pX5_planner x)) (pX5_market x) bb) (hB2 : Bud (pX3_tableN (pX5_trialPlanner x)) (mPut (pX5_market x) i j 0) b2) : ∃ cd v x' w m', g_X5_clashCost n bb b2 x i j = some (cd, v, x') ∧ g_X6_clashCost n m i j = some (w, m') ∧ ok1 2 cd v w (pX6_thrown m') ∧ Inv x' m' ∧
    (pX3_tableN (pX5_planner x') = pX3_tableN (pX5_planner x) ∨ pX3_tableN (pX5_planner x') = newN (pX3_tableN (pX5_planner x)) (pX5_market x)) ∧ (pX3_tableN (pX5_trialPlanner x') = pX3_tableN (pX5_trialPlanner x) ∨ pX3_tableN (pX5_trialPlanner x') = newN (pX3_tableN (pX5_trialPlanner x)) (mPut (pX5_market x) i j 0)) := by
  have hc := I.s.cov
  have hp := I.s.pit
  unfold g_X5_clashCost g_X6_clashCost g_X6_clashCost_14
  rw [g_reqTT, oB_some, s_X6_areTrades, oB_some]
  by_cases h : (0 ≤ i ∧ i < 8) ∧ (0 ≤ j ∧ j < 8)
  · rw [if_pos h, if_pos rfl, s_X2_areClashing _ h.1.1 h.1.2, oB_some, zB_pos h, if_neg (c := (1 : Int) = 0) (by omega), if_neg (c := (0 : Int) < 0) (by omega), qA_ok (e := 115 + 8 * i + j) (by omega) (by omega) (by omega), I.r.cl h.1.1 h.1.2 h.2.1 h.2.2]
    by_cases e : cl (pX5_market x) i j
    · have e' : zbit (pX2_clashes (pX5_market x) i) j := e
      obtain ⟨x1, g1, g2, g3, g4, g5, g6, g7, g8, g9, g10⟩ := prep hn bb I hB
      have hWp := W2_put I.w 0 h.1.1 h.1.2 h.2.1 h.2.2
      obtain ⟨q1', q2', q3', q4', q5', q6', q7', q8', q9', q10', q11', q12', q13'⟩ := mPut_eqs (pX5_market x) i j 0
      have hcv : pX2_covers (pX3_street (pX5_planner x1)) = pX2_covers (pX5_market x) := g4.2.2.2.2.2.2.2.2.2.2
      have hset := sets_b g3.1.1
      obtain ⟨q, a1, a2, a3, a4⟩ := s_X3_plan hn (q := pX5_trialPlanner x) I.2.2.2.2.2.1.2.1 hWp.s b2 hB2
      have hset2 := sets_b a2.1.1
      obtain ⟨r1, p1, p2, p3, p4⟩ := s_X6_plans (n := n) (by omega) I.s (r := sX6_thrown m 0) (by rw [eX6_a_thrown]; exact I.r) (c := pX2_covers (pX5_market x)) hc.1 (by omega)
      have ea : pX6_a r1 = pX6_a m := by rw [p2.1, eX6_a_thrown]
      have Rp : Rl (mPut (pX5_market x) i j 0) (aPut (pX6_a m) i j 0) := by have := Rl_put I.r I.s 0 h.1.1 h.1.2 h.2.1 h.2.2; rw [if_pos rfl] at this; exact this
      obtain ⟨r2, s1, s2, s3, s4⟩ := s_X6_plans (n := n) (by omega) hWp.s (r := sX6_a r1 (aPut (pX6_a m) i j 0)) (by rw [eX6_a_a]; exact Rp) (c := pX2_covers (pX5_market x)) hc.1 (by omega)
      have ea2 : pX6_a r2 = aPut (pX6_a m) i j 0 := by rw [s2.1, eX6_a_a]
      have e179 : aPut (pX6_a m) i j 0 179 = pX2_covers (pX5_market x) := by rw [Rp.cov, q10']
      have o1 := opt_r I.s (p := 0) 0 0 (pX2_covers (pX5_market x)) (by omega)
      have o2 := opt_r hWp.s (p := 0) 0 0 (pX2_covers (pX5_market x)) (by omega)
      have hback : aPut (aPut (pX6_a m) i j 0) i j 1 = pX6_a m := by
        have e2 : cl (pX5_market x) j i := (I.v.2.1 i j h.1.1 h.1.2 h.2.1 h.2.2).1 e
        have v1 := I.r.cl h.1.1 h.1.2 h.2.1 h.2.2
        have v2 := I.r.cl h.2.1 h.2.2 h.1.1 h.1.2
        rw [zB_pos e] at v1
        rw [zB_pos e2] at v2
        funext k
        unfold aPut
        rw [updZ_app, updZ_app, updZ_app, updZ_app]
        by_cases k1 : k = 115 + 8 * j + i
        · rw [if_pos k1, k1, v2]
        · rw [if_neg k1]
          by_cases k2 : k = 115 + 8 * i + j
          · rw [if_pos k2, k2, v1]
          · rw [if_neg k2, if_neg k1, if_neg k2]
      rw [zB_pos e', if_neg (c := (1 : Int) = 0) (by omega), g1, oB2_some, if_pos rfl, g5, g6, g7, s_X2_copyFrom (by omega) I.2.2.1.s I.s, oB_some, s_X2_putClash _ _ h.1.1 h.1.2 h.2.1 h.2.2, oB_some, a1, oB2_some, if_pos rfl, s_X3_incomeWithout a2 (by rw [a2.2.1]; omega) hc.1 (by rw [a3, q10']; omega), oB_some, s_X3_incomeWithout g3 (by rw [g3.2.1]; omega) hc.1 (by omega), oB_some, g4.optE, a3, oR_ok (by omega) (by omega)]
      rw [zB_pos e, if_neg (c := (1 : Int) = 0) (by omega), qA_ok (by omega) (by omega) (by omega), I.r.cov, p1, oB2_some, ea, s_X6_clashes _ _ h.1.1 h.1.2 h.2.1 h.2.2, oB_some, qA_ok (by omega) (by omega) (by omega), e179, s1, oB2_some, ea2, s_X6_clashes _ _ h.1.1 h.1.2 h.2.1 h.2.2, oB_some, oR_ok (by omega) (by omega), hback]
      refine ⟨_, _, _, _, _, rfl, rfl, .inl ⟨rfl, ?_, rfl⟩, ?_, ?_, ?_⟩
      · rw [eX6_thrown_a, s2.2.2.2.2.2.2, eX6_thrown_a, p2.2.2.2.2.2.2, eX6_thrown_thrown]
      · have IX' : Inv (sX5_trialPlanner (sX5_draft x1 (mPut (pX5_market x) i j 0)) q) m := by
          refine Inv_x g2 ?_ ?_ ?_ ?_ ?_ ?_ ?_ ?_
          · rw [eX5_market_trialPlanner, eX5_market_draft]
          · rw [eX5_history_trialPlanner, eX5_history_draft]
          · rw [eX5_draft_trialPlanner, eX5_draft_draft]; exact hWp
          · rw [eX5_text_trialPlanner, eX5_text_draft]
          · rw [eX5_textLength_trialPlanner, eX5_textLength_draft]
          · rw [eX5_errorAt_trialPlanner, eX5_errorAt_draft]
          · obtain ⟨y1, y2, y3⟩ := g2.2.2.2.2.2.1
            unfold PX
            rw [eX5_planner_trialPlanner, eX5_planner_draft, eX5_trialPlanner_trialPlanner, eX5_planned_trialPlanner, eX5_planned_draft, eX5_market_trialPlanner, eX5_market_draft]
            exact ⟨y1, a2.1, y3⟩
          · refine IX_same g2.2.2.2.2.2.2 ?_
            rw [eX5_insertion_trialPlanner, eX5_insertion_draft]
        refine Inv_m IX' ?_ ?_ ?_ ?_ ?_ ?_
        · rw [eX6_a_a]
        · rw [eX6_kept_a, s2.2.1, eX6_kept_a, p2.2.1, eX6_kept_thrown]
        · rw [eX6_keptMany_a, s2.2.2.1, eX6_keptMany_a, p2.2.2.1, eX6_keptMany_thrown]
        · rw [eX6_buffer_a, s2.2.2.2.1, eX6_buffer_a, p2.2.2.2.1, eX6_buffer_thrown]
        · rw [eX6_buffered_a, s2.2.2.2.2.1, eX6_buffered_a, p2.2.2.2.2.1, eX6_buffered_thrown]
        · rw [eX6_errorAt_a, s2.2.2.2.2.2.1, eX6_errorAt_a, p2.2.2.2.2.2.1, eX6_errorAt_thrown]
      · rw [eX5_planner_trialPlanner, eX5_planner_draft, g10]; split
        · exact .inr rfl
        · exact .inl rfl
      · rw [eX5_trialPlanner_trialPlanner, a4]; exact .inr rfl
    · have e' : ¬ zbit (pX2_clashes (pX5_market x) i) j := e
      rw [zB_neg e', if_pos rfl, zB_neg e, if_pos rfl]
      exact ⟨_, _, _, _, _, rfl, rfl, .inl ⟨rfl, eX6_thrown_thrown _ _, rfl⟩, Inv_t I 0, .inl rfl, .inl rfl⟩
  · rw [if_neg h, if_neg (by omega), zB_neg h, if_pos rfl, if_pos (by omega)]
    exact ⟨_, _, _, _, _, rfl, rfl, .inr ⟨rfl, eX6_thrown_thrown _ _⟩, Inv_t I 1, .inl rfl, .inl rfl⟩
