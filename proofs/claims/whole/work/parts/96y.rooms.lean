/-! Room: the tables that the planners make. -/
noncomputable def phi (N : Int) : Int := if 345600 ≤ N then 1036800 else 2 * N
theorem phi_r {N : Int} (h0 : 1024 ≤ N) (h1 : N ≤ 345600) : 2048 ≤ phi N ∧ phi N ≤ 1036800 := by
  unfold phi; split <;> omega
theorem Same.sLevE {a b : BX2} (h : Same a b) : sLev a = sLev b := by
  unfold sLev
  rw [show sNeed a = sNeed b from funext (fun t => h.sNeedE t), h.2.2.2.2.1, h.2.2.2.2.2.2.2.2.2.2]
theorem Same.pSizeE {a b : BX2} (h : Same a b) : pSize a = pSize b := by
  unfold pSize
  rw [h.kAllE, h.sLevE, h.2.2.2.2.1, h.1]
theorem Pq.size {q : BX3} (h : Pq q) : pSize (pX3_street q) ≤ pX3_tableN q := by
  have h5 := h.2.2.2.2.1
  rw [h.2.1, h.2.2.1, h.2.2.2.1] at h5
  exact h5
theorem grow {N : Int} {b : BX2} (hb : S2 b) (h0 : 1024 ≤ N) (h1 : N ≤ 345600) : ∃ bb : Nat, Bud N b bb ∧ (bb : Int) + phi N ≤ phi (newN N b) := by
  have hs := pSize_b hb
  by_cases h : pSize b ≤ N
  · refine ⟨0, .inl h, ?_⟩
    unfold newN
    rw [if_pos h]
    omega
  · refine ⟨(newN N b).toNat, .inr (by omega), ?_⟩
    unfold newN phi
    rw [if_neg h]
    rw [if_neg (c := 345600 ≤ N) (by omega)]
    split <;> omega
theorem growP {x : BX5} {m : BX6} (I : Inv x m) : ∃ bb : Nat, Bud (pX3_tableN (pX5_planner x)) (pX5_market x) bb ∧ (bb : Int) + phi (pX3_tableN (pX5_planner x)) ≤ phi (if pX5_planned x = 0 then newN (pX3_tableN (pX5_planner x)) (pX5_market x) else pX3_tableN (pX5_planner x)) := by
  obtain ⟨h1, h2, h3⟩ := I.2.2.2.2.2.1
  by_cases hp : pX5_planned x = 0
  · rw [if_pos hp]
    exact grow I.s h1.2.1 h1.2.2
  · rw [if_neg hp]
    rcases h3 with h | ⟨h4, h5, h6⟩
    · exact absurd h hp
    · refine ⟨0, .inl ?_, by omega⟩
      rw [← h6.pSizeE]
      exact h5.size
theorem or_bestIncome {n : Nat} (hn : 20000 ≤ n) {x : BX5} {m : BX6} (I : Inv x m) : ∃ (bb : Nat), ∃ v x' w m', g_X5_bestIncome n bb x = some (0, v, x') ∧ g_X6_bestIncome n m = some (w, m') ∧ v = w ∧ Inv x' m' ∧ (bb : Int) + phi (pX3_tableN (pX5_planner x)) ≤ phi (pX3_tableN (pX5_planner x')) ∧ pX3_tableN (pX5_trialPlanner x') = pX3_tableN (pX5_trialPlanner x) := by
  obtain ⟨bb, hB, hp⟩ := growP I
  obtain ⟨v, x', w, m', h1, h2, h3, h4, h5, h6⟩ := op_bestIncome hn bb I hB
  exact ⟨bb, v, x', w, m', h1, h2, h3, h4, by rw [h6]; exact hp, by rw [h5]⟩
theorem or_coverValue {n : Nat} (hn : 20000 ≤ n) {x : BX5} {m : BX6} (I : Inv x m) : ∃ (bb : Nat), ∃ v x' w m', g_X5_coverValue n bb x = some (0, v, x') ∧ g_X6_coverValue n m = some (w, m') ∧ v = w ∧ Inv x' m' ∧ (bb : Int) + phi (pX3_tableN (pX5_planner x)) ≤ phi (pX3_tableN (pX5_planner x')) ∧ pX3_tableN (pX5_trialPlanner x') = pX3_tableN (pX5_trialPlanner x) := by
  obtain ⟨bb, hB, hp⟩ := growP I
  obtain ⟨v, x', w, m', h1, h2, h3, h4, h5, h6⟩ := op_coverValue hn bb I hB
  exact ⟨bb, v, x', w, m', h1, h2, h3, h4, by rw [h6]; exact hp, by rw [h5]⟩
theorem or_optimise {n : Nat} (hn : 20000 ≤ n) {x : BX5} {m : BX6} (I : Inv x m) : ∃ (bb : Nat), ∃ v x' w m', g_X5_optimise n bb x = some (0, v, x') ∧ g_X6_optimise n m = some (w, m') ∧ v = w ∧ Inv x' m' ∧ (bb : Int) + phi (pX3_tableN (pX5_planner x)) ≤ phi (pX3_tableN (pX5_planner x')) ∧ pX3_tableN (pX5_trialPlanner x') = pX3_tableN (pX5_trialPlanner x) := by
  obtain ⟨bb, hB, hp⟩ := growP I
  obtain ⟨v, x', w, m', h1, h2, h3, h4, h5, h6⟩ := op_optimise hn bb I hB
  exact ⟨bb, v, x', w, m', h1, h2, h3, h4, by rw [h6]; exact hp, by rw [h5]⟩
theorem oq_contribution {n : Nat} (hn : 20000 ≤ n) (bb : Nat) {x : BX5} {m : BX6} (I : Inv x m) (t : Int) (hB : 0 ≤ t ∧ t < pX2_traders (pX5_market x) → Bud (pX3_tableN (pX5_planner x)) (pX5_market x) bb) : ∃ cd v x' w m', g_X5_contribution n bb x t = some (cd, v, x') ∧ g_X6_contribution n m t = some (w, m') ∧ ok1 1 cd v w (pX6_thrown m') ∧ Inv x' m' ∧ pX5_trialPlanner x' = pX5_trialPlanner x ∧ pX3_tableN (pX5_planner x') = (if 0 ≤ t ∧ t < pX2_traders (pX5_market x) then (if pX5_planned x = 0 then newN (pX3_tableN (pX5_planner x)) (pX5_market x) else pX3_tableN (pX5_planner x)) else pX3_tableN (pX5_planner x)) := by
  have hc := I.s.cov
  have hp := I.s.pit
  unfold g_X5_contribution g_X6_contribution g_X6_contribution_14
  rw [g_reqT, oB_some, s_X6_isTrader I.s I.r, oB_some]
  by_cases h1 : 0 ≤ t ∧ t < pX2_traders (pX5_market x)
  · obtain ⟨x', g1, g2, g3, g4, g5, g6, g7, g8, g9, g10⟩ := prep hn bb I (hB h1)
    have hcv : pX2_covers (pX3_street (pX5_planner x')) = pX2_covers (pX5_market x) := g4.2.2.2.2.2.2.2.2.2.2
    have hset := sets_b g3.1.1
    have hon := one_lt I.s h1.1 h1.2
    have hsb := sets_b I.s
    have hon2 : 0 ≤ zShl 1 t ∧ zShl 1 t < pX3_sets (pX5_planner x') := by rw [g3.2.1, g4.2.2.2.2.1]; exact hon
    obtain ⟨r1, p1, p2, p3, p4⟩ := s_X6_plans (n := n) (by omega) I.s (r := sX6_thrown m 0) (by rw [eX6_a_thrown]; exact I.r) (c := pX2_covers (pX5_market x)) hc.1 (by omega)
    have R1 : Rl (pX5_market x) (pX6_a r1) := by rw [p2.1, eX6_a_thrown]; exact I.r
    have o1 := opt_r I.s (p := 0) 0 0 (pX2_covers (pX5_market x)) (by omega)
    have o2 := opt_r I.s (p := 0) (zShl 1 t) 0 (pX2_covers (pX5_market x)) (by omega)
    have hbst := p3 0 (by omega) (by omega) (zShl 1 t) 8 (pX2_covers (pX5_market x)) hon.1 hon.2 (.inl rfl) hc.1 (Int.le_refl _)
    unfold barH rix at hbst
    rw [if_pos rfl] at hbst
    rw [if_pos h1, if_pos rfl, zB_pos h1, g1, oB2_some, if_pos rfl, g5, s_X3_incomeWithout g3 (by rw [g3.2.1]; omega) hc.1 (by omega), oB_some, s_X3_incomeWithout g3 hon2 hc.1 (by omega), oB_some, g4.optE, g4.optE, oR_ok (by omega) (by omega)]
    unfold g_X6_at
    rw [if_neg (by omega), if_pos (by omega), qA_ok (by omega) (by omega) (by omega), I.r.cov, p1, oB2_some, qA_ok (by omega) (by omega) (by omega), R1.cov, oR_ok (by omega) (by omega), oB_some, qA_ok (by omega) (by omega) (by omega), hbst, qD_ok o2.1 (by omega), oR_ok (by omega) (by omega)]
    refine ⟨_, _, _, _, _, rfl, rfl, .inl ⟨rfl, ?_, rfl⟩, ?_, g7, ?_⟩
    · rw [p2.2.2.2.2.2.2, eX6_thrown_thrown]
    · exact Inv_m (Inv_t g2 0) p2.1 p2.2.1 p2.2.2.1 p2.2.2.2.1 p2.2.2.2.2.1 p2.2.2.2.2.2.1
    · rw [g10, if_pos h1]
  · rw [if_neg h1, if_neg (by omega), zB_neg h1, if_pos rfl, if_neg (by omega)]
    exact ⟨_, _, _, _, _, rfl, rfl, .inr ⟨rfl, eX6_thrown_thrown _ _⟩, Inv_t I 1, rfl, (if_neg h1).symm⟩
theorem or_contribution {n : Nat} (hn : 20000 ≤ n) {x : BX5} {m : BX6} (I : Inv x m) (t : Int) : ∃ (bb : Nat), ∃ cd v x' w m', g_X5_contribution n bb x t = some (cd, v, x') ∧ g_X6_contribution n m t = some (w, m') ∧ ok1 1 cd v w (pX6_thrown m') ∧ Inv x' m' ∧ (bb : Int) + phi (pX3_tableN (pX5_planner x)) ≤ phi (pX3_tableN (pX5_planner x')) ∧ pX3_tableN (pX5_trialPlanner x') = pX3_tableN (pX5_trialPlanner x) := by
  by_cases h : 0 ≤ t ∧ t < pX2_traders (pX5_market x)
  · obtain ⟨bb, hB, hp⟩ := growP I
    obtain ⟨cd, v, x', w, m', h1, h2, h3, h4, h5, h6⟩ := oq_contribution hn bb I t (fun _ => hB)
    exact ⟨bb, cd, v, x', w, m', h1, h2, h3, h4, by rw [h6, if_pos h]; exact hp, by rw [h5]⟩
  · obtain ⟨cd, v, x', w, m', h1, h2, h3, h4, h5, h6⟩ := oq_contribution hn 0 I t (fun k => absurd k h)
    exact ⟨0, cd, v, x', w, m', h1, h2, h3, h4, by rw [h6, if_neg h]; omega, by rw [h5]⟩
theorem oq_clashCost {n : Nat} (hn : 20000 ≤ n) (bb b2 : Nat) {x : BX5} {m : BX6} (I : Inv x m) (i j : Int) (hB : ((0 ≤ i ∧ i < 8) ∧ (0 ≤ j ∧ j < 8)) ∧ cl (pX5_market x) i j → Bud (pX3_tableN (pX5_planner x)) (pX5_market x) bb) (hB2 : ((0 ≤ i ∧ i < 8) ∧ (0 ≤ j ∧ j < 8)) ∧ cl (pX5_market x) i j → Bud (pX3_tableN (pX5_trialPlanner x)) (mPut (pX5_market x) i j 0) b2) : ∃ cd v x' w m', g_X5_clashCost n bb b2 x i j = some (cd, v, x') ∧ g_X6_clashCost n m i j = some (w, m') ∧ ok1 2 cd v w (pX6_thrown m') ∧ Inv x' m' ∧
    (((0 ≤ i ∧ i < 8) ∧ (0 ≤ j ∧ j < 8)) ∧ cl (pX5_market x) i j → pX3_tableN (pX5_planner x') = (if pX5_planned x = 0 then newN (pX3_tableN (pX5_planner x)) (pX5_market x) else pX3_tableN (pX5_planner x)) ∧ pX3_tableN (pX5_trialPlanner x') = newN (pX3_tableN (pX5_trialPlanner x)) (mPut (pX5_market x) i j 0)) ∧ (¬ (((0 ≤ i ∧ i < 8) ∧ (0 ≤ j ∧ j < 8)) ∧ cl (pX5_market x) i j) → pX3_tableN (pX5_planner x') = pX3_tableN (pX5_planner x) ∧ pX3_tableN (pX5_trialPlanner x') = pX3_tableN (pX5_trialPlanner x)) := by
  have hc := I.s.cov
  have hp := I.s.pit
  unfold g_X5_clashCost g_X6_clashCost g_X6_clashCost_14
  rw [g_reqTT, oB_some, s_X6_areTrades, oB_some]
  by_cases h : (0 ≤ i ∧ i < 8) ∧ (0 ≤ j ∧ j < 8)
  · rw [if_pos h, if_pos rfl, s_X2_areClashing _ h.1.1 h.1.2, oB_some, zB_pos h, if_neg (c := (1 : Int) = 0) (by omega), if_neg (c := (0 : Int) < 0) (by omega), qA_ok (e := 115 + 8 * i + j) (by omega) (by omega) (by omega), I.r.cl h.1.1 h.1.2 h.2.1 h.2.2]
    by_cases e : cl (pX5_market x) i j
    · have e' : zbit (pX2_clashes (pX5_market x) i) j := e
      obtain ⟨x1, g1, g2, g3, g4, g5, g6, g7, g8, g9, g10⟩ := prep hn bb I (hB ⟨h, e⟩)
      have hWp := W2_put I.w 0 h.1.1 h.1.2 h.2.1 h.2.2
      obtain ⟨q1', q2', q3', q4', q5', q6', q7', q8', q9', q10', q11', q12', q13'⟩ := mPut_eqs (pX5_market x) i j 0
      have hcv : pX2_covers (pX3_street (pX5_planner x1)) = pX2_covers (pX5_market x) := g4.2.2.2.2.2.2.2.2.2.2
      have hset := sets_b g3.1.1
      obtain ⟨q, a1, a2, a3, a4⟩ := s_X3_plan hn (q := pX5_trialPlanner x) I.2.2.2.2.2.1.2.1 hWp.s b2 (hB2 ⟨h, e⟩)
      have hset2 := sets_b a2.1.1
      obtain ⟨r1, p1, p2, p3, p4⟩ := s_X6_plans (n := n) (by omega) I.s (r := sX6_thrown m 0) (by rw [eX6_a_thrown]; exact I.r) (c := pX2_covers (pX5_market x)) hc.1 (by omega)
      have ea : pX6_a r1 = pX6_a m := by rw [p2.1, eX6_a_thrown]
      have Rp : Rl (mPut (pX5_market x) i j 0) (aPut (pX6_a m) i j 0) := by have := Rl_put I.r I.s 0 h.1.1 h.1.2 h.2.1 h.2.2; rw [if_pos rfl] at this; exact this
      obtain ⟨r2, s1, s2, s3, s4⟩ := s_X6_plans (n := n) (by omega) hWp.s (r := sX6_a r1 (aPut (pX6_a m) i j 0)) (by rw [eX6_a_a]; exact Rp) (c := pX2_covers (pX5_market x)) hc.1 (by omega)
      have ea2 : pX6_a r2 = aPut (pX6_a m) i j 0 := by rw [s2.1, eX6_a_a]
      have e179 : aPut (pX6_a m) i j 0 179 = pX2_covers (pX5_market x) := by rw [Rp.cov, q10']
      have o1 := opt_r I.s (p := 0) 0 0 (pX2_covers (pX5_market x)) (by omega)
      have o2 := opt_r hWp.s (p := 0) 0 0 (pX2_covers (pX5_market x)) (by omega)
      have hback : aPut (aPut (pX6_a m) i j 0) i j 1 = pX6_a m := by
        have e2 : cl (pX5_market x) j i := (I.v.2.1 i j h.1.1 h.1.2 h.2.1 h.2.2).1 e
        have v1 := I.r.cl h.1.1 h.1.2 h.2.1 h.2.2
        have v2 := I.r.cl h.2.1 h.2.2 h.1.1 h.1.2
        rw [zB_pos e] at v1
        rw [zB_pos e2] at v2
        funext k
        unfold aPut
        rw [updZ_app, updZ_app, updZ_app, updZ_app]
        by_cases k1 : k = 115 + 8 * j + i
        · rw [if_pos k1, k1, v2]
        · rw [if_neg k1]
          by_cases k2 : k = 115 + 8 * i + j
          · rw [if_pos k2, k2, v1]
          · rw [if_neg k2, if_neg k1, if_neg k2]
      rw [zB_pos e', if_neg (c := (1 : Int) = 0) (by omega), g1, oB2_some, if_pos rfl, g5, g6, g7, s_X2_copyFrom (by omega) I.2.2.1.s I.s, oB_some, s_X2_putClash _ _ h.1.1 h.1.2 h.2.1 h.2.2, oB_some, a1, oB2_some, if_pos rfl, s_X3_incomeWithout a2 (by rw [a2.2.1]; omega) hc.1 (by rw [a3, q10']; omega), oB_some, s_X3_incomeWithout g3 (by rw [g3.2.1]; omega) hc.1 (by omega), oB_some, g4.optE, a3, oR_ok (by omega) (by omega)]
      rw [zB_pos e, if_neg (c := (1 : Int) = 0) (by omega), qA_ok (by omega) (by omega) (by omega), I.r.cov, p1, oB2_some, ea, s_X6_clashes _ _ h.1.1 h.1.2 h.2.1 h.2.2, oB_some, qA_ok (by omega) (by omega) (by omega), e179, s1, oB2_some, ea2, s_X6_clashes _ _ h.1.1 h.1.2 h.2.1 h.2.2, oB_some, oR_ok (by omega) (by omega), hback]
      refine ⟨_, _, _, _, _, rfl, rfl, .inl ⟨rfl, ?_, rfl⟩, ?_, ?_, ?_⟩
      · rw [eX6_thrown_a, s2.2.2.2.2.2.2, eX6_thrown_a, p2.2.2.2.2.2.2, eX6_thrown_thrown]
      · have IX' : Inv (sX5_trialPlanner (sX5_draft x1 (mPut (pX5_market x) i j 0)) q) m := by
          refine Inv_x g2 ?_ ?_ ?_ ?_ ?_ ?_ ?_ ?_
          · rw [eX5_market_trialPlanner, eX5_market_draft]
          · rw [eX5_history_trialPlanner, eX5_history_draft]
          · rw [eX5_draft_trialPlanner, eX5_draft_draft]; exact hWp
          · rw [eX5_text_trialPlanner, eX5_text_draft]
          · rw [eX5_textLength_trialPlanner, eX5_textLength_draft]
          · rw [eX5_errorAt_trialPlanner, eX5_errorAt_draft]
          · obtain ⟨y1, y2, y3⟩ := g2.2.2.2.2.2.1
            unfold PX
            rw [eX5_planner_trialPlanner, eX5_planner_draft, eX5_trialPlanner_trialPlanner, eX5_planned_trialPlanner, eX5_planned_draft, eX5_market_trialPlanner, eX5_market_draft]
            exact ⟨y1, a2.1, y3⟩
          · refine IX_same g2.2.2.2.2.2.2 ?_
            rw [eX5_insertion_trialPlanner, eX5_insertion_draft]
        refine Inv_m IX' ?_ ?_ ?_ ?_ ?_ ?_
        · rw [eX6_a_a]
        · rw [eX6_kept_a, s2.2.1, eX6_kept_a, p2.2.1, eX6_kept_thrown]
        · rw [eX6_keptMany_a, s2.2.2.1, eX6_keptMany_a, p2.2.2.1, eX6_keptMany_thrown]
        · rw [eX6_buffer_a, s2.2.2.2.1, eX6_buffer_a, p2.2.2.2.1, eX6_buffer_thrown]
        · rw [eX6_buffered_a, s2.2.2.2.2.1, eX6_buffered_a, p2.2.2.2.2.1, eX6_buffered_thrown]
        · rw [eX6_errorAt_a, s2.2.2.2.2.2.1, eX6_errorAt_a, p2.2.2.2.2.2.1, eX6_errorAt_thrown]
      · intro _
        rw [eX5_planner_trialPlanner, eX5_planner_draft, g10, eX5_trialPlanner_trialPlanner, a4]
        exact ⟨rfl, rfl⟩
      · intro k
        exact absurd ⟨h, e⟩ k
    · have e' : ¬ zbit (pX2_clashes (pX5_market x) i) j := e
      rw [zB_neg e', if_pos rfl, zB_neg e, if_pos rfl]
      exact ⟨_, _, _, _, _, rfl, rfl, .inl ⟨rfl, eX6_thrown_thrown _ _, rfl⟩, Inv_t I 0, fun k => absurd k.2 e, fun _ => ⟨rfl, rfl⟩⟩
  · rw [if_neg h, if_neg (by omega), zB_neg h, if_pos rfl, if_pos (by omega)]
    exact ⟨_, _, _, _, _, rfl, rfl, .inr ⟨rfl, eX6_thrown_thrown _ _⟩, Inv_t I 1, fun k => absurd k.1 h, fun _ => ⟨rfl, rfl⟩⟩
theorem or_clashCost {n : Nat} (hn : 20000 ≤ n) {x : BX5} {m : BX6} (I : Inv x m) (i j : Int) : ∃ (bb b2 : Nat), ∃ cd v x' w m', g_X5_clashCost n bb b2 x i j = some (cd, v, x') ∧ g_X6_clashCost n m i j = some (w, m') ∧ ok1 2 cd v w (pX6_thrown m') ∧ Inv x' m' ∧ (bb : Int) + phi (pX3_tableN (pX5_planner x)) ≤ phi (pX3_tableN (pX5_planner x')) ∧ (b2 : Int) + phi (pX3_tableN (pX5_trialPlanner x)) ≤ phi (pX3_tableN (pX5_trialPlanner x')) := by
  by_cases h : ((0 ≤ i ∧ i < 8) ∧ (0 ≤ j ∧ j < 8)) ∧ cl (pX5_market x) i j
  · obtain ⟨bb, hB, hp⟩ := growP I
    obtain ⟨b2, hB2, hp2⟩ := grow (b := mPut (pX5_market x) i j 0) (W2_put I.w 0 h.1.1.1 h.1.1.2 h.1.2.1 h.1.2.2).s I.2.2.2.2.2.1.2.1.2.1 I.2.2.2.2.2.1.2.1.2.2
    obtain ⟨cd, v, x', w, m', h1, h2, h3, h4, h5, h6⟩ := oq_clashCost hn bb b2 I i j (fun _ => hB) (fun _ => hB2)
    exact ⟨bb, b2, cd, v, x', w, m', h1, h2, h3, h4, by rw [(h5 h).1]; exact hp, by rw [(h5 h).2]; exact hp2⟩
  · obtain ⟨cd, v, x', w, m', h1, h2, h3, h4, h5, h6⟩ := oq_clashCost hn 0 0 I i j (fun k => absurd k h) (fun k => absurd k h)
    exact ⟨0, 0, cd, v, x', w, m', h1, h2, h3, h4, by rw [(h6 h).1]; omega, by rw [(h6 h).2]; omega⟩
theorem oq_bestRent {n : Nat} (hn : 20000 ≤ n) (bb b2 : Nat) {x : BX5} {m : BX6} (I : Inv x m) (p : Int) (hB : 0 ≤ p ∧ p < pX2_pitches (pX5_market x) → Bud (pX3_tableN (pX5_planner x)) (pX5_market x) bb) (hB2 : 0 ≤ p ∧ p < pX2_pitches (pX5_market x) → Bud (pX3_tableN (pX5_trialPlanner x)) (mTurn (pX5_market x)) b2) : ∃ cd v x' w m', g_X5_bestRent n bb b2 x p = some (cd, v, x') ∧ g_X6_bestRent n m p = some (w, m') ∧ ok1 1 cd v w (pX6_thrown m') ∧ Inv x' m' ∧
    pX3_tableN (pX5_planner x') = (if 0 ≤ p ∧ p < pX2_pitches (pX5_market x) then (if pX5_planned x = 0 then newN (pX3_tableN (pX5_planner x)) (pX5_market x) else pX3_tableN (pX5_planner x)) else pX3_tableN (pX5_planner x)) ∧ pX3_tableN (pX5_trialPlanner x') = (if 0 ≤ p ∧ p < pX2_pitches (pX5_market x) then newN (pX3_tableN (pX5_trialPlanner x)) (mTurn (pX5_market x)) else pX3_tableN (pX5_trialPlanner x)) := by
  have hc := I.s.cov
  have hP := I.s.pit
  unfold g_X5_bestRent g_X6_bestRent g_X6_bestRent_14
  rw [g_reqP, oB_some, s_X6_isPitch I.s I.r, oB_some]
  by_cases h : 0 ≤ p ∧ p < pX2_pitches (pX5_market x)
  · obtain ⟨x1, g1, g2, g3, g4, g5, g6, g7, g8, g9, g10⟩ := prep hn bb I (hB h)
    have hW := W2_turn I.s
    obtain ⟨q, a1, a2, a3, a4⟩ := s_X3_plan hn (q := pX5_trialPlanner x) I.2.2.2.2.2.1.2.1 hW.s b2 (hB2 h)
    obtain ⟨F, mm, a, c1, c2, c3⟩ := s_dearestRent (n := n) (by omega) g3 a2 g4 a3 I.s h.1 h.2
    obtain ⟨e, l1, l2⟩ := s_laysEdges (n := n) (by omega) (r := sX6_thrown m 0) I.s I.v.2.2.1 (by rw [eX6_a_thrown]; exact I.r) h.1 h.2
    have ea : pX6_a (sX6_isEdge (sX6_thrown m 0) e) = pX6_a m := by rw [eX6_a_isEdge, eX6_a_thrown]
    have ee : pX6_isEdge (sX6_isEdge (sX6_thrown m 0) e) = e := eX6_isEdge_isEdge _ _
    obtain ⟨m', told, r', j1, j2, j3⟩ := s_br48 n (by omega) I.w (r0 := sX6_isEdge (sX6_thrown m 0) e) (by rw [ea]; exact I.r) h.1 h.2 n 1 (-1) 0 (sX6_isEdge (sX6_thrown m 0) e) (by omega) (by omega) (by omega) ⟨⟨pX6_a (sX6_isEdge (sX6_thrown m 0) e) (2 + p), (upd_id _ _).symm⟩, rfl, rfl, rfl, rfl, rfl, rfl, rfl⟩ ⟨fun u u0 u1 => by omega, by omega, .inl rfl⟩
    rw [ee] at j3
    have hWo : ∀ t s, OkC (pX5_market x) p t s → ∃ W, WOf (pX5_market x) t s W := fun t s hO => by
      have hmf := mFor_b (pX5_market x) t s (by have := I.s.fr hO.1.1 hO.1.2; omega)
      obtain ⟨W, w1, w2, w3⟩ := s_wa_some (n := n) (by omega) g3 a2 g4 a3 I.s hO.1.1 hO.1.2 hO.2.1 (sp := pX2_covers (pX5_market x) - mFor (pX5_market x) t s) (by have := hO.2.2.2.1; omega) (by omega)
      exact ⟨W, w3⟩
    have hat := rent_eq I.w I.v.2.1 h.1 h.2 c2 c3 hWo l2 j3
    have hix : 0 ≤ 2 + p ∧ 2 + p < 180 := by omega
    rw [if_pos h, if_pos rfl, zB_pos h, g1, oB2_some, if_pos rfl, g5, g6, g7, s_X2_copyFrom (by omega) I.2.2.1.s I.s, oB_some, s_X2_turnAround (by omega) I.w, oB_some, a1, oB2_some, if_pos rfl, c1, oB_some, if_neg (c := (1 : Int) = 0) (by omega), if_pos (c := (0 : Int) ≤ 0) (by omega), l1, oB_some, qA_ok hix.1 hix.2 (by omega), oL_def, j1]
    refine ⟨_, _, _, _, _, rfl, rfl, .inl ⟨rfl, ?_, hat⟩, ?_, ?_, ?_⟩
    · rw [j2.2.2.2.2.2.2, eX6_thrown_isEdge, eX6_thrown_thrown]
    · have IX' : Inv (sX5_trialPlanner (sX5_draft x1 (mTurn (pX5_market x))) q) m := by
        refine Inv_x g2 ?_ ?_ ?_ ?_ ?_ ?_ ?_ ?_
        · rw [eX5_market_trialPlanner, eX5_market_draft]
        · rw [eX5_history_trialPlanner, eX5_history_draft]
        · rw [eX5_draft_trialPlanner, eX5_draft_draft]; exact hW
        · rw [eX5_text_trialPlanner, eX5_text_draft]
        · rw [eX5_textLength_trialPlanner, eX5_textLength_draft]
        · rw [eX5_errorAt_trialPlanner, eX5_errorAt_draft]
        · obtain ⟨y1, y2, y3⟩ := g2.2.2.2.2.2.1
          unfold PX
          rw [eX5_planner_trialPlanner, eX5_planner_draft, eX5_trialPlanner_trialPlanner, eX5_planned_trialPlanner, eX5_planned_draft, eX5_market_trialPlanner, eX5_market_draft]
          exact ⟨y1, a2.1, y3⟩
        · refine IX_same g2.2.2.2.2.2.2 ?_
          rw [eX5_insertion_trialPlanner, eX5_insertion_draft]
      refine Inv_m IX' ?_ ?_ ?_ ?_ ?_ ?_
      · rw [j2.1, ea]
      · rw [j2.2.1, eX6_kept_isEdge, eX6_kept_thrown]
      · rw [j2.2.2.1, eX6_keptMany_isEdge, eX6_keptMany_thrown]
      · rw [j2.2.2.2.1, eX6_buffer_isEdge, eX6_buffer_thrown]
      · rw [j2.2.2.2.2.1, eX6_buffered_isEdge, eX6_buffered_thrown]
      · rw [j2.2.2.2.2.2.1, eX6_errorAt_isEdge, eX6_errorAt_thrown]
    · rw [eX5_planner_trialPlanner, eX5_planner_draft, g10, if_pos (c := 0 ≤ p ∧ p < pX2_pitches (pX5_market x)) h]
    · rw [eX5_trialPlanner_trialPlanner, a4, if_pos h]
  · rw [if_neg h, if_neg (by omega), zB_neg h, if_pos rfl, if_neg (c := (1 : Int) ≤ 0) (by omega)]
    exact ⟨_, _, _, _, _, rfl, rfl, .inr ⟨rfl, eX6_thrown_thrown _ _⟩, Inv_t I 1, (if_neg h).symm, (if_neg h).symm⟩
theorem or_bestRent {n : Nat} (hn : 20000 ≤ n) {x : BX5} {m : BX6} (I : Inv x m) (p : Int) : ∃ (bb b2 : Nat), ∃ cd v x' w m', g_X5_bestRent n bb b2 x p = some (cd, v, x') ∧ g_X6_bestRent n m p = some (w, m') ∧ ok1 1 cd v w (pX6_thrown m') ∧ Inv x' m' ∧ (bb : Int) + phi (pX3_tableN (pX5_planner x)) ≤ phi (pX3_tableN (pX5_planner x')) ∧ (b2 : Int) + phi (pX3_tableN (pX5_trialPlanner x)) ≤ phi (pX3_tableN (pX5_trialPlanner x')) := by
  by_cases h : 0 ≤ p ∧ p < pX2_pitches (pX5_market x)
  · obtain ⟨bb, hB, hp⟩ := growP I
    obtain ⟨b2, hB2, hp2⟩ := grow (b := mTurn (pX5_market x)) (W2_turn I.s).s I.2.2.2.2.2.1.2.1.2.1 I.2.2.2.2.2.1.2.1.2.2
    obtain ⟨cd, v, x', w, m', h1, h2, h3, h4, h5, h6⟩ := oq_bestRent hn bb b2 I p (fun _ => hB) (fun _ => hB2)
    exact ⟨bb, b2, cd, v, x', w, m', h1, h2, h3, h4, by rw [h5, if_pos h]; exact hp, by rw [h6, if_pos h]; exact hp2⟩
  · obtain ⟨cd, v, x', w, m', h1, h2, h3, h4, h5, h6⟩ := oq_bestRent hn 0 0 I p (fun k => absurd k h) (fun k => absurd k h)
    exact ⟨0, 0, cd, v, x', w, m', h1, h2, h3, h4, by rw [h5, if_neg h]; omega, by rw [h6, if_neg h]; omega⟩
