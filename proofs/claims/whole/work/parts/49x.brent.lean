/-! bestRent, both sides. -/
theorem op_bestRent {n : Nat} (hn : 20000 ≤ n) (bb b2 : Nat) {x : BX5} {m : BX6} (I : Inv x m) (p : Int) (hB : Bud (pX3_tableN (pX5_planner x)) (pX5_market x) bb) (hB2 : Bud (pX3_tableN (pX5_trialPlanner x)) (mTurn (pX5_market x)) b2) : ∃ cd v x' w m', g_X5_bestRent n bb b2 x p = some (cd, v, x') ∧ g_X6_bestRent n m p = some (w, m') ∧ ok1 1 cd v w (pX6_thrown m') ∧ Inv x' m' ∧
    (pX3_tableN (pX5_planner x') = pX3_tableN (pX5_planner x) ∨ pX3_tableN (pX5_planner x') = newN (pX3_tableN (pX5_planner x)) (pX5_market x)) ∧ (pX3_tableN (pX5_trialPlanner x') = pX3_tableN (pX5_trialPlanner x) ∨ pX3_tableN (pX5_trialPlanner x') = newN (pX3_tableN (pX5_trialPlanner x)) (mTurn (pX5_market x))) := by
  have hc := I.s.cov
  have hP := I.s.pit
  unfold g_X5_bestRent g_X6_bestRent g_X6_bestRent_14
  rw [g_reqP, oB_some, s_X6_isPitch I.s I.r, oB_some]
  by_cases h : 0 ≤ p ∧ p < pX2_pitches (pX5_market x)
  · obtain ⟨x1, g1, g2, g3, g4, g5, g6, g7, g8, g9, g10⟩ := prep hn bb I hB
    have hW := W2_turn I.s
    obtain ⟨q, a1, a2, a3, a4⟩ := s_X3_plan hn (q := pX5_trialPlanner x) I.2.2.2.2.2.1.2.1 hW.s b2 hB2
    obtain ⟨F, mm, a, c1, c2, c3⟩ := s_dearestRent (n := n) (by omega) g3 a2 g4 a3 I.s h.1 h.2
    obtain ⟨e, l1, l2⟩ := s_laysEdges (n := n) (by omega) (r := sX6_thrown m 0) I.s I.v.2.2.1 (by rw [eX6_a_thrown]; exact I.r) h.1 h.2
    have ea : pX6_a (sX6_isEdge (sX6_thrown m 0) e) = pX6_a m := by rw [eX6_a_isEdge, eX6_a_thrown]
    have ee : pX6_isEdge (sX6_isEdge (sX6_thrown m 0) e) = e := eX6_isEdge_isEdge _ _
    obtain ⟨m', told, r', j1, j2, j3⟩ := s_br48 n (by omega) I.w (r0 := sX6_isEdge (sX6_thrown m 0) e) (by rw [ea]; exact I.r) h.1 h.2 n 1 (-1) 0 (sX6_isEdge (sX6_thrown m 0) e) (by omega) (by omega) (by omega) ⟨⟨pX6_a (sX6_isEdge (sX6_thrown m 0) e) (2 + p), (upd_id _ _).symm⟩, rfl, rfl, rfl, rfl, rfl, rfl, rfl⟩ ⟨fun u u0 u1 => by omega, by omega, .inl rfl⟩
    rw [ee] at j3
    have hWo : ∀ t s, OkC (pX5_market x) p t s → ∃ W, WOf (pX5_market x) t s W := fun t s hO => by
      have hmf := mFor_b (pX5_market x) t s (by have := I.s.fr hO.1.1 hO.1.2; omega)
      obtain ⟨W, w1, w2, w3⟩ := s_wa_some (n := n) (by omega) g3 a2 g4 a3 I.s hO.1.1 hO.1.2 hO.2.1 (sp := pX2_covers (pX5_market x) - mFor (pX5_market x) t s) (by have := hO.2.2.2.1; omega) (by omega)
      exact ⟨W, w3⟩
    have hat := rent_eq I.w I.v.2.1 h.1 h.2 c2 c3 hWo l2 j3
    have hix : 0 ≤ 2 + p ∧ 2 + p < 180 := by omega
    rw [if_pos h, if_pos rfl, zB_pos h, g1, oB2_some, if_pos rfl, g5, g6, g7, s_X2_copyFrom (by omega) I.2.2.1.s I.s, oB_some, s_X2_turnAround (by omega) I.w, oB_some, a1, oB2_some, if_pos rfl, c1, oB_some, if_neg (c := (1 : Int) = 0) (by omega), if_pos (c := (0 : Int) ≤ 0) (by omega), l1, oB_some, qA_ok hix.1 hix.2 (by omega), oL_def, j1]
    refine ⟨_, _, _, _, _, rfl, rfl, .inl ⟨rfl, ?_, hat⟩, ?_, ?_, ?_⟩
    · rw [j2.2.2.2.2.2.2, eX6_thrown_isEdge, eX6_thrown_thrown]
    · have IX' : Inv (sX5_trialPlanner (sX5_draft x1 (mTurn (pX5_market x))) q) m := by
        refine Inv_x g2 ?_ ?_ ?_ ?_ ?_ ?_ ?_ ?_
        · rw [eX5_market_trialPlanner, eX5_market_draft]
        · rw [eX5_history_trialPlanner, eX5_history_draft]
        · rw [eX5_draft_trialPlanner, eX5_draft_draft]; exact hW
        · rw [eX5_text_trialPlanner, eX5_text_draft]
        · rw [eX5_textLength_trialPlanner, eX5_textLength_draft]
        · rw [eX5_errorAt_trialPlanner, eX5_errorAt_draft]
        · obtain ⟨y1, y2, y3⟩ := g2.2.2.2.2.2.1
          unfold PX
          rw [eX5_planner_trialPlanner, eX5_planner_draft, eX5_trialPlanner_trialPlanner, eX5_planned_trialPlanner, eX5_planned_draft, eX5_market_trialPlanner, eX5_market_draft]
          exact ⟨y1, a2.1, y3⟩
        · refine IX_same g2.2.2.2.2.2.2 ?_
          rw [eX5_insertion_trialPlanner, eX5_insertion_draft]
      refine Inv_m IX' ?_ ?_ ?_ ?_ ?_ ?_
      · rw [j2.1, ea]
      · rw [j2.2.1, eX6_kept_isEdge, eX6_kept_thrown]
      · rw [j2.2.2.1, eX6_keptMany_isEdge, eX6_keptMany_thrown]
      · rw [j2.2.2.2.1, eX6_buffer_isEdge, eX6_buffer_thrown]
      · rw [j2.2.2.2.2.1, eX6_buffered_isEdge, eX6_buffered_thrown]
      · rw [j2.2.2.2.2.2.1, eX6_errorAt_isEdge, eX6_errorAt_thrown]
    · rw [eX5_planner_trialPlanner, eX5_planner_draft, g10]; split
      · exact .inr rfl
      · exact .inl rfl
    · rw [eX5_trialPlanner_trialPlanner, a4]; exact .inr rfl
  · rw [if_neg h, if_neg (by omega), zB_neg h, if_pos rfl, if_neg (c := (1 : Int) ≤ 0) (by omega)]
    exact ⟨_, _, _, _, _, rfl, rfl, .inr ⟨rfl, eX6_thrown_thrown _ _⟩, Inv_t I 1, .inl rfl, .inl rfl⟩
