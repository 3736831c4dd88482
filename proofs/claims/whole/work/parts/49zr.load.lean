/-! load. -/
theorem op_load {n : Nat} (hn : 1000 ≤ n) {x : BX5} {m : BX6} (I : Inv x m) (hN : Nm m) (len : Int) : ∃ cd v x' w m', g_X5_load n x len = some (cd, v, x') ∧ g_X6_load n m len = some (w, m') ∧ ok1 2 cd v w (pX6_thrown m') ∧ Inv x' m' ∧ Nm m' ∧ pX5_planner x' = pX5_planner x ∧ pX5_trialPlanner x' = pX5_trialPlanner x := by
  unfold g_X5_load g_X5_load_12
  by_cases h : 0 ≤ len ∧ len ≤ pX5_textLength x
  · obtain ⟨ans, y', b', w, m', a1, a2, a3, a4, a5, a6, a7, a8, a9⟩ := load_core hn I hN h.1 h.2 (pX5_reader x)
    rw [if_neg (c := len < 0) (by omega), if_pos h.2, a1, a2]
    have e3 : ∀ (p : Int) (q : Int) (z : Int × BX4 × BX2) (k : Int → BX4 → BX2 → Option (Nat × Int × BX5)), oB3 (some z) k = k z.1 z.2.1 z.2.2 := fun _ _ _ _ => rfl
    rw [e3 0 0]
    rcases a9 with ⟨c1, c2, c3, c4⟩ | ⟨c1, c2, c3, c4, c5⟩
    · rw [if_neg (c := ans < 0) (by omega), s_X0_remember (by omega) I.h.1 I.s, oB_some, s_X2_copyFrom (by omega) I.s c2.1.s, oB_some]
      refine ⟨_, _, _, _, _, rfl, rfl, .inl ⟨rfl, a4, a3⟩, ⟨?_, ?_, ?_, ?_, ?_, ?_, ?_⟩, a5, ?_, ?_⟩
      · rw [eX5_market_planned, eX5_market_history, eX5_market_draft, eX5_market_market]; exact c2
      · rw [eX5_history_planned, eX5_history_history, c3, c4]; exact HR_keep I.h I.mr
      · rw [eX5_draft_planned, eX5_draft_history, eX5_draft_draft]; exact c2.1.w
      · unfold TX
        rw [eX5_textLength_planned, eX5_textLength_history, eX5_textLength_draft, eX5_textLength_market, eX5_textLength_reader, eX5_textLength_errorAt, eX5_textLength_textLength, a6]
        exact ⟨rfl, by omega, by omega, fun i i0 i1 => by omega⟩
      · rw [eX5_errorAt_planned, eX5_errorAt_history, eX5_errorAt_draft, eX5_errorAt_market, eX5_errorAt_reader, eX5_errorAt_errorAt, a7]
      · refine PX_0 I.2.2.2.2.2.1 ?_ ?_ ?_
        · rw [eX5_planner_planned, eX5_planner_history, eX5_planner_draft, eX5_planner_market, eX5_planner_reader, eX5_planner_errorAt, eX5_planner_textLength]
        · rw [eX5_trialPlanner_planned, eX5_trialPlanner_history, eX5_trialPlanner_draft, eX5_trialPlanner_market, eX5_trialPlanner_reader, eX5_trialPlanner_errorAt, eX5_trialPlanner_textLength]
        · rw [eX5_planned_planned]
      · refine IX_same I.2.2.2.2.2.2 ?_
        rw [eX5_insertion_planned, eX5_insertion_history, eX5_insertion_draft, eX5_insertion_market, eX5_insertion_reader, eX5_insertion_errorAt, eX5_insertion_textLength]
      · rw [eX5_planner_planned, eX5_planner_history, eX5_planner_draft, eX5_planner_market, eX5_planner_reader, eX5_planner_errorAt, eX5_planner_textLength]
      · rw [eX5_trialPlanner_planned, eX5_trialPlanner_history, eX5_trialPlanner_draft, eX5_trialPlanner_market, eX5_trialPlanner_reader, eX5_trialPlanner_errorAt, eX5_trialPlanner_textLength]
    · rw [if_pos (c := ans < 0) c1]
      refine ⟨_, _, _, _, _, rfl, rfl, .inl ⟨rfl, a4, a3⟩, ⟨?_, ?_, ?_, ?_, ?_, ?_, ?_⟩, a5, ?_, ?_⟩
      · rw [eX5_market_draft, eX5_market_reader, eX5_market_errorAt, eX5_market_textLength, c3]; exact I.mr
      · rw [eX5_history_draft, eX5_history_reader, eX5_history_errorAt, eX5_history_textLength, c4, c5]; exact I.h
      · rw [eX5_draft_draft]; exact c2
      · unfold TX
        rw [eX5_textLength_draft, eX5_textLength_reader, eX5_textLength_errorAt, eX5_textLength_textLength, a6]
        exact ⟨rfl, by omega, by omega, fun i i0 i1 => by omega⟩
      · rw [eX5_errorAt_draft, eX5_errorAt_reader, eX5_errorAt_errorAt, a7]
      · refine PX_same I.2.2.2.2.2.1 ?_ ?_ ?_ ?_
        · rw [eX5_planner_draft, eX5_planner_reader, eX5_planner_errorAt, eX5_planner_textLength]
        · rw [eX5_trialPlanner_draft, eX5_trialPlanner_reader, eX5_trialPlanner_errorAt, eX5_trialPlanner_textLength]
        · rw [eX5_planned_draft, eX5_planned_reader, eX5_planned_errorAt, eX5_planned_textLength]
        · rw [eX5_market_draft, eX5_market_reader, eX5_market_errorAt, eX5_market_textLength]; exact Same.rfl' _
      · refine IX_same I.2.2.2.2.2.2 ?_
        rw [eX5_insertion_draft, eX5_insertion_reader, eX5_insertion_errorAt, eX5_insertion_textLength]
      · rw [eX5_planner_draft, eX5_planner_reader, eX5_planner_errorAt, eX5_planner_textLength]
      · rw [eX5_trialPlanner_draft, eX5_trialPlanner_reader, eX5_trialPlanner_errorAt, eX5_trialPlanner_textLength]
  · have hx : (if len < 0 then some (2, 0, x) else if len ≤ pX5_textLength x then oB3 (g_X4_read n (pX5_reader x) (pX5_text x) len (pX5_draft x)) (fun r_1 b_1 b_2 => (if (r_1 < 0) then some (0, r_1, (sX5_draft (sX5_reader (sX5_errorAt (sX5_textLength x 0) (pX4_errorAt b_1)) b_1) b_2)) else oB (g_X0_remember n (pX5_history x) (pX5_market x)) (fun b_24 => oB (g_X2_copyFrom n (pX5_market x) b_2) (fun b_41 => some (0, r_1, (sX5_planned (sX5_history (sX5_draft (sX5_market (sX5_reader (sX5_errorAt (sX5_textLength x 0) (pX4_errorAt b_1)) b_1) b_41) b_2) b_24) 0)))))) else some (2, 0, x)) = (some (2, 0, x) : Option (Nat × Int × BX5)) := by
      by_cases h1 : len < 0
      · rw [if_pos h1]
      · rw [if_neg h1, if_neg (by omega)]
    rw [hx, load_bad I h]
    exact ⟨_, _, _, _, _, rfl, rfl, .inr ⟨rfl, eX6_thrown_thrown _ _⟩, Inv_t I 1, by unfold Nm; rw [eX6_number_thrown]; exact hN, rfl, rfl⟩
