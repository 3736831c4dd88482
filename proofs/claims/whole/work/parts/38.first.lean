/-! firstCome, both sides -/
theorem Inv_x {x x' : BX5} {m : BX6} (I : Inv x m) (e1 : pX5_market x' = pX5_market x) (e2 : pX5_history x' = pX5_history x) (e3 : W2 (pX5_draft x')) (e4 : pX5_text x' = pX5_text x) (e5 : pX5_textLength x' = pX5_textLength x) (e6 : pX5_errorAt x' = pX5_errorAt x) (e7 : PX x') (e8 : IX x') : Inv x' m := by
  refine ⟨?_, ?_, e3, ?_, ?_, e7, e8⟩
  · rw [e1]; exact I.mr
  · rw [e2]; exact I.h
  · unfold TX; rw [e4, e5]; exact I.2.2.2.1
  · rw [e6]; exact I.2.2.2.2.1
theorem op_firstCome {n : Nat} (hn : 1000 ≤ n) {x : BX5} {m : BX6} (I : Inv x m) (o : Int) (ho2 : o ≤ 9223372036854775807) : ∃ cd v x' w m', g_X5_firstCome n x o = some (cd, v, x') ∧ g_X6_firstCome n m o = some (w, m') ∧ ok1 2 cd v w (pX6_thrown m') ∧ Inv x' m' := by
  have ht := I.s.tra
  obtain ⟨n', rfl⟩ : ∃ f, n = f + 1 := ⟨n - 1, by omega⟩
  unfold g_X5_firstCome g_X5_readQueue g_X6_firstCome g_X6_isOrder g_X6_firstCome_14
  have hq0 : ∀ q, Inv (sX5_queue x q) (sX6_thrown m 1) := fun q => Inv_x (Inv_t I 1) (eX5_market_queue _ _) (eX5_history_queue _ _) (by rw [eX5_draft_queue]; exact I.2.2.1) (eX5_text_queue _ _) (eX5_textLength_queue _ _) (eX5_errorAt_queue _ _)
    (PX_same I.2.2.2.2.2.1 (eX5_planner_queue _ _) (eX5_trialPlanner_queue _ _) (eX5_planned_queue _ _) (by rw [eX5_market_queue]; exact Same.rfl' _)) (IX_same I.2.2.2.2.2.2 (eX5_insertion_queue _ _))
  by_cases ho : 0 ≤ o
  · rw [if_pos ho]
    have hbig : o < 10 ^ n' := by
      have h19 : (10 : Int) ^ 19 = 10000000000000000000 := by decide
      have : ∀ (a b : Nat), a ≤ b → (10 : Int) ^ a ≤ 10 ^ b := by
        intro a b hab
        induction hab with
        | refl => exact Int.le_refl _
        | step h ih => rename_i m; have := p10s m; have := p10 m; show (10 : Int) ^ a ≤ 10 ^ (m + 1); omega
      have := this 19 n' (by omega)
      omega
    rcases rq (n' + 1) I.s I.r o ho n' o 0 0 x rfl ho hbig ho2 seenN_0.symm with ⟨q, e1, e2⟩ | ⟨c, q, e1, e2, e3, e4, e5, e6, e7, e8⟩
    · rw [e1, oB2_some, e2, oB_some, if_neg (by omega), if_pos rfl, if_neg (by omega)]
      exact ⟨_, _, _, _, _, rfl, rfl, .inr ⟨rfl, eX6_thrown_thrown _ _⟩, hq0 q⟩
    · have hc0 : 0 + (c : Int) = c := by omega
      rw [hc0] at e1 e3
      have hd : S2 (pX5_draft (sX5_queue x q)) := by rw [eX5_draft_queue]; exact I.2.2.1.s
      have hm : pX5_market (sX5_queue x q) = pX5_market x := eX5_market_queue _ _
      rw [e1, oB2_some, e2, oB_some, if_pos (by omega), if_neg (by omega), if_pos (by omega), hm, s_X2_copyFrom (by omega) hd I.s, oB_some, s_X2_unseatAll (by omega) I.w, oB_some, oR_ok (by omega) (by omega), oL_def]
      have h28 := s_X6_firstCome_28 (n' + 1) o (sX6_thrown m 0) (n' + 1) 0 (by omega) (by omega) (by omega)
      have z1 : (fun i => if 107 ≤ i ∧ i < 107 + 0 then -1 else pX6_a (sX6_thrown m 0) i) = pX6_a (sX6_thrown m 0) := by funext i; rw [if_neg (by omega)]
      have z2 : (fun i => if 0 ≤ i ∧ i < 0 then pX6_a (sX6_thrown m 0) (107 + i) else pX6_found (sX6_thrown m 0) i) = pX6_found (sX6_thrown m 0) := by funext i; rw [if_neg (by omega)]
      rw [z1, z2, iX6_a, iX6_found] at h28
      rw [h28]
      have hW := mEmpty_W2 I.s
      have hRe : Rl (mEmpty (pX5_market x)) (fun i => if 107 ≤ i ∧ i < 115 then -1 else pX6_a (sX6_thrown m 0) i) := by rw [eX6_a_thrown]; exact Rl_empty I.r I.s
      -- the last state of both
      have fin : ∀ (d' : BX2) (w : Int) (v' : Int → Int), W2 d' → (∀ i, (i < 107 ∨ 115 ≤ i) → v' i = (fun i => if 107 ≤ i ∧ i < 115 then -1 else pX6_a (sX6_thrown m 0) i) i) →
          ∃ cd v x' w' m', some ((0 : Nat), w, sX5_draft (sX5_draft (sX5_queue x q) (mEmpty (pX5_market x))) d') = some (cd, v, x') ∧ some (w, sX6_a (sX6_found (sX6_thrown m 0) (fun i => if 0 ≤ i ∧ i < 8 then pX6_a (sX6_thrown m 0) (107 + i) else pX6_found (sX6_thrown m 0) i)) (fun i => if 107 ≤ i ∧ i < 115 then pX6_found (sX6_found (sX6_thrown m 0) (fun i => if 0 ≤ i ∧ i < 8 then pX6_a (sX6_thrown m 0) (107 + i) else pX6_found (sX6_thrown m 0) i)) (i - 107) else v' i)) = some (w', m') ∧ ok1 2 cd v w' (pX6_thrown m') ∧ Inv x' m' := by
        intro d' w v' hd' hv'
        refine ⟨_, _, _, _, _, rfl, rfl, .inl ⟨rfl, ?_, rfl⟩, ?_⟩
        · rw [eX6_thrown_a, eX6_thrown_found, eX6_thrown_thrown]
        · have hI : Inv (sX5_draft (sX5_draft (sX5_queue x q) (mEmpty (pX5_market x))) d') m := by
            refine Inv_x I ?_ ?_ ?_ ?_ ?_ ?_ ?_ ?_
            · rw [eX5_market_draft, eX5_market_draft, eX5_market_queue]
            · rw [eX5_history_draft, eX5_history_draft, eX5_history_queue]
            · rw [eX5_draft_draft]; exact hd'
            · rw [eX5_text_draft, eX5_text_draft, eX5_text_queue]
            · rw [eX5_textLength_draft, eX5_textLength_draft, eX5_textLength_queue]
            · rw [eX5_errorAt_draft, eX5_errorAt_draft, eX5_errorAt_queue]
            · refine PX_same I.2.2.2.2.2.1 ?_ ?_ ?_ ?_
              · rw [eX5_planner_draft, eX5_planner_draft, eX5_planner_queue]
              · rw [eX5_trialPlanner_draft, eX5_trialPlanner_draft, eX5_trialPlanner_queue]
              · rw [eX5_planned_draft, eX5_planned_draft, eX5_planned_queue]
              · rw [eX5_market_draft, eX5_market_draft, eX5_market_queue]; exact Same.rfl' _
            · refine IX_same I.2.2.2.2.2.2 ?_
              rw [eX5_insertion_draft, eX5_insertion_draft, eX5_insertion_queue]
          refine Inv_m hI ?_ ?_ ?_ ?_ ?_ ?_
          · rw [eX6_a_a]
            funext i
            by_cases h1 : 107 ≤ i ∧ i < 115
            · rw [if_pos h1, eX6_found_found, if_pos (by omega), eX6_a_thrown]; exact congrArg _ (by omega)
            · rw [if_neg h1, hv' i (by omega)]
              show (if 107 ≤ i ∧ i < 115 then -1 else pX6_a (sX6_thrown m 0) i) = pX6_a m i
              rw [if_neg h1, eX6_a_thrown]
          · rw [eX6_kept_a, eX6_kept_found, eX6_kept_thrown]
          · rw [eX6_keptMany_a, eX6_keptMany_found, eX6_keptMany_thrown]
          · rw [eX6_buffer_a, eX6_buffer_found, eX6_buffer_thrown]
          · rw [eX6_buffered_a, eX6_buffered_found, eX6_buffered_thrown]
          · rw [eX6_errorAt_a, eX6_errorAt_found, eX6_errorAt_thrown]
      have ecm : sX6_found (sX6_a (sX6_thrown m 0) (fun i => if 107 ≤ i ∧ i < 115 then -1 else pX6_a (sX6_thrown m 0) i)) (fun i => if 0 ≤ i ∧ i < 8 then pX6_a (sX6_thrown m 0) (107 + i) else pX6_found (sX6_thrown m 0) i) = sX6_a (sX6_found (sX6_thrown m 0) (fun i => if 0 ≤ i ∧ i < 8 then pX6_a (sX6_thrown m 0) (107 + i) else pX6_found (sX6_thrown m 0) i)) (fun i => if 107 ≤ i ∧ i < 115 then -1 else pX6_a (sX6_thrown m 0) i) := by
        exact cX6_found_a _ _ _
      rw [ecm]
      by_cases hz : o = 0
      · have := e4 hz
        subst this
        subst hz
        have e67 : g_X6_firstCome_67 (n' + 1) (n' + 1) 0 1 (sX6_a (sX6_found (sX6_thrown m 0) (fun i => if 0 ≤ i ∧ i < 8 then pX6_a (sX6_thrown m 0) (107 + i) else pX6_found (sX6_thrown m 0) i)) (fun i => if 107 ≤ i ∧ i < 115 then -1 else pX6_a (sX6_thrown m 0) i)) = g_X6_firstCome_142 (n' + 1) (sX6_a (sX6_found (sX6_thrown m 0) (fun i => if 0 ≤ i ∧ i < 8 then pX6_a (sX6_thrown m 0) (107 + i) else pX6_found (sX6_thrown m 0) i)) (fun i => if 107 ≤ i ∧ i < 115 then -1 else pX6_a (sX6_thrown m 0) i)) := by
          rw [g_X6_firstCome_67.eq_2, qD_ok (by omega) (by omega), oRJ_ok (by omega) (by omega), if_pos (by omega), g_X6_firstCome_89.eq_2, if_neg (by omega), if_pos (by omega)]
        rw [e67, s_X6_firstCome_142 (by omega) hW hRe, g_X5_firstCome_43.eq_2, if_pos (by omega), eX5_draft_draft, s_X2_totalRent (by omega) hW, oB_some]
        have := fin (mEmpty (pX5_market x)) (mIncome (mEmpty (pX5_market x))) _ hW (fun i _ => rfl)
        rw [uX5_draft] at this
        exact this
      · obtain ⟨f1, f2, f3⟩ := e5 (by omega)
        have h67 := s_X6_firstCome_67 (n' + 1) o (by omega) ho2 c f1 f2 f3 (sX6_a (sX6_found (sX6_thrown m 0) (fun i => if 0 ≤ i ∧ i < 8 then pX6_a (sX6_thrown m 0) (107 + i) else pX6_found (sX6_thrown m 0) i)) (fun i => if 107 ≤ i ∧ i < 115 then -1 else pX6_a (sX6_thrown m 0) i)) (n' + 1) 0 (by omega) (by omega)
        rw [Int.pow_zero] at h67
        rw [h67]
        obtain ⟨d', w, v', i1, i2, i3, i4⟩ := fc (n' + 1) (by omega) (sX6_found (sX6_thrown m 0) (fun i => if 0 ≤ i ∧ i < 8 then pX6_a (sX6_thrown m 0) (107 + i) else pX6_found (sX6_thrown m 0) i)) o (by omega) q c (n' + 1) (n' + 1) (sX5_draft (sX5_queue x q) (mEmpty (pX5_market x))) (mEmpty (pX5_market x)) (fun i => if 107 ≤ i ∧ i < 115 then -1 else pX6_a (sX6_thrown m 0) i) (by omega) (by omega) (by omega) ho2 (eX5_draft_draft _ _) (by rw [eX5_queue_draft, eX5_queue_queue]) hW hRe (fun _ => f2)
          (fun i hi => by
            have h := e6 i hi
            have e0 : (0 : Int) + (i : Int) = i := by omega
            rw [e0] at h
            refine ⟨h.1, h.2.1, h.2.2.1, ?_⟩
            show (if 0 ≤ q i ∧ q i < 8 then (-1 : Int) else 0) = -1
            rw [if_pos (by omega)])
          (fun i j hij hj => by
            have h := e7 i j hij hj
            have e0 : (0 : Int) + (i : Int) = i := by omega
            have e1 : (0 : Int) + (j : Int) = j := by omega
            rw [e0, e1] at h
            exact h)
        rw [if_neg (by omega : ¬ c = 0)] at i2
        rw [i1, i2]
        exact fin d' w v' i3 i4
  · rw [if_neg ho, oB2_some, if_neg (by omega)]
    have e0 : g_X6_isOrder_5 (n' + 1) (n' + 1) o 0 o m = some 0 := by
      rw [g_X6_isOrder_5.eq_2, if_pos (by omega), if_pos (by omega)]
    rw [e0, oB_some, if_pos rfl, if_neg (by omega)]
    exact ⟨_, _, _, _, _, rfl, rfl, .inr ⟨rfl, eX6_thrown_thrown _ _⟩, Inv_t I 1⟩
