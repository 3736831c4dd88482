/-! optimise, whole. -/
theorem s_X6_optimise_24 (n : Nat) (r : BX6) : ∀ (fu : Nat) (x : Int), 0 ≤ x → x ≤ 8 → 8 - x < fu → g_X6_optimise_24 n fu x (sX6_a r (fun i => if 107 ≤ i ∧ i < 107 + x then -1 else pX6_a r i)) = g_X6_optimise_63 n n 0 8 (pX6_a r 179) 0 (sX6_a r (fun i => if 107 ≤ i ∧ i < 115 then -1 else pX6_a r i)) := by
  intro fu
  induction fu with
  | zero => intro x _ _ h0; omega
  | succ fu ih =>
    intro x x0 x1 hf
    rw [g_X6_optimise_24.eq_2, eX6_a_a]
    by_cases h : 8 ≤ x
    · rw [if_pos h, show x = 8 by omega, qA_ok (by omega) (by omega) (by omega), oL_def, if_neg (by omega)]; rfl
    · rw [if_neg h, qA_ok (by omega) (by omega) (by omega), oL_def, oR_ok (by omega) (by omega), uX6_a]
      rw [← ih (x + 1) (by omega) (by omega) (by omega)]
      refine congrArg (fun z => g_X6_optimise_24 n fu (x + 1) (sX6_a r z)) ?_
      funext i
      rw [updZ_app]
      by_cases h1 : i = 107 + x
      · rw [if_pos h1, if_pos (by omega)]
      · rw [if_neg h1]
        by_cases h2 : 107 ≤ i ∧ i < 107 + x
        · rw [if_pos h2, if_pos (by omega)]
        · rw [if_neg h2, if_neg (by omega)]
theorem op_optimise {n : Nat} (hn : 20000 ≤ n) (bb : Nat) {x : BX5} {m : BX6} (I : Inv x m) (hB : Bud (pX3_tableN (pX5_planner x)) (pX5_market x) bb) : ∃ v x' w m', g_X5_optimise n bb x = some (0, v, x') ∧ g_X6_optimise n m = some (w, m') ∧ v = w ∧ Inv x' m' ∧ pX5_trialPlanner x' = pX5_trialPlanner x ∧ pX3_tableN (pX5_planner x') = (if pX5_planned x = 0 then newN (pX3_tableN (pX5_planner x)) (pX5_market x) else pX3_tableN (pX5_planner x)) := by
  have hc := I.s.cov
  obtain ⟨x', g1, g2, g3, g4, g5, g6, g7, g8, g9, g10⟩ := prep hn bb I hB
  have hA := g3.aq
  have hs := hA.1.1
  have hPi := hs.pit
  have hcv : pX2_covers (pX3_street (pX5_planner x')) = pX2_covers (pX5_market x) := g4.2.2.2.2.2.2.2.2.2.2
  have lb := lev_b hs
  have kb := hA.1.2.2.1
  have sb := sets_b hs
  have sbx := sets_b I.s
  have hk := kKeep_t m 0
  have eT : pX2_traders (pX3_street (pX5_planner x')) = pX2_traders (pX5_market x) := g4.2.2.2.2.1
  obtain ⟨r1, p1, p2, p3, p4⟩ := s_X6_plans (n := n) (by omega) I.s (r := kKeep (sX6_thrown m 0)) (by rw [hk.2.2.1]; exact I.r) (c := pX2_covers (pX5_market x)) hc.1 (by omega)
  have ea : pX6_a r1 = pX6_a m := by rw [p2.1, hk.2.2.1]
  have hV : V2 (mEmpty (pX5_market x)) := V2_empty I.s I.v.2.1 I.v.2.2.1
  have hE := mEmpty_same (pX5_market x)
  have hlev : pX3_levels (pX5_planner x') = sLev (pX3_street (pX5_planner x')) := g3.2.2.2.1
  have O : OI (pX3_street (pX5_planner x')) (pX5_planner x') (mEmpty (pX5_market x)) (fun i => if 107 ≤ i ∧ i < 115 then -1 else pX6_a m i) 0 0 0 (min (pX2_covers (pX3_street (pX5_planner x'))) (pX3_levels (pX5_planner x') - 1)) 8 (pX2_covers (pX5_market x)) := by
    refine ⟨hV, Rl_empty I.r I.s, hE.trans g4.symm, ⟨by omega, by omega⟩, ⟨by omega, by omega⟩, ⟨by rw [hlev]; omega, by rw [hlev]; omega⟩, .inl rfl, ?_, hc.1, ?_, ?_, ?_, ?_, ?_⟩
    · rw [hA.2.2.2.1]; unfold barH; rw [if_pos rfl]
    · by_cases hle : pX2_covers (pX3_street (pX5_planner x')) ≤ pX3_levels (pX5_planner x') - 1
      · left; rw [Int.min_eq_left hle, hcv]
      · right
        have hl := leftN_le hs 0
        have he : pX3_levels (pX5_planner x') - 1 = zr (sNeed (pX3_street (pX5_planner x'))) 0 (pX2_traders (pX3_street (pX5_planner x'))) := by
          rw [hlev] at hle ⊢
          unfold sLev at hle ⊢
          omega
        omega
    · show (0 : Int) + _ = _
      rw [hcv]; omega
    · intro t t0 t1
      have ht : pX2_starts (mEmpty (pX5_market x)) t = -1 := by
        show (if 0 ≤ t ∧ t < 8 then (-1 : Int) else 0) = -1
        have := hs.tra
        rw [if_pos (by omega)]
      rw [ht]
      have := hs.tra
      exact ⟨fun h => absurd h (zbit_0 t0 (by omega)), fun h => absurd rfl h⟩
    · intro y y0 y1
      show (if 0 ≤ y ∧ y < 24 then (-1 : Int) else 0) = -1
      rw [if_pos (by omega)]
    · intro h1 _
      have := h1.1
      omega
  obtain ⟨c', a', i1, i2, i3, i4, i5⟩ := opt_lock n (by omega) g3 (cv := pX2_covers (pX5_market x)) (by omega) (r0 := r1) (fun p' a1 a2 => g4.symm.bestE (p3 p' a1 (by rw [← g4.1]; exact a2))) (fun t p t0 t1 p0 q1 => g4.symm.lkE (p4 t p t0 (by rw [← eT]; exact t1) p0 (by rw [← g4.1]; exact q1))) 24 n n 0 0 0 _ 8 _ 0 _ _ (by omega) (by omega) (by omega) (by omega) (by omega) (by omega) (by omega) (Int.le_refl _) O
  have h24 := s_X6_optimise_24 n r1 n 0 (by omega) (by omega) (by omega)
  have e : (fun i => if 107 ≤ i ∧ i < 107 + 0 then -1 else pX6_a r1 i) = pX6_a r1 := by
    funext i; rw [if_neg (by omega)]
  rw [e, iX6_a, ea, I.r.cov, i2] at h24
  unfold g_X5_optimise g_X6_optimise g_X3_seatBest g_X3_level
  rw [g1, oB2_some, if_pos rfl, s_X0_remember (by omega) g2.h.1 g2.s, oB_some, s_X2_unseatAll (by omega) g2.w, oB_some, oR_ok (by rw [hlev]; omega) (by rw [hlev]; omega), oB_some, g5, i1, oB_some, s_X2_countSeated (by omega) i3.w, oB_some, s_X6_keeps (by omega) _ (by rw [eX6_keptMany_thrown]; exact I.many.1) (by rw [eX6_keptMany_thrown]; exact I.many.2), oB_some, qA_ok (by omega) (by omega) (by omega), hk.2.2.1, I.r.cov, p1, oB2_some, h24]
  refine ⟨_, _, _, _, rfl, rfl, rfl, ?_, ?_, ?_⟩
  · have IM := Inv_mv g2 (b' := c') (a' := a') ⟨i3, i4⟩ (by rw [g5]; exact i5.trans g4)
    rw [g5] at IM
    refine Inv_m IM ?_ ?_ ?_ ?_ ?_ ?_
    · rw [eX6_a_a, eX6_a_a]
    · rw [eX6_kept_a, eX6_kept_a, p2.2.1]
    · rw [eX6_keptMany_a, eX6_keptMany_a, p2.2.2.1]
    · rw [eX6_buffer_a, eX6_buffer_a, p2.2.2.2.1]
    · rw [eX6_buffered_a, eX6_buffered_a, p2.2.2.2.2.1]
    · rw [eX6_errorAt_a, eX6_errorAt_a, p2.2.2.2.2.2.1]
  · rw [eX5_trialPlanner_history, eX5_trialPlanner_market]; exact g7
  · rw [eX5_planner_history, eX5_planner_market]; exact g10
