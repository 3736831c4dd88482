/-! insertionIncome, insert. -/
theorem g_reqN {x : BX5} (t mo : Int) : g_X5_requireNewcomer x t mo = some (if ¬ (0 ≤ t ∧ t < pX2_traders (pX5_market x)) then 1 else if ¬ (0 ≤ mo ∧ mo ≤ 2) then 2 else if pX2_starts (pX5_market x) t = -1 then 0 else 3) ∨ ¬ S2 (pX5_market x) := by
  by_cases hb : S2 (pX5_market x)
  · left
    have hT := hb.tra
    unfold g_X5_requireNewcomer
    rw [g_reqT, oB_some]
    by_cases h1 : 0 ≤ t ∧ t < pX2_traders (pX5_market x)
    · rw [if_pos h1, if_pos rfl, g_out, oB_some, if_neg (c := ¬ (0 ≤ t ∧ t < pX2_traders (pX5_market x))) (fun h => h h1)]
      by_cases h2 : 0 ≤ mo ∧ mo ≤ 2
      · rw [zB_neg (fun h => h h2), if_pos rfl, s_X2_isSeated _ h1.1 (by omega), oB_some, if_neg (c := ¬ (0 ≤ mo ∧ mo ≤ 2)) (fun h => h h2)]
        by_cases h3 : pX2_starts (pX5_market x) t = -1
        · rw [zB_neg (fun h => h h3), if_pos rfl, if_pos h3]
        · rw [zB_pos h3, if_neg (c := (1 : Int) = 0) (by omega), if_neg h3]
      · rw [zB_pos h2, if_neg (c := (1 : Int) = 0) (by omega), if_pos (c := ¬ (0 ≤ mo ∧ mo ≤ 2)) h2]
    · rw [if_neg h1, if_neg (c := (1 : Nat) = 0) (by omega), if_pos (c := ¬ (0 ≤ t ∧ t < pX2_traders (pX5_market x))) h1]
  · exact .inr hb
theorem g_refuses {b : BX2} {r : BX6} (hb : S2 b) (R : Rl b (pX6_a r)) (t mo : Int) : g_X6_refusesInsertion r t mo = some (if ¬ (0 ≤ t ∧ t < pX2_traders b) then 1 else if ¬ (0 ≤ mo ∧ mo ≤ 2) then 2 else if pX2_starts b t = -1 then 0 else 3) := by
  have hT := hb.tra
  unfold g_X6_refusesInsertion
  rw [s_X6_isTrader hb R, oB_some]
  by_cases h1 : 0 ≤ t ∧ t < pX2_traders b
  · rw [zB_pos h1, if_neg (c := (1 : Int) = 0) (by omega), s_X6_isIn, oB_some, if_neg (c := ¬ (0 ≤ t ∧ t < pX2_traders b)) (fun h => h h1)]
    by_cases h2 : 0 ≤ mo ∧ mo ≤ 2
    · rw [zB_pos h2, if_neg (c := (1 : Int) = 0) (by omega), qA_ok (by omega) (by omega) (by omega), R.st h1.1 (by omega), if_neg (c := ¬ (0 ≤ mo ∧ mo ≤ 2)) (fun h => h h2)]
      by_cases h3 : pX2_starts b t = -1
      · rw [if_pos h3, if_pos h3]
      · rw [if_neg h3, if_neg h3]
    · rw [zB_neg h2, if_pos rfl, if_pos (c := ¬ (0 ≤ mo ∧ mo ≤ 2)) h2]
  · rw [zB_neg h1, if_pos rfl, if_pos (c := ¬ (0 ≤ t ∧ t < pX2_traders b)) h1]
theorem Inv_ins {x : BX5} {m : BX6} (I : Inv x m) {y : BX1} (h1 : W2 (pX1_street y)) (h2 : W2 (pX1_found y)) : Inv (sX5_insertion x y) m := by
  refine Inv_x I ?_ ?_ ?_ ?_ ?_ ?_ ?_ ?_
  · rw [eX5_market_insertion]
  · rw [eX5_history_insertion]
  · rw [eX5_draft_insertion]; exact I.2.2.1
  · rw [eX5_text_insertion]
  · rw [eX5_textLength_insertion]
  · rw [eX5_errorAt_insertion]
  · refine PX_same I.2.2.2.2.2.1 ?_ ?_ ?_ ?_
    · rw [eX5_planner_insertion]
    · rw [eX5_trialPlanner_insertion]
    · rw [eX5_planned_insertion]
    · rw [eX5_market_insertion]; exact Same.rfl' _
  · unfold IX
    rw [eX5_insertion_insertion]
    exact ⟨h1, h2⟩
theorem both_find {n : Nat} (hn : 1000 ≤ n) {x : BX5} {m : BX6} (I : Inv x m) {t mo : Int} (t0 : 0 ≤ t) (t1 : t < pX2_traders (pX5_market x)) (m0 : 0 ≤ mo) (m1 : mo ≤ 2) (h : pX2_starts (pX5_market x) t = -1) : ∃ y r o, g_X1_search n (pX5_insertion x) (pX5_market x) t mo = some y ∧ W2 (pX1_street y) ∧ W2 (pX1_found y) ∧ ClF (pX5_market x) y o ∧ g_X6_seeksInsertion n (sX6_thrown m 0) t mo = some r ∧ Fr6 (sX6_thrown m 0) r ∧ RfF (pX5_market x) r o := by
  obtain ⟨y, o, a1, a2, a3, a4, a5⟩ := s_search hn I.v I.2.2.2.2.2.2.1 I.2.2.2.2.2.2.2 t0 t1 h m0 m1
  obtain ⟨r, o', b1, b2, b3, b4⟩ := s_seeksIns hn I.v (r := sX6_thrown m 0) (by rw [eX6_a_thrown]; exact I.r) t0 t1 h m0 m1
  have e := Rs_same I.s a5 b4
  rw [← e] at b3
  exact ⟨y, r, o, a1, a2, a3, a4, b1, b2, b3⟩
theorem op_insertionIncome {n : Nat} (hn : 1000 ≤ n) {x : BX5} {m : BX6} (I : Inv x m) (t mo : Int) : ∃ cd v x' w m', g_X5_insertionIncome n x t mo = some (cd, v, x') ∧ g_X6_insertionIncome n m t mo = some (w, m') ∧ ok3 1 2 3 cd v w (pX6_thrown m') ∧ Inv x' m' ∧ pX5_planner x' = pX5_planner x ∧ pX5_trialPlanner x' = pX5_trialPlanner x := by
  have hq := (g_reqN (x := x) t mo).resolve_right (fun h => h I.s)
  have hr := g_refuses I.s I.r t mo
  unfold g_X5_insertionIncome g_X6_insertionIncome
  rw [hq, hr, oB_some, oB_some]
  by_cases h1 : 0 ≤ t ∧ t < pX2_traders (pX5_market x)
  · rw [if_neg (c := ¬ (0 ≤ t ∧ t < pX2_traders (pX5_market x))) (fun h => h h1), if_neg (c := ¬ (0 ≤ t ∧ t < pX2_traders (pX5_market x))) (fun h => h h1)]
    by_cases h2 : 0 ≤ mo ∧ mo ≤ 2
    · rw [if_neg (c := ¬ (0 ≤ mo ∧ mo ≤ 2)) (fun h => h h2), if_neg (c := ¬ (0 ≤ mo ∧ mo ≤ 2)) (fun h => h h2)]
      by_cases h3 : pX2_starts (pX5_market x) t = -1
      · obtain ⟨y, r, o, a1, a2, a3, a4, b1, b2, b3⟩ := both_find hn I h1.1 h1.2 h2.1 h2.2 h3
        rw [if_pos h3, if_pos h3, if_pos rfl, if_pos (c := (0 : Int) ≤ 0) (by omega), a1, b1, oB_some, oB_some]
        refine ⟨_, _, _, _, _, rfl, rfl, .inl ⟨rfl, ?_, ?_⟩, ?_, eX5_planner_insertion _ _, eX5_trialPlanner_insertion _ _⟩
        · rw [b2.2.2.2.2.2.2, eX6_thrown_thrown]
        · cases o with
          | none => rw [a4.1]; exact b3.symm
          | some c => rw [a4.1, b3.1]
        · exact Inv_m (Inv_t (Inv_ins I a2 a3) 0) b2.1 b2.2.1 b2.2.2.1 b2.2.2.2.1 b2.2.2.2.2.1 b2.2.2.2.2.2.1
      · rw [if_neg h3, if_neg h3, if_neg (c := (3 : Nat) = 0) (by omega), if_neg (c := (3 : Int) ≤ 0) (by omega)]
        exact ⟨_, _, _, _, _, rfl, rfl, .inr (.inr (.inr ⟨rfl, eX6_thrown_thrown _ _⟩)), Inv_t I 3, rfl, rfl⟩
    · rw [if_pos (c := ¬ (0 ≤ mo ∧ mo ≤ 2)) h2, if_pos (c := ¬ (0 ≤ mo ∧ mo ≤ 2)) h2, if_neg (c := (2 : Nat) = 0) (by omega), if_neg (c := (2 : Int) ≤ 0) (by omega)]
      exact ⟨_, _, _, _, _, rfl, rfl, .inr (.inr (.inl ⟨rfl, eX6_thrown_thrown _ _⟩)), Inv_t I 2, rfl, rfl⟩
  · rw [if_pos (c := ¬ (0 ≤ t ∧ t < pX2_traders (pX5_market x))) h1, if_pos (c := ¬ (0 ≤ t ∧ t < pX2_traders (pX5_market x))) h1, if_neg (c := (1 : Nat) = 0) (by omega), if_neg (c := (1 : Int) ≤ 0) (by omega)]
    exact ⟨_, _, _, _, _, rfl, rfl, .inr (.inl ⟨rfl, eX6_thrown_thrown _ _⟩), Inv_t I 1, rfl, rfl⟩
theorem s_ins57 (n : Nat) (r : BX6) (a : Int → Int) : ∀ (fu : Nat) (x : Int), 0 ≤ x → x ≤ 8 → 8 - x < fu → g_X6_insert_57 n fu x (sX6_a r (fun i => if 107 ≤ i ∧ i < 107 + x then pX6_found r (i - 107) else a i)) = some (pX6_foundMoves r, sX6_a r (fun i => if 107 ≤ i ∧ i < 115 then pX6_found r (i - 107) else a i)) := by
  intro fu
  induction fu with
  | zero => intro x _ _ h0; omega
  | succ fu ih =>
    intro x x0 x1 hf
    rw [g_X6_insert_57.eq_2, eX6_a_a, eX6_foundMoves_a, eX6_found_a]
    by_cases h : 8 ≤ x
    · rw [if_pos h, show x = 8 by omega]; rfl
    · rw [if_neg h, qA_ok (by omega) (by omega) (by omega), qA_ok (by omega) (by omega) (by omega), oL_def, oR_ok (by omega) (by omega), uX6_a]
      rw [← ih (x + 1) (by omega) (by omega) (by omega)]
      refine congrArg (fun z => g_X6_insert_57 n fu (x + 1) (sX6_a r z)) ?_
      funext i
      rw [updZ_app]
      by_cases h1 : i = 107 + x
      · rw [if_pos h1, if_pos (by omega), h1, show 107 + x - 107 = x by omega]
      · rw [if_neg h1]
        by_cases h2 : 107 ≤ i ∧ i < 107 + x
        · rw [if_pos h2, if_pos (by omega)]
        · rw [if_neg h2, if_neg (by omega)]
theorem kKeep_e (r : BX6) : pX6_kept (kKeep r) = kPut (kBase r) (pX6_a r) (kCnt r) ∧ pX6_keptMany (kKeep r) = kCnt r + 1 ∧ pX6_a (kKeep r) = pX6_a r ∧ pX6_buffer (kKeep r) = pX6_buffer r ∧ pX6_buffered (kKeep r) = pX6_buffered r ∧ pX6_errorAt (kKeep r) = pX6_errorAt r ∧ pX6_thrown (kKeep r) = pX6_thrown r ∧ pX6_found (kKeep r) = pX6_found r ∧ pX6_foundMoves (kKeep r) = pX6_foundMoves r := by
  unfold kKeep
  refine ⟨?_, ?_, ?_, ?_, ?_, ?_, ?_, ?_, ?_⟩
  · rw [eX6_kept_keptMany, eX6_kept_kept]
  · rw [eX6_keptMany_keptMany]
  · rw [eX6_a_keptMany, eX6_a_kept]
  · rw [eX6_buffer_keptMany, eX6_buffer_kept]
  · rw [eX6_buffered_keptMany, eX6_buffered_kept]
  · rw [eX6_errorAt_keptMany, eX6_errorAt_kept]
  · rw [eX6_thrown_keptMany, eX6_thrown_kept]
  · rw [eX6_found_keptMany, eX6_found_kept]
  · rw [eX6_foundMoves_keptMany, eX6_foundMoves_kept]
theorem kKeep_c {r s : BX6} (h1 : pX6_kept r = pX6_kept s) (h2 : pX6_keptMany r = pX6_keptMany s) (h3 : pX6_a r = pX6_a s) : pX6_kept (kKeep r) = pX6_kept (kKeep s) ∧ pX6_keptMany (kKeep r) = pX6_keptMany (kKeep s) := by
  rw [(kKeep_e r).1, (kKeep_e s).1, (kKeep_e r).2.1, (kKeep_e s).2.1]
  unfold kBase kCnt
  rw [h1, h2, h3]
  exact ⟨rfl, rfl⟩
theorem op_insert {n : Nat} (hn : 1000 ≤ n) {x : BX5} {m : BX6} (I : Inv x m) (t mo : Int) : ∃ cd v x' w m', g_X5_insert n x t mo = some (cd, v, x') ∧ g_X6_insert n m t mo = some (w, m') ∧ ok3 1 2 3 cd v w (pX6_thrown m') ∧ Inv x' m' ∧ pX5_planner x' = pX5_planner x ∧ pX5_trialPlanner x' = pX5_trialPlanner x := by
  have hq := (g_reqN (x := x) t mo).resolve_right (fun h => h I.s)
  have hr := g_refuses I.s I.r t mo
  unfold g_X5_insert g_X6_insert
  rw [hq, hr, oB_some, oB_some]
  by_cases h1 : 0 ≤ t ∧ t < pX2_traders (pX5_market x)
  · rw [if_neg (c := ¬ (0 ≤ t ∧ t < pX2_traders (pX5_market x))) (fun h => h h1), if_neg (c := ¬ (0 ≤ t ∧ t < pX2_traders (pX5_market x))) (fun h => h h1)]
    by_cases h2 : 0 ≤ mo ∧ mo ≤ 2
    · rw [if_neg (c := ¬ (0 ≤ mo ∧ mo ≤ 2)) (fun h => h h2), if_neg (c := ¬ (0 ≤ mo ∧ mo ≤ 2)) (fun h => h h2)]
      by_cases h3 : pX2_starts (pX5_market x) t = -1
      · obtain ⟨y, r, o, a1, a2, a3, a4, b1, b2, b3⟩ := both_find hn I h1.1 h1.2 h2.1 h2.2 h3
        unfold g_X6_insert_39
        rw [if_pos h3, if_pos h3, if_pos rfl, if_pos (c := (0 : Int) ≤ 0) (by omega), a1, b1, oB_some, oB_some]
        cases o with
        | none =>
          have b3 : pX6_foundIncome r = -1 := b3
          rw [a4.1, if_neg (c := (0 : Int) ≤ -1) (by omega), if_pos b3, if_neg (c := (3 : Int) ≤ 0) (by omega)]
          refine ⟨_, _, _, _, _, rfl, rfl, .inr (.inr (.inr ⟨rfl, eX6_thrown_thrown _ _⟩)), ?_, eX5_planner_insertion _ _, eX5_trialPlanner_insertion _ _⟩
          exact Inv_t (Inv_m (Inv_t (Inv_ins I a2 a3) 0) b2.1 b2.2.1 b2.2.2.1 b2.2.2.2.1 b2.2.2.2.2.1 b2.2.2.2.2.2.1) 3
        | some c =>
          obtain ⟨f1, f2, f3, f4, f5⟩ := a4
          obtain ⟨r1, r2, r3, r4, r5, r6⟩ := b3
          have hmi := mIncome_b f4.w
          have hT := I.s.tra
          have ek := kKeep_e (sX6_thrown r 0)
          have ekm := kKeep_t m 0
          have e1 : pX6_kept (sX6_thrown r 0) = pX6_kept (sX6_thrown m 0) := by rw [eX6_kept_thrown, b2.2.1]
          have e2 : pX6_keptMany (sX6_thrown r 0) = pX6_keptMany (sX6_thrown m 0) := by rw [eX6_keptMany_thrown, b2.2.2.1]
          have e3 : pX6_a (sX6_thrown r 0) = pX6_a (sX6_thrown m 0) := by rw [eX6_a_thrown, b2.1]
          have kc := kKeep_c e1 e2 e3
          have hI := s_ins57 n (kKeep (sX6_thrown r 0)) (pX6_a (kKeep (sX6_thrown r 0))) n 0 (by omega) (by omega) (by omega)
          have e0 : (fun i => if 107 ≤ i ∧ i < 107 + 0 then pX6_found (kKeep (sX6_thrown r 0)) (i - 107) else pX6_a (kKeep (sX6_thrown r 0)) i) = pX6_a (kKeep (sX6_thrown r 0)) := by
            funext i; rw [if_neg (by omega)]
          rw [e0, iX6_a] at hI
          have hfm : pX6_foundMoves (kKeep (sX6_thrown r 0)) = mvd (pX5_market x) c := by rw [ek.2.2.2.2.2.2.2.2, eX6_foundMoves_thrown, r2]
          have hfd : pX6_found (kKeep (sX6_thrown r 0)) = pX6_found r := by rw [ek.2.2.2.2.2.2.2.1, eX6_found_thrown]
          have ha : pX6_a (kKeep (sX6_thrown r 0)) = pX6_a m := by rw [ek.2.2.1, e3, eX6_a_thrown]
          rw [f1, r1, if_pos hmi.1, s_X0_remember (by omega) I.h.1 I.s, oB_some, f3, s_X2_copyFrom (by omega) I.s f4.s, oB_some, f2, if_neg (c := mIncome c = -1) (by omega), if_pos (c := (0 : Int) ≤ 0) (by omega), s_X6_keeps hn _ (by rw [e2, eX6_keptMany_thrown]; exact I.many.1) (by rw [e2, eX6_keptMany_thrown]; exact I.many.2), oB_some, hI, hfm, hfd, ha]
          refine ⟨_, _, _, _, _, rfl, rfl, .inl ⟨rfl, ?_, rfl⟩, ?_, ?_, ?_⟩
          · rw [eX6_thrown_a, ek.2.2.2.2.2.2.1, eX6_thrown_thrown]
          · have M : MR c (fun i => if 107 ≤ i ∧ i < 115 then pX6_found r (i - 107) else pX6_a m i) := ⟨f4, Rl_st I.r I.s f5 (fun u u0 u1 => by
              show (if 107 ≤ 107 + u ∧ 107 + u < 115 then pX6_found r (107 + u - 107) else pX6_a m (107 + u)) = _
              rw [if_pos (by omega), show 107 + u - 107 = u by omega]; exact r3 u u0 u1) (fun i hi => by
              show (if 107 ≤ i ∧ i < 115 then pX6_found r (i - 107) else pX6_a m i) = _
              rw [if_neg (by omega)])⟩
            have IM := Inv_ins (Inv_mv I M f5) a2 a3
            refine Inv_m IM ?_ ?_ ?_ ?_ ?_ ?_
            · rw [eX6_a_a, eX6_a_a]
            · rw [eX6_kept_a, eX6_kept_a, kc.1]
            · rw [eX6_keptMany_a, eX6_keptMany_a, kc.2]
            · rw [eX6_buffer_a, eX6_buffer_a, ek.2.2.2.1, eX6_buffer_thrown, b2.2.2.2.1, eX6_buffer_thrown, ekm.2.2.2.1]
            · rw [eX6_buffered_a, eX6_buffered_a, ek.2.2.2.2.1, eX6_buffered_thrown, b2.2.2.2.2.1, eX6_buffered_thrown, ekm.2.2.2.2.1]
            · rw [eX6_errorAt_a, eX6_errorAt_a, ek.2.2.2.2.2.1, eX6_errorAt_thrown, b2.2.2.2.2.2.1, eX6_errorAt_thrown, ekm.2.2.2.2.2.1]
          · rw [eX5_planner_insertion, eX5_planner_history, eX5_planner_market]
          · rw [eX5_trialPlanner_insertion, eX5_trialPlanner_history, eX5_trialPlanner_market]
      · rw [if_neg h3, if_neg h3, if_neg (c := (3 : Nat) = 0) (by omega), if_neg (c := (3 : Int) ≤ 0) (by omega)]
        exact ⟨_, _, _, _, _, rfl, rfl, .inr (.inr (.inr ⟨rfl, eX6_thrown_thrown _ _⟩)), Inv_t I 3, rfl, rfl⟩
    · rw [if_pos (c := ¬ (0 ≤ mo ∧ mo ≤ 2)) h2, if_pos (c := ¬ (0 ≤ mo ∧ mo ≤ 2)) h2, if_neg (c := (2 : Nat) = 0) (by omega), if_neg (c := (2 : Int) ≤ 0) (by omega)]
      exact ⟨_, _, _, _, _, rfl, rfl, .inr (.inr (.inl ⟨rfl, eX6_thrown_thrown _ _⟩)), Inv_t I 2, rfl, rfl⟩
  · rw [if_pos (c := ¬ (0 ≤ t ∧ t < pX2_traders (pX5_market x))) h1, if_pos (c := ¬ (0 ≤ t ∧ t < pX2_traders (pX5_market x))) h1, if_neg (c := (1 : Nat) = 0) (by omega), if_neg (c := (1 : Int) ≤ 0) (by omega)]
    exact ⟨_, _, _, _, _, rfl, rfl, .inr (.inl ⟨rfl, eX6_thrown_thrown _ _⟩), Inv_t I 1, rfl, rfl⟩
