/-! The calls that change: remove, clear, setCovers, setClash, addTrader, setRent, undo. -/
theorem Inv_mv {x : BX5} {m : BX6} (I : Inv x m) {b' : BX2} {a' : Int → Int} (M : MR b' a') (hs : Same b' (pX5_market x)) : Inv (sX5_history (sX5_market x b') (hRem (pX5_history x) (pX5_market x))) (sX6_a (kKeep (sX6_thrown m 0)) a') := by
  obtain ⟨k1, k2, k3, k4, k5, k6, k7⟩ := kKeep_t m 0
  refine Inv_ch I ?_ ?_ ?_ ?_ ?_ ?_ ?_ ?_ ?_ ?_ ?_ ?_ ?_
  · rw [eX5_market_history, eX5_market_market, eX6_a_a]; exact M
  · rw [eX5_history_history]
  · rw [eX5_text_history, eX5_text_market]
  · rw [eX5_textLength_history, eX5_textLength_market]
  · rw [eX5_errorAt_history, eX5_errorAt_market]
  · rw [eX5_draft_history, eX5_draft_market]; exact I.2.2.1
  · refine PX_same I.2.2.2.2.2.1 ?_ ?_ ?_ ?_
    · rw [eX5_planner_history, eX5_planner_market]
    · rw [eX5_trialPlanner_history, eX5_trialPlanner_market]
    · rw [eX5_planned_history, eX5_planned_market]
    · rw [eX5_market_history, eX5_market_market]; exact hs
  · refine IX_same I.2.2.2.2.2.2 ?_
    rw [eX5_insertion_history, eX5_insertion_market]
  · rw [eX6_kept_a, k1]
  · rw [eX6_keptMany_a, k2]
  · rw [eX6_buffer_a, k4]
  · rw [eX6_buffered_a, k5]
  · rw [eX6_errorAt_a, k6]
theorem Inv_mv0 {x : BX5} {m : BX6} (I : Inv x m) {b' : BX2} {a' : Int → Int} (M : MR b' a') : Inv (sX5_planned (sX5_history (sX5_market x b') (hRem (pX5_history x) (pX5_market x))) 0) (sX6_a (kKeep (sX6_thrown m 0)) a') := by
  obtain ⟨k1, k2, k3, k4, k5, k6, k7⟩ := kKeep_t m 0
  refine Inv_ch I ?_ ?_ ?_ ?_ ?_ ?_ ?_ ?_ ?_ ?_ ?_ ?_ ?_
  · rw [eX5_market_planned, eX5_market_history, eX5_market_market, eX6_a_a]; exact M
  · rw [eX5_history_planned, eX5_history_history]
  · rw [eX5_text_planned, eX5_text_history, eX5_text_market]
  · rw [eX5_textLength_planned, eX5_textLength_history, eX5_textLength_market]
  · rw [eX5_errorAt_planned, eX5_errorAt_history, eX5_errorAt_market]
  · rw [eX5_draft_planned, eX5_draft_history, eX5_draft_market]; exact I.2.2.1
  · refine PX_0 I.2.2.2.2.2.1 ?_ ?_ ?_
    · rw [eX5_planner_planned, eX5_planner_history, eX5_planner_market]
    · rw [eX5_trialPlanner_planned, eX5_trialPlanner_history, eX5_trialPlanner_market]
    · rw [eX5_planned_planned]
  · refine IX_same I.2.2.2.2.2.2 ?_
    rw [eX5_insertion_planned, eX5_insertion_history, eX5_insertion_market]
  · rw [eX6_kept_a, k1]
  · rw [eX6_keptMany_a, k2]
  · rw [eX6_buffer_a, k4]
  · rw [eX6_buffered_a, k5]
  · rw [eX6_errorAt_a, k6]
theorem th_a (m : BX6) (v : Int → Int) : pX6_thrown (sX6_a (kKeep (sX6_thrown m 0)) v) = 0 := by rw [eX6_thrown_a, (kKeep_t m 0).2.2.2.2.2.2]
theorem op_remove {n : Nat} (hn : 1000 ≤ n) {x : BX5} {m : BX6} (I : Inv x m) (t : Int) : ∃ cd v x' w m', g_X5_remove n x t = some (cd, v, x') ∧ g_X6_remove n m t = some (w, m') ∧ ok2 1 3 cd v w (pX6_thrown m') ∧ Inv x' m' := by
  have ht := I.s.tra
  unfold g_X5_remove g_X6_remove g_X6_remove_31
  rw [g_reqT, oB_some, s_X6_isTrader I.s I.r, oB_some]
  by_cases h1 : 0 ≤ t ∧ t < pX2_traders (pX5_market x)
  · rw [if_pos h1, if_pos rfl, qA_ok (by omega) (by omega) (by omega), oL_def, zB_pos h1, qA_ok (by omega) (by omega) (by omega), I.r.st h1.1 (by omega)]
    by_cases h2 : pX2_starts (pX5_market x) t = -1
    · rw [if_pos h2, if_neg (by omega), if_pos h2, if_neg (by omega)]
      exact ⟨_, _, _, _, _, rfl, rfl, .inr (.inr ⟨rfl, eX6_thrown_thrown _ _⟩), Inv_t I 2⟩
    · rw [if_neg h2, s_X0_remember (by omega) I.h.1 I.s, oB_some, s_X2_unseat (by omega) I.w h1.1 (by omega), oB_some]
      rw [if_neg (by omega), if_neg h2, if_pos (by omega), s_X6_keeps hn _ (by rw [eX6_keptMany_thrown]; exact I.many.1) (by rw [eX6_keptMany_thrown]; exact I.many.2), oB_some, qA_ok (by omega) (by omega) (by omega), oL_def, qA_ok (by omega) (by omega) (by omega), oL_def, (kKeep_t m 0).2.2.1, I.r.st h1.1 (by omega)]
      exact ⟨_, _, _, _, _, rfl, rfl, .inl ⟨rfl, th_a _ _, rfl⟩, Inv_mv I ⟨V2_unseat I.v h1.1 (by omega), Rl_unseat I.r I.s h1.1 (by omega)⟩ (mUnseat_same _ _)⟩
  · rw [if_neg h1, if_neg (by omega), zB_neg h1, if_pos rfl, if_neg (by omega)]
    exact ⟨_, _, _, _, _, rfl, rfl, .inr (.inl ⟨rfl, eX6_thrown_thrown _ _⟩), Inv_t I 1⟩
theorem s_X6_clear_16 (n : Nat) (r : BX6) (c : Int) : ∀ (fu : Nat) (x : Int), 0 ≤ x → x ≤ 8 → 8 - x < fu → g_X6_clear_16 n fu c x (sX6_a r (fun i => if 107 ≤ i ∧ i < 107 + x then -1 else pX6_a r i)) = some (c, sX6_a r (fun i => if 107 ≤ i ∧ i < 115 then -1 else pX6_a r i)) := by
  intro fu
  induction fu with
  | zero => intro x _ _ h0; omega
  | succ fu ih =>
    intro x x0 x1 hf
    rw [g_X6_clear_16.eq_2, eX6_a_a]
    by_cases h : 8 ≤ x
    · rw [if_pos h, show x = 8 by omega]; rfl
    · rw [if_neg h, qA_ok (by omega) (by omega) (by omega), oL_def, oR_ok (by omega) (by omega), uX6_a]
      rw [← ih (x + 1) (by omega) (by omega) (by omega)]
      refine congrArg (fun z => g_X6_clear_16 n fu c (x + 1) (sX6_a r z)) ?_
      funext i
      rw [updZ_app]
      by_cases h1 : i = 107 + x
      · rw [if_pos h1, if_pos (by omega)]
      · rw [if_neg h1]
        by_cases h2 : 107 ≤ i ∧ i < 107 + x
        · rw [if_pos h2, if_pos (by omega)]
        · rw [if_neg h2, if_neg (by omega)]
theorem Rl_empty {b : BX2} {a : Int → Int} (R : Rl b a) (hb : S2 b) : Rl (mEmpty b) (fun i => if 107 ≤ i ∧ i < 115 then -1 else a i) := by
  refine Rl_st R hb (mEmpty_same b) ?_ (fun i hi => if_neg (by omega))
  intro u u0 u1
  show (if 107 ≤ 107 + u ∧ 107 + u < 115 then (-1 : Int) else a (107 + u)) = (if 0 ≤ u ∧ u < 8 then -1 else 0)
  rw [if_pos (by omega), if_pos (by omega)]
theorem op_clear {n : Nat} (hn : 1000 ≤ n) {x : BX5} {m : BX6} (I : Inv x m) : ∃ v x' w m', g_X5_clear n x = some (v, x') ∧ g_X6_clear n m = some (w, m') ∧ v = w ∧ Inv x' m' := by
  unfold g_X5_clear g_X6_clear
  rw [s_X0_remember (by omega) I.h.1 I.s, oB_some, s_X2_countSeated (by omega) I.w, oB_some, s_X2_unseatAll (by omega) I.w, oB_some, s_X6_keeps hn _ (by rw [eX6_keptMany_thrown]; exact I.many.1) (by rw [eX6_keptMany_thrown]; exact I.many.2), oB_some, s_X6_placed (by omega) I.w (by rw [(kKeep_t m 0).2.2.1]; exact I.r), oB_some]
  have h := s_X6_clear_16 n (kKeep (sX6_thrown m 0)) (mPlaced (pX5_market x)) n 0 (by omega) (by omega) (by omega)
  have e : (fun i => if 107 ≤ i ∧ i < 107 + 0 then -1 else pX6_a (kKeep (sX6_thrown m 0)) i) = pX6_a (kKeep (sX6_thrown m 0)) := by
    funext i; rw [if_neg (by omega)]
  rw [e, iX6_a, (kKeep_t m 0).2.2.1] at h
  rw [h]
  exact ⟨_, _, _, _, rfl, rfl, rfl, Inv_mv I ⟨V2_empty I.s I.v.2.1 I.v.2.2.1, Rl_empty I.r I.s⟩ (mEmpty_same _)⟩
/-! setCovers -/
theorem MR_cov {b : BX2} {a : Int → Int} (h : MR b a) {c : Int} (c0 : 0 ≤ c) (c1 : c ≤ 4) (hc : pX2_coversBusy b ≤ c) : MR (sX2_covers b c) (updZ a 179 c) := by
  obtain ⟨⟨⟨hs, hq⟩, hy, hm, hv, hk, hcl⟩, R⟩ := h
  have ht := hs.tra
  have hp := hs.pit
  have hs' := hs
  obtain ⟨a1, a2, a3, a4, a5, a6, a7, a8, b1⟩ := hs'
  refine ⟨⟨⟨⟨a1, a2, ⟨c0, c1⟩, a4, a5, a6, a7, a8, b1⟩, ?_⟩, hy, hm, hv, hc, hcl⟩, ?_⟩
  · exact Q2_of hq rfl rfl (fun _ _ _ => rfl) rfl rfl rfl (fun _ _ _ => rfl)
  · obtain ⟨r1, r2, r3, r4, r5, r6, r7⟩ := R
    refine ⟨?_, ?_, ?_, ?_, ?_, ?_, ?_⟩
    · rw [updZ_ne (by omega)]; exact r1
    · rw [updZ_ne (by omega)]; exact r2
    · rw [updZ_at]; rfl
    · intro p p0 p1; have p1 : p < pX2_pitches b := p1; rw [updZ_ne (by omega), updZ_ne (by omega), updZ_ne (by omega)]; exact r4 p p0 p1
    · intro p p0 p1; have p1 : p < pX2_traders b := p1; rw [updZ_ne (by omega), updZ_ne (by omega), updZ_ne (by omega), updZ_ne (by omega)]; exact r5 p p0 p1
    · intro p p0 p1; rw [updZ_ne (by omega)]; exact r6 p p0 p1
    · intro i j i0 i1 j0 j1; rw [updZ_ne (by omega)]; exact r7 i j i0 i1 j0 j1
theorem op_setCovers {n : Nat} (hn : 1000 ≤ n) {x : BX5} {m : BX6} (I : Inv x m) (c : Int) : ∃ cd v x' w m', g_X5_setCovers n x c = some (cd, v, x') ∧ g_X6_setCovers n m c = some (w, m') ∧ ok2 2 3 cd v w (pX6_thrown m') ∧ Inv x' m' := by
  unfold g_X5_setCovers g_X6_setCovers g_X6_setCovers_30
  rw [g_out, oB_some, s_X6_isIn, oB_some, s_X6_usedCovers (by omega) I.w I.r, oB_some]
  by_cases h1 : 0 ≤ c ∧ c ≤ 4
  · rw [zB_neg (fun h => h h1), if_pos rfl, zB_pos h1]
    by_cases h2 : pX2_coversBusy (pX5_market x) ≤ c
    · rw [if_pos h2, s_X0_remember (by omega) I.h.1 I.s, oB_some, if_neg (by omega), if_pos h2, if_pos (by omega), s_X6_keeps hn _ (by rw [eX6_keptMany_thrown]; exact I.many.1) (by rw [eX6_keptMany_thrown]; exact I.many.2), oB_some, qA_ok (by omega) (by omega) (by omega), oL_def, qA_ok (by omega) (by omega) (by omega), oL_def, (kKeep_t m 0).2.2.1]
      exact ⟨_, _, _, _, _, rfl, rfl, .inl ⟨rfl, th_a _ _, I.r.cov.symm⟩, Inv_mv0 I (MR_cov I.mr h1.1 h1.2 h2)⟩
    · rw [if_neg h2, if_neg (by omega), if_neg h2, if_neg (by omega)]
      exact ⟨_, _, _, _, _, rfl, rfl, .inr (.inr ⟨rfl, eX6_thrown_thrown _ _⟩), Inv_t I 2⟩
  · rw [zB_pos h1, if_neg (by omega), zB_neg h1, if_pos rfl, if_neg (by omega)]
    exact ⟨_, _, _, _, _, rfl, rfl, .inr (.inl ⟨rfl, eX6_thrown_thrown _ _⟩), Inv_t I 1⟩
/-! setClash -/
def aPut (a : Int → Int) (i j v : Int) : Int → Int := updZ (updZ a (115 + 8 * i + j) v) (115 + 8 * j + i) v
theorem s_X6_clashes (a : Int → Int) {i j : Int} (v : Int) (i0 : 0 ≤ i) (i1 : i < 8) (j0 : 0 ≤ j) (j1 : j < 8) : g_X6_clashes a i j v = some (aPut a i j v) := by
  unfold g_X6_clashes
  rw [qA_ok (by omega) (by omega) (by omega), oL_def, qA_ok (by omega) (by omega) (by omega), oL_def]
  rfl
theorem Rl_put {b : BX2} {a : Int → Int} (R : Rl b a) (hb : S2 b) {i j : Int} (on : Int) (i0 : 0 ≤ i) (i1 : i < 8) (j0 : 0 ≤ j) (j1 : j < 8) : Rl (mPut b i j on) (aPut a i j (if on = 0 then 0 else 1)) := by
  have ht := hb.tra
  have hp := hb.pit
  obtain ⟨q1, q2, q3, q4, q5, q6, q7, q8, q9, q10, q11, q12, q13⟩ := mPut_eqs b i j on
  obtain ⟨r1, r2, r3, r4, r5, r6, r7⟩ := R
  have hne : ∀ k, (k < 115 ∨ k = 179) → aPut a i j (if on = 0 then 0 else 1) k = a k := fun k hk => by
    unfold aPut; rw [updZ_ne (by omega), updZ_ne (by omega)]
  refine ⟨?_, ?_, ?_, ?_, ?_, ?_, ?_⟩
  · rw [hne _ (by omega), q1]; exact r1
  · rw [hne _ (by omega), q5]; exact r2
  · rw [hne _ (by omega), q10]; exact r3
  · intro p p0 p1; rw [q1] at p1; rw [hne _ (by omega), hne _ (by omega), hne _ (by omega), q2, q3, q4]; exact r4 p p0 p1
  · intro p p0 p1; rw [q5] at p1; rw [hne _ (by omega), hne _ (by omega), hne _ (by omega), hne _ (by omega), q6, q7, q8, q9]; exact r5 p p0 p1
  · intro p p0 p1; rw [hne _ (by omega), q11]; exact r6 p p0 p1
  · intro k l k0 k1 l0 l1
    unfold aPut
    rw [updZ_app, updZ_app]
    by_cases hon : on = 0
    · subst hon
      rw [zB_congr (mPut_cl0 b i0 i1 j0 j1 l0 l1)]
      by_cases e1 : 115 + 8 * k + l = 115 + 8 * j + i
      · rw [if_pos e1, if_pos rfl, zB_neg]; intro h; exact h.2 (.inr (by omega))
      · rw [if_neg e1]
        by_cases e2 : 115 + 8 * k + l = 115 + 8 * i + j
        · rw [if_pos e2, if_pos rfl, zB_neg]; intro h; exact h.2 (.inl (by omega))
        · rw [if_neg e2, r7 k l k0 k1 l0 l1]
          exact zB_congr ⟨fun h => ⟨h, by omega⟩, fun h => h.1⟩
    · rw [zB_congr (mPut_cl1 b hon i0 i1 j0 j1 l0 l1), if_neg hon]
      by_cases e1 : 115 + 8 * k + l = 115 + 8 * j + i
      · rw [if_pos e1, zB_pos]; right; right; omega
      · rw [if_neg e1]
        by_cases e2 : 115 + 8 * k + l = 115 + 8 * i + j
        · rw [if_pos e2, zB_pos]; right; left; omega
        · rw [if_neg e2, r7 k l k0 k1 l0 l1]
          refine zB_congr ⟨fun h => .inl h, ?_⟩
          rintro (h | h | h)
          · exact h
          · omega
          · omega
theorem V2_put {b : BX2} (h : V2 b) {i j : Int} (on : Int) (i0 : 0 ≤ i) (i1 : i < 8) (j0 : 0 ≤ j) (j1 : j < 8) (hon : on = 0 ∨ ¬ mSide b i j 0) : V2 (mPut b i j on) := by
  obtain ⟨hw, hy, hm, hv, hk, hcl⟩ := h
  have hp := hw.s.pit
  obtain ⟨q1, q2, q3, q4, q5, q6, q7, q8, q9, q10, q11, q12, q13⟩ := mPut_eqs b i j on
  refine ⟨W2_put hw on i0 i1 j0 j1, ?_, ?_, ?_, ?_, ?_⟩
  · intro k l k0 k1 l0 l1
    by_cases h0 : on = 0
    · subst h0
      rw [mPut_cl0 b i0 i1 j0 j1 l0 l1, mPut_cl0 b i0 i1 j0 j1 k0 k1, hy k l k0 k1 l0 l1]
      constructor
      · intro h; exact ⟨h.1, fun x => h.2 (by omega)⟩
      · intro h; exact ⟨h.1, fun x => h.2 (by omega)⟩
    · rw [mPut_cl1 b h0 i0 i1 j0 j1 l0 l1, mPut_cl1 b h0 i0 i1 j0 j1 k0 k1, hy k l k0 k1 l0 l1]
      constructor
      · rintro (h | h)
        · exact .inl h
        · right; omega
      · rintro (h | h)
        · exact .inl h
        · right; omega
  · rw [q1, q2]; exact hm
  · intro t t0 t1
    rw [q5] at t1
    unfold mInRow mShare mRent
    rw [q1, q2, q3, q7, q8, q11]
    exact hv t t0 t1
  · rw [q10, q13]; exact hk
  · intro p p0 p1 hr h1 h2 h3
    rw [q1] at p1
    rw [q2] at hr
    rw [q12] at h1 h2 h3 ⊢
    have o1 := hw.std p p0 (by omega)
    have o2 := hw.std (p + 1) (by omega) (by omega)
    have d1 := (hw.s.trd (pX2_standing b p) (by omega) (by omega)).1
    have d2 := (hw.s.trd (pX2_standing b (p + 1)) (by omega) (by omega)).1
    intro hx
    have hx2 : cl (mPut b i j on) (pX2_trades b (pX2_standing b p)) (pX2_trades b (pX2_standing b (p + 1))) := by
      have := hx.2
      rw [q6] at this
      exact this
    have hno := hcl p p0 p1 hr h1 h2 h3
    by_cases h0 : on = 0
    · subst h0
      rw [mPut_cl0 b i0 i1 j0 j1 (by omega) (by omega)] at hx2
      exact hno ⟨by omega, hx2.1⟩
    · rw [mPut_cl1 b h0 i0 i1 j0 j1 (by omega) (by omega)] at hx2
      rcases hx2 with h | h | h
      · exact hno ⟨by omega, h⟩
      · rcases hon with ho | ho
        · exact h0 ho
        · exact ho ⟨p, p0, p1, h3, h1, h2, hr, .inl h⟩
      · rcases hon with ho | ho
        · exact h0 ho
        · exact ho ⟨p, p0, p1, h3, h1, h2, hr, .inr h⟩
theorem op_setClash {n : Nat} (hn : 1000 ≤ n) {x : BX5} {m : BX6} (I : Inv x m) (i j on : Int) : ∃ cd x' m', g_X5_setClash n x i j on = some (cd, x') ∧ g_X6_setClash n m i j on = some m' ∧ ok2 2 3 cd 0 0 (pX6_thrown m') ∧ Inv x' m' := by
  unfold g_X5_setClash g_X5_setClash_31 g_X6_setClash g_X6_setClash_30 g_X6_setClash_31 g_X6_setClash_61
  rw [g_reqTT, oB_some, s_X6_areTrades, oB_some]
  by_cases h1 : (0 ≤ i ∧ i < 8) ∧ (0 ≤ j ∧ j < 8)
  · have hk : g_X6_keeps n (sX6_thrown m 0) = some (kKeep (sX6_thrown m 0)) := s_X6_keeps hn _ (by rw [eX6_keptMany_thrown]; exact I.many.1) (by rw [eX6_keptMany_thrown]; exact I.many.2)
    have c0 : g_X6_clashes (pX6_a (kKeep (sX6_thrown m 0))) i j 0 = some (aPut (pX6_a m) i j 0) := by rw [(kKeep_t m 0).2.2.1]; exact s_X6_clashes _ _ h1.1.1 h1.1.2 h1.2.1 h1.2.2
    have c1 : g_X6_clashes (pX6_a (kKeep (sX6_thrown m 0))) i j 1 = some (aPut (pX6_a m) i j 1) := by rw [(kKeep_t m 0).2.2.1]; exact s_X6_clashes _ _ h1.1.1 h1.1.2 h1.2.1 h1.2.2
    rw [if_pos h1, if_pos rfl, zB_pos h1, s_X0_remember (by omega) I.h.1 I.s, oB_some, s_X2_putClash _ _ h1.1.1 h1.1.2 h1.2.1 h1.2.2, oB_some, s_X2_standSideBySide (by omega) I.w, oB_some, s_X6_areBeside (by omega) I.w I.r, oB_some, hk, oB_some, c0, oB_some, c1, oB_some]
    have R := Rl_put I.r I.s on h1.1.1 h1.1.2 h1.2.1 h1.2.2
    by_cases h2 : on = 0
    · rw [if_pos h2] at R
      rw [if_pos h2, if_neg (by omega), if_pos h2, if_pos (by omega), if_pos h2]
      exact ⟨_, _, _, rfl, rfl, .inl ⟨rfl, th_a _ _, rfl⟩, Inv_mv0 I ⟨V2_put I.v on h1.1.1 h1.1.2 h1.2.1 h1.2.2 (.inl h2), R⟩⟩
    · rw [if_neg h2] at R
      rw [if_neg h2]
      by_cases h3 : mSide (pX5_market x) i j 0
      · rw [zB_pos h3, if_neg (by omega), if_neg (by omega), if_neg h2, if_neg (by omega), if_neg (by omega)]
        exact ⟨_, _, _, rfl, rfl, .inr (.inr ⟨rfl, eX6_thrown_thrown _ _⟩), Inv_t I 2⟩
      · rw [zB_neg h3, if_pos rfl, if_neg (by omega), if_neg h2, if_pos rfl, if_pos (by omega), if_neg h2]
        exact ⟨_, _, _, rfl, rfl, .inl ⟨rfl, th_a _ _, rfl⟩, Inv_mv0 I ⟨V2_put I.v on h1.1.1 h1.1.2 h1.2.1 h1.2.2 (.inr h3), R⟩⟩
  · rw [if_neg h1, if_neg (by omega), zB_neg h1, if_pos rfl, if_neg (by omega)]
    exact ⟨_, _, _, rfl, rfl, .inr (.inl ⟨rfl, eX6_thrown_thrown _ _⟩), Inv_t I 1⟩
