/-! Changes keep a placement valid, and the reference's row tells the changed market. -/
theorem mClash_sy {b : BX2} (hb : S2 b) (hy : Sy b) {t u : Int} (t0 : 0 ≤ t) (t1 : t < pX2_traders b) (u0 : 0 ≤ u) (u1 : u < pX2_traders b) : mClash b t u ↔ mClash b u t := by
  have h1 := (hb.trd t t0 t1).1
  have h2 := (hb.trd u u0 u1).1
  have h := hy (pX2_trades b t) (pX2_trades b u) (by omega) (by omega) (by omega) (by omega)
  unfold cl at h
  unfold mClash
  constructor
  · intro k; exact ⟨by omega, h.1 k.2⟩
  · intro k; exact ⟨by omega, h.2 k.2⟩
theorem Same.sy {a b : BX2} (h : Same a b) : Sy a ↔ Sy b := by
  unfold Sy cl; rw [h.2.2.2.2.2.2.2.2.2.1]
theorem V2_seat {b : BX2} (h : V2 b) {t s : Int} (t0 : 0 ≤ t) (t1 : t < pX2_traders b) (e : mHind b t s = 0) : V2 (mSeat b t s) := by
  obtain ⟨hw, hy, hm, hv, hc, hcl⟩ := h
  obtain ⟨e1, e2, e3, e4, e5, e6⟩ := mHind_0.1 e
  have hs := mSeat_same b t s
  have hl := mInRow_lt e2
  have hp := hw.s.pit
  have hmin : min (s + pX2_fronts b t) (pX2_pitches b) = s + pX2_fronts b t := by omega
  have hst : pX2_standing (mSeat b t s) = mLay (pX2_standing b) s (s + pX2_fronts b t) t := by rw [← hmin]; rfl
  refine ⟨W2_seat0 hw t0 t1 e, hs.sy.2 hy, hm, ?_, e5, ?_⟩
  · intro u u0 u1 hu
    have hu : updZ (pX2_starts b) t s u ≠ -1 := hu
    rw [hs.inRow, hs.rent]
    show mInRow b u (updZ (pX2_starts b) t s u) ∧ mRent b u (updZ (pX2_starts b) t s u) ≤ pX2_limits b u
    by_cases hut : u = t
    · rw [hut, updZ_at]; exact ⟨e2, e4⟩
    · rw [updZ_ne hut] at hu ⊢; exact hv u u0 u1 hu
  · intro p p0 p1 hr h1 h2 h3
    have p1 : p + 1 < pX2_pitches b := p1
    have hr : pX2_rows b p = pX2_rows b (p + 1) := hr
    rw [hs.clash]
    rw [hst] at h1 h2 h3 ⊢
    have i1 : ∀ q, (s ≤ q ∧ q < s + pX2_fronts b t) → mLay (pX2_standing b) s (s + pX2_fronts b t) t q = t := fun q hq => by unfold mLay; rw [if_pos hq]
    have i2 : ∀ q, ¬ (s ≤ q ∧ q < s + pX2_fronts b t) → mLay (pX2_standing b) s (s + pX2_fronts b t) t q = pX2_standing b q := fun q hq => by unfold mLay; rw [if_neg hq]
    by_cases a1 : s ≤ p ∧ p < s + pX2_fronts b t
    · by_cases a2 : s ≤ p + 1 ∧ p + 1 < s + pX2_fronts b t
      · rw [i1 p a1, i1 (p + 1) a2] at h3; exact absurd rfl h3
      · have hp1 : p + 1 = s + pX2_fronts b t := by omega
        rw [i1 p a1, i2 (p + 1) a2, hp1]
        intro hx
        apply e6
        right
        refine ⟨⟨by omega, by omega, by omega, ?_⟩, hx⟩
        rw [show s + pX2_fronts b t - 1 = p by omega, ← hp1]; exact hr
    · by_cases a2 : s ≤ p + 1 ∧ p + 1 < s + pX2_fronts b t
      · have hp1 : p = s - 1 := by omega
        rw [i2 p a1, i1 (p + 1) a2]
        rw [i2 p a1] at h1
        have ho := hw.std p p0 (by omega)
        intro hx
        apply e6
        left
        rw [hp1] at hx ho h1
        refine ⟨⟨by omega, by omega, by omega, ?_⟩, ?_⟩
        · rw [hp1, show s - 1 + 1 = s by omega] at hr; exact hr
        · exact (mClash_sy hw.s hy (by omega) (by omega) t0 t1).1 hx
      · rw [i2 p a1, i2 (p + 1) a2]
        rw [i2 p a1] at h1 h3
        rw [i2 (p + 1) a2] at h2 h3
        exact hcl p p0 p1 hr h1 h2 h3
theorem mUnseat_on {b : BX2} {t : Int} (hw : W2 b) (t0 : 0 ≤ t) (t1 : t < 8) : ∀ p, pX2_standing (mUnseat b t) p = pX2_standing b p ∨ pX2_standing (mUnseat b t) p = -1 := by
  intro p
  unfold mUnseat
  split
  · exact .inl rfl
  · show mLay _ _ _ _ p = _ ∨ mLay _ _ _ _ p = _
    unfold mLay
    split
    · exact .inr rfl
    · exact .inl rfl
theorem mUnseat_busy {b : BX2} {t : Int} (hw : W2 b) (t0 : 0 ≤ t) (t1 : t < 8) : pX2_coversBusy (mUnseat b t) ≤ pX2_coversBusy b := by
  unfold mUnseat
  split
  · exact Int.le_refl _
  · rename_i e
    have hs := hw.st t t0 t1
    have hf := hw.s.fr t0 (by omega)
    have := mFor_b b t (pX2_starts b t) (by omega)
    show pX2_coversBusy b - mFor b t (pX2_starts b t) ≤ pX2_coversBusy b
    omega
theorem V2_sub {b c : BX2} (h : V2 b) (hw : W2 c) (hs : Same c b) (h1 : ∀ t, 0 ≤ t → t < pX2_traders b → pX2_starts c t = pX2_starts b t ∨ pX2_starts c t = -1) (h2 : ∀ p, pX2_standing c p = pX2_standing b p ∨ pX2_standing c p = -1) (h3 : pX2_coversBusy c ≤ pX2_covers b) : V2 c := by
  obtain ⟨_, hy, hm, hv, hc, hcl⟩ := h
  have hs' := hs
  obtain ⟨q1, q2, q3, q4, q5, q6, q7, q8, q9, q10, q11⟩ := hs'
  refine ⟨hw, hs.sy.2 hy, ?_, ?_, ?_, ?_⟩
  · rw [q1, q2]; exact hm
  · intro t t0 t1 ht
    rw [q5] at t1
    rw [hs.inRow, hs.rent, q8]
    rcases h1 t t0 t1 with e | e
    · rw [e] at ht ⊢; exact hv t t0 t1 ht
    · exact absurd e ht
  · rw [q11]; exact h3
  · intro p p0 p1 hr a1 a2 a3
    rw [q1] at p1
    rw [q2] at hr
    rw [hs.clash]
    rcases h2 p with e | e
    · rcases h2 (p + 1) with f | f
      · rw [e] at a1 a3 ⊢
        rw [f] at a2 a3 ⊢
        exact hcl p p0 p1 hr a1 a2 a3
      · exact absurd f a2
    · exact absurd e a1
theorem V2_unseat {b : BX2} (h : V2 b) {t : Int} (t0 : 0 ≤ t) (t1 : t < 8) : V2 (mUnseat b t) := by
  refine V2_sub h (W2_unseat h.w t0 t1) (mUnseat_same b t) ?_ (mUnseat_on h.w t0 t1) ?_
  · intro u u0 u1
    rw [mUnseat_st (.inr trivial), updZ_app]
    split
    · exact .inr rfl
    · exact .inl rfl
  · have := mUnseat_busy h.w t0 t1
    have := h.2.2.2.2.1
    omega
theorem V2_empty {b : BX2} (hb : S2 b) (hy : Sy b) (hm : ∀ p, 0 ≤ p → p + 1 < pX2_pitches b → pX2_rows b p ≤ pX2_rows b (p + 1)) : V2 (mEmpty b) := by
  have hs := mEmpty_same b
  have hw := mEmpty_W2 hb
  refine ⟨hw, hs.sy.2 hy, hm, ?_, hb.cov.1, ?_⟩
  · intro t t0 t1 h
    exfalso
    apply h
    have ht := hb.tra
    have t1 : t < pX2_traders b := t1
    show (if 0 ≤ t ∧ t < 8 then (-1 : Int) else 0) = -1
    rw [if_pos ⟨t0, by omega⟩]
  · intro p p0 p1 _ h
    exfalso
    apply h
    have hp := hb.pit
    have p1 : p + 1 < pX2_pitches b := p1
    show (if 0 ≤ p ∧ p < 24 then (-1 : Int) else 0) = -1
    rw [if_pos ⟨p0, by omega⟩]
theorem Rl_st {b c : BX2} {a a' : Int → Int} (R : Rl b a) (hb : S2 b) (hs : Same c b) (h1 : ∀ u, 0 ≤ u → u < 8 → a' (107 + u) = pX2_starts c u) (h2 : ∀ i, (i < 107 ∨ 115 ≤ i) → a' i = a i) : Rl c a' := by
  have ht := hb.tra
  have hp := hb.pit
  obtain ⟨q1, q2, q3, q4, q5, q6, q7, q8, q9, q10, q11⟩ := hs
  obtain ⟨r1, r2, r3, r4, r5, r6, r7⟩ := R
  refine ⟨?_, ?_, ?_, ?_, ?_, h1, ?_⟩
  · rw [h2 _ (by omega), q1]; exact r1
  · rw [h2 _ (by omega), q5]; exact r2
  · rw [h2 _ (by omega), q11]; exact r3
  · intro p p0 p1; rw [q1] at p1; rw [h2 _ (by omega), h2 _ (by omega), h2 _ (by omega), q2, q3, q4]; exact r4 p p0 p1
  · intro p p0 p1; rw [q5] at p1; rw [h2 _ (by omega), h2 _ (by omega), h2 _ (by omega), h2 _ (by omega), q6, q7, q8, q9]; exact r5 p p0 p1
  · intro i j i0 i1 j0 j1; rw [h2 _ (by omega)]; unfold cl; rw [q10]; exact r7 i j i0 i1 j0 j1
theorem Rl_seat {b : BX2} {a : Int → Int} (R : Rl b a) (hb : S2 b) {t : Int} (s : Int) (t0 : 0 ≤ t) (t1 : t < 8) : Rl (mSeat b t s) (updZ a (107 + t) s) := by
  refine Rl_st R hb (mSeat_same b t s) ?_ (fun i hi => updZ_ne (by omega))
  intro u u0 u1
  show updZ a (107 + t) s (107 + u) = updZ (pX2_starts b) t s u
  by_cases h : u = t
  · rw [h, updZ_at, updZ_at]
  · rw [updZ_ne (by omega), updZ_ne h]; exact R.st u0 u1
theorem Rl_unseat {b : BX2} {a : Int → Int} (R : Rl b a) (hb : S2 b) {t : Int} (t0 : 0 ≤ t) (t1 : t < 8) : Rl (mUnseat b t) (updZ a (107 + t) (-1)) := by
  refine Rl_st R hb (mUnseat_same b t) ?_ (fun i hi => updZ_ne (by omega))
  intro u u0 u1
  rw [mUnseat_st (.inr trivial)]
  by_cases h : u = t
  · rw [h, updZ_at, updZ_at]
  · rw [updZ_ne (by omega), updZ_ne h]; exact R.st u0 u1
theorem PX_same {x x' : BX5} (h : PX x) (e1 : pX5_planner x' = pX5_planner x) (e2 : pX5_trialPlanner x' = pX5_trialPlanner x) (e3 : pX5_planned x' = pX5_planned x) (hs : Same (pX5_market x') (pX5_market x)) : PX x' := by
  obtain ⟨h1, h2, h3⟩ := h
  unfold PX
  rw [e1, e2, e3]
  refine ⟨h1, h2, ?_⟩
  rcases h3 with h3 | ⟨h3, h4, h5⟩
  · exact .inl h3
  · exact .inr ⟨h3, h4, h5.trans hs.symm⟩
theorem PX_0 {x x' : BX5} (h : PX x) (e1 : pX5_planner x' = pX5_planner x) (e2 : pX5_trialPlanner x' = pX5_trialPlanner x) (e3 : pX5_planned x' = 0) : PX x' := by
  obtain ⟨h1, h2, h3⟩ := h
  unfold PX
  rw [e1, e2, e3]
  exact ⟨h1, h2, .inl rfl⟩
theorem IX_same {x x' : BX5} (h : IX x) (e1 : pX5_insertion x' = pX5_insertion x) : IX x' := by unfold IX; rw [e1]; exact h
/-! place, remove, clear -/
theorem op_place {n : Nat} (hn : 1000 ≤ n) {x : BX5} {m : BX6} (I : Inv x m) (t p : Int) : ∃ cd v x' w m', g_X5_place n x t p = some (cd, v, x') ∧ g_X6_place n m t p = some (w, m') ∧ ok2 1 3 cd v w (pX6_thrown m') ∧ Inv x' m' := by
  have hp := I.s.pit
  have ht := I.s.tra
  unfold g_X5_place g_X6_place g_X6_place_17 g_X6_place_35
  rw [g_reqT, oB_some, g_reqP, oB_some, s_X6_isTrader I.s I.r, oB_some, s_X6_isPitch I.s I.r, oB_some]
  by_cases h1 : 0 ≤ t ∧ t < pX2_traders (pX5_market x)
  · rw [if_pos h1, if_pos rfl, zB_pos h1]
    by_cases h2 : 0 ≤ p ∧ p < pX2_pitches (pX5_market x)
    · rw [if_pos h2, if_pos rfl, zB_pos h2, w_hind (by omega) I.w h1.1 h1.2 h2.1 (by omega), s_X6_hinders (by omega) I.w I.r h1.1 h1.2 h2.1 h2.2, oB_some]
      by_cases h3 : mHind (pX5_market x) t p = 0
      · have hv := V2_seat I.v h1.1 h1.2 h3
        have hin := mInRow_lt (mHind_0.1 h3).2.1
        obtain ⟨k1, k2, k3, k4, k5, k6, k7⟩ := kKeep_t m 0
        rw [if_pos h3, s_X0_remember (by omega) I.h.1 I.s, oB_some, s_X2_seat (by omega) I.w h1.1 h1.2 h2.1 (by omega), oB_some, s_X2_blockRent (by omega) hv.s h1.1 h1.2 h2.1 (by omega), oB_some]
        rw [if_neg (by omega), if_neg (by omega), oB_some, if_pos h3, if_pos (by omega), s_X6_keeps hn _ (by rw [eX6_keptMany_thrown]; exact I.many.1) (by rw [eX6_keptMany_thrown]; exact I.many.2), oB_some, qA_ok (by omega) (by omega) (by omega), oL_def]
        have hR : Rl (mSeat (pX5_market x) t p) (pX6_a (sX6_a (kKeep (sX6_thrown m 0)) (updZ (pX6_a (kKeep (sX6_thrown m 0))) (107 + t) p))) := by
          rw [eX6_a_a, k3]; exact Rl_seat I.r I.s p h1.1 (by omega)
        rw [s_X6_rentOf (by omega) hv.s hR h1.1 h1.2 h2.1 (by exact hin.2.2), oB_some]
        refine ⟨_, _, _, _, _, rfl, rfl, .inl ⟨rfl, ?_, rfl⟩, ?_⟩
        · rw [eX6_thrown_a, k7]
        · refine Inv_ch I ?_ ?_ ?_ ?_ ?_ ?_ ?_ ?_ ?_ ?_ ?_ ?_ ?_
          · rw [eX5_market_history, eX5_market_market]; exact ⟨hv, hR⟩
          · rw [eX5_history_history]
          · rw [eX5_text_history, eX5_text_market]
          · rw [eX5_textLength_history, eX5_textLength_market]
          · rw [eX5_errorAt_history, eX5_errorAt_market]
          · rw [eX5_draft_history, eX5_draft_market]; exact I.2.2.1
          · refine PX_same I.2.2.2.2.2.1 ?_ ?_ ?_ ?_
            · rw [eX5_planner_history, eX5_planner_market]
            · rw [eX5_trialPlanner_history, eX5_trialPlanner_market]
            · rw [eX5_planned_history, eX5_planned_market]
            · rw [eX5_market_history, eX5_market_market]; exact mSeat_same _ _ _
          · refine IX_same I.2.2.2.2.2.2 ?_
            rw [eX5_insertion_history, eX5_insertion_market]
          · rw [eX6_kept_a, k1]
          · rw [eX6_keptMany_a, k2]
          · rw [eX6_buffer_a, k4]
          · rw [eX6_buffered_a, k5]
          · rw [eX6_errorAt_a, k6]
      · rw [if_neg h3, if_neg (by omega), if_neg (by omega), oB_some, if_neg h3, if_neg (by omega)]
        exact ⟨_, _, _, _, _, rfl, rfl, .inr (.inr ⟨rfl, eX6_thrown_thrown _ _⟩), Inv_t I 2⟩
    · rw [if_neg h2, if_neg (by omega), if_neg (by omega), zB_neg h2, if_pos rfl, if_neg (by omega)]
      exact ⟨_, _, _, _, _, rfl, rfl, .inr (.inl ⟨rfl, eX6_thrown_thrown _ _⟩), Inv_t I 1⟩
  · rw [if_neg h1, if_neg (by omega), zB_neg h1, if_pos rfl, if_neg (by omega)]
    exact ⟨_, _, _, _, _, rfl, rfl, .inr (.inl ⟨rfl, eX6_thrown_thrown _ _⟩), Inv_t I 1⟩
