/-! The calls that only look. -/
theorem pv_ok {b : BX2} {m : BX6} (hb : S2 b) (R : Rl b (pX6_a m)) {f p : Int} (f0 : 0 ≤ f) (f1 : f ≤ 60) : g_X6_pitchValue m f p = some (if 0 ≤ p ∧ p < pX2_pitches b then (pX6_a m (f + p), sX6_thrown m 0) else (0, sX6_thrown m 1)) := by
  have hp := hb.pit
  unfold g_X6_pitchValue g_X6_pitchValue_14
  rw [s_X6_isPitch hb R, oB_some]
  by_cases h : 0 ≤ p ∧ p < pX2_pitches b
  · rw [zB_pos h, if_neg (by omega), if_pos (by omega), qA_ok (by omega) (by omega) (by omega), if_pos h]
  · rw [zB_neg h, if_pos rfl, if_neg (by omega), if_neg h]
theorem tv_ok {b : BX2} {m : BX6} (hb : S2 b) (R : Rl b (pX6_a m)) {f p : Int} (f0 : 0 ≤ f) (f1 : f ≤ 110) : g_X6_traderValue m f p = some (if 0 ≤ p ∧ p < pX2_traders b then (pX6_a m (f + p), sX6_thrown m 0) else (0, sX6_thrown m 1)) := by
  have hp := hb.tra
  unfold g_X6_traderValue g_X6_traderValue_14
  rw [s_X6_isTrader hb R, oB_some]
  by_cases h : 0 ≤ p ∧ p < pX2_traders b
  · rw [zB_pos h, if_neg (by omega), if_pos (by omega), qA_ok (by omega) (by omega) (by omega), if_pos h]
  · rw [zB_neg h, if_pos rfl, if_neg (by omega), if_neg h]
theorem op_errorPosition {x : BX5} {m : BX6} (I : Inv x m) : ∃ v w m', g_X5_errorPosition x = some v ∧ g_X6_errorPosition m = some (w, m') ∧ v = w ∧ Inv x m' :=
  ⟨_, _, _, rfl, rfl, I.2.2.2.2.1, Inv_t I 0⟩
theorem op_pitchCount {x : BX5} {m : BX6} (I : Inv x m) : ∃ v w m', g_X5_pitchCount x = some v ∧ g_X6_pitchCount m = some (w, m') ∧ v = w ∧ Inv x m' := by
  refine ⟨_, _, _, rfl, ?_, I.r.pit.symm, Inv_t I 0⟩
  unfold g_X6_pitchCount
  rw [qA_ok (by omega) (by omega) (by omega)]
theorem op_traderCount {x : BX5} {m : BX6} (I : Inv x m) : ∃ v w m', g_X5_traderCount x = some v ∧ g_X6_traderCount m = some (w, m') ∧ v = w ∧ Inv x m' := by
  refine ⟨_, _, _, rfl, ?_, I.r.tra.symm, Inv_t I 0⟩
  unfold g_X6_traderCount
  rw [qA_ok (by omega) (by omega) (by omega)]
theorem op_row {x : BX5} {m : BX6} (I : Inv x m) (p : Int) : ∃ cd v w m', g_X5_row x p = some (cd, v) ∧ g_X6_row m p = some (w, m') ∧ ok1 1 cd v w (pX6_thrown m') ∧ Inv x m' := by
  have hp := I.s.pit
  unfold g_X5_row g_X6_row
  rw [g_reqP, oB_some, pv_ok I.s I.r (by omega) (by omega)]
  by_cases h : 0 ≤ p ∧ p < pX2_pitches (pX5_market x)
  · rw [if_pos h, if_pos h, if_pos rfl, qA_ok (by omega) (by omega) (by omega)]
    exact ⟨_, _, _, _, rfl, rfl, .inl ⟨rfl, eX6_thrown_thrown _ _, (I.r.row h.1 h.2).symm⟩, Inv_t I 0⟩
  · rw [if_neg h, if_neg h, if_neg (by omega)]
    exact ⟨_, _, _, _, rfl, rfl, .inr ⟨rfl, eX6_thrown_thrown _ _⟩, Inv_t I 1⟩
theorem op_rent {x : BX5} {m : BX6} (I : Inv x m) (p : Int) : ∃ cd v w m', g_X5_rent x p = some (cd, v) ∧ g_X6_rent m p = some (w, m') ∧ ok1 1 cd v w (pX6_thrown m') ∧ Inv x m' := by
  have hp := I.s.pit
  unfold g_X5_rent g_X6_rent
  rw [g_reqP, oB_some, pv_ok I.s I.r (by omega) (by omega)]
  by_cases h : 0 ≤ p ∧ p < pX2_pitches (pX5_market x)
  · rw [if_pos h, if_pos h, if_pos rfl, qA_ok (by omega) (by omega) (by omega)]
    exact ⟨_, _, _, _, rfl, rfl, .inl ⟨rfl, eX6_thrown_thrown _ _, (I.r.rent h.1 h.2).symm⟩, Inv_t I 0⟩
  · rw [if_neg h, if_neg h, if_neg (by omega)]
    exact ⟨_, _, _, _, rfl, rfl, .inr ⟨rfl, eX6_thrown_thrown _ _⟩, Inv_t I 1⟩
theorem op_isRoofed {x : BX5} {m : BX6} (I : Inv x m) (p : Int) : ∃ cd v w m', g_X5_isRoofed x p = some (cd, v) ∧ g_X6_isRoofed m p = some (w, m') ∧ ok1 1 cd v w (pX6_thrown m') ∧ Inv x m' ∧ (v = 0 ∨ v = 1) ∧ (w = 0 ∨ w = 1) := by
  have hp := I.s.pit
  have hr := I.s.roof p
  unfold g_X5_isRoofed g_X6_isRoofed
  rw [g_reqP, oB_some, pv_ok I.s I.r (by omega) (by omega)]
  by_cases h : 0 ≤ p ∧ p < pX2_pitches (pX5_market x)
  · rw [if_pos h, if_pos h, if_pos rfl, qA_ok (by omega) (by omega) (by omega), oG_ok (zNb_b hr), oB2_some, I.r.roof h.1 h.2]
    rcases hr with e | e
    · rw [e, if_neg (by omega)]
      exact ⟨_, _, _, _, rfl, rfl, .inl ⟨rfl, eX6_thrown_thrown _ _, rfl⟩, Inv_t I 0, .inl rfl, .inl rfl⟩
    · rw [e, if_pos rfl]
      exact ⟨_, _, _, _, rfl, rfl, .inl ⟨rfl, eX6_thrown_thrown _ _, rfl⟩, Inv_t I 0, .inr rfl, .inr rfl⟩
  · rw [if_neg h, if_neg h, if_neg (by omega), oB2_some, if_neg (by omega)]
    exact ⟨_, _, _, _, rfl, rfl, .inr ⟨rfl, eX6_thrown_thrown _ _⟩, Inv_t I 1, .inl rfl, .inl rfl⟩
theorem op_trade {x : BX5} {m : BX6} (I : Inv x m) (p : Int) : ∃ cd v w m', g_X5_trade x p = some (cd, v) ∧ g_X6_trade m p = some (w, m') ∧ ok1 1 cd v w (pX6_thrown m') ∧ Inv x m' := by
  have hp := I.s.tra
  unfold g_X5_trade g_X6_trade
  rw [g_reqT, oB_some, tv_ok I.s I.r (by omega) (by omega)]
  by_cases h : 0 ≤ p ∧ p < pX2_traders (pX5_market x)
  · rw [if_pos h, if_pos h, if_pos rfl, qA_ok (by omega) (by omega) (by omega)]
    exact ⟨_, _, _, _, rfl, rfl, .inl ⟨rfl, eX6_thrown_thrown _ _, (I.r.trd h.1 h.2).symm⟩, Inv_t I 0⟩
  · rw [if_neg h, if_neg h, if_neg (by omega)]
    exact ⟨_, _, _, _, rfl, rfl, .inr ⟨rfl, eX6_thrown_thrown _ _⟩, Inv_t I 1⟩
theorem op_frontage {x : BX5} {m : BX6} (I : Inv x m) (p : Int) : ∃ cd v w m', g_X5_frontage x p = some (cd, v) ∧ g_X6_frontage m p = some (w, m') ∧ ok1 1 cd v w (pX6_thrown m') ∧ Inv x m' := by
  have hp := I.s.tra
  unfold g_X5_frontage g_X6_frontage
  rw [g_reqT, oB_some, tv_ok I.s I.r (by omega) (by omega)]
  by_cases h : 0 ≤ p ∧ p < pX2_traders (pX5_market x)
  · rw [if_pos h, if_pos h, if_pos rfl, qA_ok (by omega) (by omega) (by omega)]
    exact ⟨_, _, _, _, rfl, rfl, .inl ⟨rfl, eX6_thrown_thrown _ _, (I.r.fr h.1 h.2).symm⟩, Inv_t I 0⟩
  · rw [if_neg h, if_neg h, if_neg (by omega)]
    exact ⟨_, _, _, _, rfl, rfl, .inr ⟨rfl, eX6_thrown_thrown _ _⟩, Inv_t I 1⟩
theorem op_start {x : BX5} {m : BX6} (I : Inv x m) (p : Int) : ∃ cd v w m', g_X5_start x p = some (cd, v) ∧ g_X6_start m p = some (w, m') ∧ ok1 1 cd v w (pX6_thrown m') ∧ Inv x m' := by
  have hp := I.s.tra
  unfold g_X5_start g_X6_start
  rw [g_reqT, oB_some, tv_ok I.s I.r (by omega) (by omega)]
  by_cases h : 0 ≤ p ∧ p < pX2_traders (pX5_market x)
  · rw [if_pos h, if_pos h, if_pos rfl, qA_ok (by omega) (by omega) (by omega)]
    exact ⟨_, _, _, _, rfl, rfl, .inl ⟨rfl, eX6_thrown_thrown _ _, (I.r.st h.1 (by omega)).symm⟩, Inv_t I 0⟩
  · rw [if_neg h, if_neg h, if_neg (by omega)]
    exact ⟨_, _, _, _, rfl, rfl, .inr ⟨rfl, eX6_thrown_thrown _ _⟩, Inv_t I 1⟩
theorem op_traderAt {n : Nat} (hn : 1000 ≤ n) {x : BX5} {m : BX6} (I : Inv x m) (p : Int) : ∃ cd v w m', g_X5_traderAt x p = some (cd, v) ∧ g_X6_traderAt n m p = some (w, m') ∧ ok1 1 cd v w (pX6_thrown m') ∧ Inv x m' := by
  have hp := I.s.pit
  unfold g_X5_traderAt g_X6_traderAt g_X6_traderAt_14
  rw [g_reqP, oB_some, s_X6_isPitch I.s I.r, oB_some]
  by_cases h : 0 ≤ p ∧ p < pX2_pitches (pX5_market x)
  · rw [if_pos h, if_pos rfl, qA_ok (by omega) (by omega) (by omega), zB_pos h, if_neg (by omega), if_pos (by omega), s_X6_on (by omega) I.w (r := sX6_thrown m 0) (by rw [eX6_a_thrown]; exact I.r) h.1 (by omega)]
    exact ⟨_, _, _, _, rfl, rfl, .inl ⟨rfl, eX6_thrown_thrown _ _, rfl⟩, Inv_t I 0⟩
  · rw [if_neg h, if_neg (by omega), zB_neg h, if_pos rfl, if_neg (by omega)]
    exact ⟨_, _, _, _, rfl, rfl, .inr ⟨rfl, eX6_thrown_thrown _ _⟩, Inv_t I 1⟩
theorem op_clash {x : BX5} {m : BX6} (I : Inv x m) (i j : Int) : ∃ cd v w m', g_X5_clash x i j = some (cd, v) ∧ g_X6_clash m i j = some (w, m') ∧ ok1 2 cd v w (pX6_thrown m') ∧ Inv x m' ∧ (v = 0 ∨ v = 1) ∧ (w = 0 ∨ w = 1) := by
  unfold g_X5_clash g_X6_clash g_X6_clash_14
  rw [g_reqTT, oB_some, s_X6_areTrades, oB_some]
  by_cases h : (0 ≤ i ∧ i < 8) ∧ (0 ≤ j ∧ j < 8)
  · rw [if_pos h, if_pos rfl, s_X2_areClashing _ h.1.1 h.1.2, oB_some, oG_ok (zB_nb _), zB_pos h, if_neg (by omega), if_pos rfl, qA_ok (by omega) (by omega) (by omega), I.r.cl h.1.1 h.1.2 h.2.1 h.2.2]
    by_cases e : cl (pX5_market x) i j
    · have e' : zbit (pX2_clashes (pX5_market x) i) j := e
      rw [zB_pos e, zB_pos e', if_pos rfl]
      exact ⟨_, _, _, _, rfl, rfl, .inl ⟨rfl, eX6_thrown_thrown _ _, rfl⟩, Inv_t I 0, .inr rfl, .inr rfl⟩
    · have e' : ¬ zbit (pX2_clashes (pX5_market x) i) j := e
      rw [zB_neg e, zB_neg e', if_neg (by omega)]
      exact ⟨_, _, _, _, rfl, rfl, .inl ⟨rfl, eX6_thrown_thrown _ _, rfl⟩, Inv_t I 0, .inl rfl, .inl rfl⟩
  · rw [if_neg h, if_neg (by omega), zB_neg h, if_pos rfl, if_neg (by omega)]
    exact ⟨_, _, _, _, rfl, rfl, .inr ⟨rfl, eX6_thrown_thrown _ _⟩, Inv_t I 1, .inl rfl, .inl rfl⟩
theorem op_obstacle {n : Nat} (hn : 1000 ≤ n) {x : BX5} {m : BX6} (I : Inv x m) (t p : Int) : ∃ cd v w m', g_X5_obstacle n x t p = some (cd, v) ∧ g_X6_obstacle n m t p = some (w, m') ∧ ok1 1 cd v w (pX6_thrown m') ∧ Inv x m' := by
  have hp := I.s.pit
  have ht := I.s.tra
  unfold g_X5_obstacle g_X6_obstacle g_X6_obstacle_21 g_X6_obstacle_22
  rw [g_reqT, oB_some, g_reqP, oB_some, s_X6_isTrader I.s I.r, oB_some, s_X6_isPitch I.s I.r, oB_some]
  by_cases h1 : 0 ≤ t ∧ t < pX2_traders (pX5_market x)
  · rw [if_pos h1, if_pos rfl, zB_pos h1]
    by_cases h2 : 0 ≤ p ∧ p < pX2_pitches (pX5_market x)
    · rw [if_pos h2, if_pos rfl, if_neg (by omega), zB_pos h2, if_neg (by omega), if_pos (by omega), w_hind (by omega) I.w h1.1 h1.2 h2.1 (by omega), s_X6_hinders (by omega) I.w (r := sX6_thrown m 0) (by rw [eX6_a_thrown]; exact I.r) h1.1 h1.2 h2.1 h2.2]
      exact ⟨_, _, _, _, rfl, rfl, .inl ⟨rfl, eX6_thrown_thrown _ _, rfl⟩, Inv_t I 0⟩
    · rw [if_neg h2, if_neg (by omega), if_neg (by omega), zB_neg h2, if_pos rfl, if_neg (by omega)]
      exact ⟨_, _, _, _, rfl, rfl, .inr ⟨rfl, eX6_thrown_thrown _ _⟩, Inv_t I 1⟩
  · rw [if_neg h1, if_neg (by omega), zB_neg h1, if_pos rfl, if_neg (by omega)]
    exact ⟨_, _, _, _, rfl, rfl, .inr ⟨rfl, eX6_thrown_thrown _ _⟩, Inv_t I 1⟩
theorem op_income {n : Nat} (hn : 1000 ≤ n) {x : BX5} {m : BX6} (I : Inv x m) : ∃ v w m', g_X5_income n x = some v ∧ g_X6_income n m = some (w, m') ∧ v = w ∧ Inv x m' := by
  unfold g_X5_income g_X6_income
  rw [s_X2_totalRent (by omega) I.w, oB_some, s_X6_incomeNow (by omega) I.w (r := sX6_thrown m 0) (by rw [eX6_a_thrown]; exact I.r), oB_some]
  exact ⟨_, _, _, rfl, rfl, rfl, Inv_t I 0⟩
theorem op_coversUsed {n : Nat} (hn : 1000 ≤ n) {x : BX5} {m : BX6} (I : Inv x m) : ∃ v w m', g_X5_coversUsed x = some v ∧ g_X6_coversUsed n m = some (w, m') ∧ v = w ∧ Inv x m' := by
  unfold g_X5_coversUsed g_X6_coversUsed
  rw [s_X6_usedCovers (by omega) I.w (r := sX6_thrown m 0) (by rw [eX6_a_thrown]; exact I.r), oB_some]
  exact ⟨_, _, _, rfl, rfl, rfl, Inv_t I 0⟩
