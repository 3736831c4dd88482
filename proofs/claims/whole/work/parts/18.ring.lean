/-! The street turned around. -/
def mRevX (P x : Int) (v : Int → Int) : Int → Int := fun i => if (0 ≤ i ∧ i < x) ∨ (P - 1 - x < i ∧ i < P) then v (P - 1 - i) else v i
def mRev (P : Int) (v : Int → Int) : Int → Int := fun i => if 0 ≤ i ∧ i < P then v (P - 1 - i) else v i
theorem mRevX_0 (P : Int) (v : Int → Int) : mRevX P 0 v = v := by
  funext i; unfold mRevX; rw [if_neg (by omega)]
theorem mRevX_end {P x : Int} (v : Int → Int) (h0 : 0 ≤ x) (h : P - 1 - x ≤ x) (h2 : x ≤ P) : mRevX P x v = mRev P v := by
  funext i
  unfold mRevX mRev
  by_cases h1 : 0 ≤ i ∧ i < P
  · rw [if_pos h1]
    by_cases h3 : (0 ≤ i ∧ i < x) ∨ (P - 1 - x < i ∧ i < P)
    · rw [if_pos h3]
    · rw [if_neg h3, show P - 1 - i = i by omega]
  · rw [if_neg h1, if_neg (by omega)]
theorem mRevX_step {P x : Int} (v : Int → Int) (h0 : 0 ≤ x) (h : x < P - 1 - x) : updZ (updZ (mRevX P x v) x (mRevX P x v (P - 1 - x))) (P - 1 - x) (mRevX P x v x) = mRevX P (x + 1) v := by
  have e1 : mRevX P x v (P - 1 - x) = v (P - 1 - x) := by unfold mRevX; rw [if_neg (by omega)]
  have e2 : mRevX P x v x = v x := by unfold mRevX; rw [if_neg (by omega)]
  funext i
  rw [e1, e2, updZ_app, updZ_app]
  by_cases h1 : i = P - 1 - x
  · rw [if_pos h1]; unfold mRevX; rw [if_pos (by omega), h1, show P - 1 - (P - 1 - x) = x by omega]
  · rw [if_neg h1]
    by_cases h2 : i = x
    · rw [if_pos h2]; unfold mRevX; rw [if_pos (by omega), h2]
    · rw [if_neg h2]
      unfold mRevX
      by_cases h3 : (0 ≤ i ∧ i < x) ∨ (P - 1 - x < i ∧ i < P)
      · rw [if_pos h3, if_pos (by omega)]
      · rw [if_neg h3, if_neg (by omega)]
def mTurnX (b : BX2) (x : Int) : BX2 := sX2_roofs (sX2_rents (sX2_rows b (mRevX (pX2_pitches b) x (pX2_rows b))) (mRevX (pX2_pitches b) x (pX2_rents b))) (mRevX (pX2_pitches b) x (pX2_roofs b))
theorem s_X2_turnAround_13 (n : Nat) {b : BX2} (hb : S2 b) : ∀ (fu : Nat) (x y : Int), 0 ≤ x → x ≤ pX2_pitches b → y = pX2_pitches b - 1 - x → 0 < fu → y - x < fu → g_X2_turnAround_13 n fu x y (mTurnX b x) = some (sX2_roofs (sX2_rents (sX2_rows b (mRev (pX2_pitches b) (pX2_rows b))) (mRev (pX2_pitches b) (pX2_rents b))) (mRev (pX2_pitches b) (pX2_roofs b))) := by
  have hp := hb.pit
  intro fu
  induction fu with
  | zero => intro x y _ _ _ h0; omega
  | succ fu ih =>
    intro x y x0 x1 hy _ hf
    rw [g_X2_turnAround_13.eq_2]
    by_cases hc : y ≤ x
    · rw [if_pos hc]
      unfold mTurnX
      rw [mRevX_end _ x0 (by omega) (by omega), mRevX_end _ x0 (by omega) (by omega), mRevX_end _ x0 (by omega) (by omega)]
    · rw [if_neg hc]
      simp (disch := omega) only [qA_ok, oL_def, oR_ok]
      have hr : ∀ i, mRevX (pX2_pitches b) x (pX2_roofs b) i = 0 ∨ mRevX (pX2_pitches b) x (pX2_roofs b) i = 1 := by
        intro i; unfold mRevX; split
        · exact hb.roof _
        · exact hb.roof _
      have e : sX2_roofs (sX2_rents (sX2_rows (mTurnX b x) (updZ (updZ (pX2_rows (mTurnX b x)) x (pX2_rows (mTurnX b x) y)) y (pX2_rows (mTurnX b x) x))) (updZ (updZ (pX2_rents (mTurnX b x)) x (pX2_rents (mTurnX b x) y)) y (pX2_rents (mTurnX b x) x))) (updZ (updZ (pX2_roofs (mTurnX b x)) x (zNb (pX2_roofs (mTurnX b x) y))) y (zNb (pX2_roofs (mTurnX b x) x))) = mTurnX b (x + 1) := by
        unfold mTurnX
        simp only [eX2_pitches_pitches, eX2_pitches_rows, eX2_pitches_rents, eX2_pitches_roofs, eX2_pitches_traders, eX2_pitches_trades, eX2_pitches_fronts, eX2_pitches_limits, eX2_pitches_needy, eX2_pitches_clashes, eX2_pitches_covers, eX2_pitches_starts, eX2_pitches_standing, eX2_pitches_coversBusy, eX2_rows_pitches, eX2_rows_rows, eX2_rows_rents, eX2_rows_roofs, eX2_rows_traders, eX2_rows_trades, eX2_rows_fronts, eX2_rows_limits, eX2_rows_needy, eX2_rows_clashes, eX2_rows_covers, eX2_rows_starts, eX2_rows_standing, eX2_rows_coversBusy, eX2_rents_pitches, eX2_rents_rows, eX2_rents_rents, eX2_rents_roofs, eX2_rents_traders, eX2_rents_trades, eX2_rents_fronts, eX2_rents_limits, eX2_rents_needy, eX2_rents_clashes, eX2_rents_covers, eX2_rents_starts, eX2_rents_standing, eX2_rents_coversBusy, eX2_roofs_pitches, eX2_roofs_rows, eX2_roofs_rents, eX2_roofs_roofs, eX2_roofs_traders, eX2_roofs_trades, eX2_roofs_fronts, eX2_roofs_limits, eX2_roofs_needy, eX2_roofs_clashes, eX2_roofs_covers, eX2_roofs_starts, eX2_roofs_standing, eX2_roofs_coversBusy, eX2_traders_pitches, eX2_traders_rows, eX2_traders_rents, eX2_traders_roofs, eX2_traders_traders, eX2_traders_trades, eX2_traders_fronts, eX2_traders_limits, eX2_traders_needy, eX2_traders_clashes, eX2_traders_covers, eX2_traders_starts, eX2_traders_standing, eX2_traders_coversBusy, eX2_trades_pitches, eX2_trades_rows, eX2_trades_rents, eX2_trades_roofs, eX2_trades_traders, eX2_trades_trades, eX2_trades_fronts, eX2_trades_limits, eX2_trades_needy, eX2_trades_clashes, eX2_trades_covers, eX2_trades_starts, eX2_trades_standing, eX2_trades_coversBusy, eX2_fronts_pitches, eX2_fronts_rows, eX2_fronts_rents, eX2_fronts_roofs, eX2_fronts_traders, eX2_fronts_trades, eX2_fronts_fronts, eX2_fronts_limits, eX2_fronts_needy, eX2_fronts_clashes, eX2_fronts_covers, eX2_fronts_starts, eX2_fronts_standing, eX2_fronts_coversBusy, eX2_limits_pitches, eX2_limits_rows, eX2_limits_rents, eX2_limits_roofs, eX2_limits_traders, eX2_limits_trades, eX2_limits_fronts, eX2_limits_limits, eX2_limits_needy, eX2_limits_clashes, eX2_limits_covers, eX2_limits_starts, eX2_limits_standing, eX2_limits_coversBusy, eX2_needy_pitches, eX2_needy_rows, eX2_needy_rents, eX2_needy_roofs, eX2_needy_traders, eX2_needy_trades, eX2_needy_fronts, eX2_needy_limits, eX2_needy_needy, eX2_needy_clashes, eX2_needy_covers, eX2_needy_starts, eX2_needy_standing, eX2_needy_coversBusy, eX2_clashes_pitches, eX2_clashes_rows, eX2_clashes_rents, eX2_clashes_roofs, eX2_clashes_traders, eX2_clashes_trades, eX2_clashes_fronts, eX2_clashes_limits, eX2_clashes_needy, eX2_clashes_clashes, eX2_clashes_covers, eX2_clashes_starts, eX2_clashes_standing, eX2_clashes_coversBusy, eX2_covers_pitches, eX2_covers_rows, eX2_covers_rents, eX2_covers_roofs, eX2_covers_traders, eX2_covers_trades, eX2_covers_fronts, eX2_covers_limits, eX2_covers_needy, eX2_covers_clashes, eX2_covers_covers, eX2_covers_starts, eX2_covers_standing, eX2_covers_coversBusy, eX2_starts_pitches, eX2_starts_rows, eX2_starts_rents, eX2_starts_roofs, eX2_starts_traders, eX2_starts_trades, eX2_starts_fronts, eX2_starts_limits, eX2_starts_needy, eX2_starts_clashes, eX2_starts_covers, eX2_starts_starts, eX2_starts_standing, eX2_starts_coversBusy, eX2_standing_pitches, eX2_standing_rows, eX2_standing_rents, eX2_standing_roofs, eX2_standing_traders, eX2_standing_trades, eX2_standing_fronts, eX2_standing_limits, eX2_standing_needy, eX2_standing_clashes, eX2_standing_covers, eX2_standing_starts, eX2_standing_standing, eX2_standing_coversBusy, eX2_coversBusy_pitches, eX2_coversBusy_rows, eX2_coversBusy_rents, eX2_coversBusy_roofs, eX2_coversBusy_traders, eX2_coversBusy_trades, eX2_coversBusy_fronts, eX2_coversBusy_limits, eX2_coversBusy_needy, eX2_coversBusy_clashes, eX2_coversBusy_covers, eX2_coversBusy_starts, eX2_coversBusy_standing, eX2_coversBusy_coversBusy]
        rw [zNb_b (hr _), zNb_b (hr _), hy, mRevX_step _ x0 (by omega), mRevX_step _ x0 (by omega), mRevX_step _ x0 (by omega)]
        apply X2_ext <;> simp only [eX2_pitches_pitches, eX2_pitches_rows, eX2_pitches_rents, eX2_pitches_roofs, eX2_pitches_traders, eX2_pitches_trades, eX2_pitches_fronts, eX2_pitches_limits, eX2_pitches_needy, eX2_pitches_clashes, eX2_pitches_covers, eX2_pitches_starts, eX2_pitches_standing, eX2_pitches_coversBusy, eX2_rows_pitches, eX2_rows_rows, eX2_rows_rents, eX2_rows_roofs, eX2_rows_traders, eX2_rows_trades, eX2_rows_fronts, eX2_rows_limits, eX2_rows_needy, eX2_rows_clashes, eX2_rows_covers, eX2_rows_starts, eX2_rows_standing, eX2_rows_coversBusy, eX2_rents_pitches, eX2_rents_rows, eX2_rents_rents, eX2_rents_roofs, eX2_rents_traders, eX2_rents_trades, eX2_rents_fronts, eX2_rents_limits, eX2_rents_needy, eX2_rents_clashes, eX2_rents_covers, eX2_rents_starts, eX2_rents_standing, eX2_rents_coversBusy, eX2_roofs_pitches, eX2_roofs_rows, eX2_roofs_rents, eX2_roofs_roofs, eX2_roofs_traders, eX2_roofs_trades, eX2_roofs_fronts, eX2_roofs_limits, eX2_roofs_needy, eX2_roofs_clashes, eX2_roofs_covers, eX2_roofs_starts, eX2_roofs_standing, eX2_roofs_coversBusy, eX2_traders_pitches, eX2_traders_rows, eX2_traders_rents, eX2_traders_roofs, eX2_traders_traders, eX2_traders_trades, eX2_traders_fronts, eX2_traders_limits, eX2_traders_needy, eX2_traders_clashes, eX2_traders_covers, eX2_traders_starts, eX2_traders_standing, eX2_traders_coversBusy, eX2_trades_pitches, eX2_trades_rows, eX2_trades_rents, eX2_trades_roofs, eX2_trades_traders, eX2_trades_trades, eX2_trades_fronts, eX2_trades_limits, eX2_trades_needy, eX2_trades_clashes, eX2_trades_covers, eX2_trades_starts, eX2_trades_standing, eX2_trades_coversBusy, eX2_fronts_pitches, eX2_fronts_rows, eX2_fronts_rents, eX2_fronts_roofs, eX2_fronts_traders, eX2_fronts_trades, eX2_fronts_fronts, eX2_fronts_limits, eX2_fronts_needy, eX2_fronts_clashes, eX2_fronts_covers, eX2_fronts_starts, eX2_fronts_standing, eX2_fronts_coversBusy, eX2_limits_pitches, eX2_limits_rows, eX2_limits_rents, eX2_limits_roofs, eX2_limits_traders, eX2_limits_trades, eX2_limits_fronts, eX2_limits_limits, eX2_limits_needy, eX2_limits_clashes, eX2_limits_covers, eX2_limits_starts, eX2_limits_standing, eX2_limits_coversBusy, eX2_needy_pitches, eX2_needy_rows, eX2_needy_rents, eX2_needy_roofs, eX2_needy_traders, eX2_needy_trades, eX2_needy_fronts, eX2_needy_limits, eX2_needy_needy, eX2_needy_clashes, eX2_needy_covers, eX2_needy_starts, eX2_needy_standing, eX2_needy_coversBusy, eX2_clashes_pitches, eX2_clashes_rows, eX2_clashes_rents, eX2_clashes_roofs, eX2_clashes_traders, eX2_clashes_trades, eX2_clashes_fronts, eX2_clashes_limits, eX2_clashes_needy, eX2_clashes_clashes, eX2_clashes_covers, eX2_clashes_starts, eX2_clashes_standing, eX2_clashes_coversBusy, eX2_covers_pitches, eX2_covers_rows, eX2_covers_rents, eX2_covers_roofs, eX2_covers_traders, eX2_covers_trades, eX2_covers_fronts, eX2_covers_limits, eX2_covers_needy, eX2_covers_clashes, eX2_covers_covers, eX2_covers_starts, eX2_covers_standing, eX2_covers_coversBusy, eX2_starts_pitches, eX2_starts_rows, eX2_starts_rents, eX2_starts_roofs, eX2_starts_traders, eX2_starts_trades, eX2_starts_fronts, eX2_starts_limits, eX2_starts_needy, eX2_starts_clashes, eX2_starts_covers, eX2_starts_starts, eX2_starts_standing, eX2_starts_coversBusy, eX2_standing_pitches, eX2_standing_rows, eX2_standing_rents, eX2_standing_roofs, eX2_standing_traders, eX2_standing_trades, eX2_standing_fronts, eX2_standing_limits, eX2_standing_needy, eX2_standing_clashes, eX2_standing_covers, eX2_standing_starts, eX2_standing_standing, eX2_standing_coversBusy, eX2_coversBusy_pitches, eX2_coversBusy_rows, eX2_coversBusy_rents, eX2_coversBusy_roofs, eX2_coversBusy_traders, eX2_coversBusy_trades, eX2_coversBusy_fronts, eX2_coversBusy_limits, eX2_coversBusy_needy, eX2_coversBusy_clashes, eX2_coversBusy_covers, eX2_coversBusy_starts, eX2_coversBusy_standing, eX2_coversBusy_coversBusy]
      rw [e]
      exact ih (x + 1) (y + -1) (by omega) (by omega) (by omega) (by omega) (by omega)
def mTurn (b : BX2) : BX2 := sX2_roofs (sX2_rents (sX2_rows (mEmpty b) (mRev (pX2_pitches b) (pX2_rows b))) (mRev (pX2_pitches b) (pX2_rents b))) (mRev (pX2_pitches b) (pX2_roofs b))
theorem s_X2_turnAround {n : Nat} (hn : 100 ≤ n) {b : BX2} (hb : W2 b) : g_X2_turnAround n b = some (mTurn b) := by
  have hp := hb.s.pit
  have he := mEmpty_W2 hb.s
  unfold g_X2_turnAround
  rw [s_X2_unseatAll hn hb, oB_some]
  have e1 : pX2_pitches (mEmpty b) = pX2_pitches b := (mEmpty_same b).1
  rw [e1, oR_ok (by omega) (by omega), oL_def]
  have h := s_X2_turnAround_13 n he.s n 0 (pX2_pitches b - 1) (by omega) (by rw [e1]; omega) (by rw [e1]; omega) (by omega) (by omega)
  have e2 : mTurnX (mEmpty b) 0 = mEmpty b := by
    unfold mTurnX
    rw [mRevX_0, mRevX_0, mRevX_0]
    apply X2_ext <;> simp only [eX2_pitches_pitches, eX2_pitches_rows, eX2_pitches_rents, eX2_pitches_roofs, eX2_pitches_traders, eX2_pitches_trades, eX2_pitches_fronts, eX2_pitches_limits, eX2_pitches_needy, eX2_pitches_clashes, eX2_pitches_covers, eX2_pitches_starts, eX2_pitches_standing, eX2_pitches_coversBusy, eX2_rows_pitches, eX2_rows_rows, eX2_rows_rents, eX2_rows_roofs, eX2_rows_traders, eX2_rows_trades, eX2_rows_fronts, eX2_rows_limits, eX2_rows_needy, eX2_rows_clashes, eX2_rows_covers, eX2_rows_starts, eX2_rows_standing, eX2_rows_coversBusy, eX2_rents_pitches, eX2_rents_rows, eX2_rents_rents, eX2_rents_roofs, eX2_rents_traders, eX2_rents_trades, eX2_rents_fronts, eX2_rents_limits, eX2_rents_needy, eX2_rents_clashes, eX2_rents_covers, eX2_rents_starts, eX2_rents_standing, eX2_rents_coversBusy, eX2_roofs_pitches, eX2_roofs_rows, eX2_roofs_rents, eX2_roofs_roofs, eX2_roofs_traders, eX2_roofs_trades, eX2_roofs_fronts, eX2_roofs_limits, eX2_roofs_needy, eX2_roofs_clashes, eX2_roofs_covers, eX2_roofs_starts, eX2_roofs_standing, eX2_roofs_coversBusy, eX2_traders_pitches, eX2_traders_rows, eX2_traders_rents, eX2_traders_roofs, eX2_traders_traders, eX2_traders_trades, eX2_traders_fronts, eX2_traders_limits, eX2_traders_needy, eX2_traders_clashes, eX2_traders_covers, eX2_traders_starts, eX2_traders_standing, eX2_traders_coversBusy, eX2_trades_pitches, eX2_trades_rows, eX2_trades_rents, eX2_trades_roofs, eX2_trades_traders, eX2_trades_trades, eX2_trades_fronts, eX2_trades_limits, eX2_trades_needy, eX2_trades_clashes, eX2_trades_covers, eX2_trades_starts, eX2_trades_standing, eX2_trades_coversBusy, eX2_fronts_pitches, eX2_fronts_rows, eX2_fronts_rents, eX2_fronts_roofs, eX2_fronts_traders, eX2_fronts_trades, eX2_fronts_fronts, eX2_fronts_limits, eX2_fronts_needy, eX2_fronts_clashes, eX2_fronts_covers, eX2_fronts_starts, eX2_fronts_standing, eX2_fronts_coversBusy, eX2_limits_pitches, eX2_limits_rows, eX2_limits_rents, eX2_limits_roofs, eX2_limits_traders, eX2_limits_trades, eX2_limits_fronts, eX2_limits_limits, eX2_limits_needy, eX2_limits_clashes, eX2_limits_covers, eX2_limits_starts, eX2_limits_standing, eX2_limits_coversBusy, eX2_needy_pitches, eX2_needy_rows, eX2_needy_rents, eX2_needy_roofs, eX2_needy_traders, eX2_needy_trades, eX2_needy_fronts, eX2_needy_limits, eX2_needy_needy, eX2_needy_clashes, eX2_needy_covers, eX2_needy_starts, eX2_needy_standing, eX2_needy_coversBusy, eX2_clashes_pitches, eX2_clashes_rows, eX2_clashes_rents, eX2_clashes_roofs, eX2_clashes_traders, eX2_clashes_trades, eX2_clashes_fronts, eX2_clashes_limits, eX2_clashes_needy, eX2_clashes_clashes, eX2_clashes_covers, eX2_clashes_starts, eX2_clashes_standing, eX2_clashes_coversBusy, eX2_covers_pitches, eX2_covers_rows, eX2_covers_rents, eX2_covers_roofs, eX2_covers_traders, eX2_covers_trades, eX2_covers_fronts, eX2_covers_limits, eX2_covers_needy, eX2_covers_clashes, eX2_covers_covers, eX2_covers_starts, eX2_covers_standing, eX2_covers_coversBusy, eX2_starts_pitches, eX2_starts_rows, eX2_starts_rents, eX2_starts_roofs, eX2_starts_traders, eX2_starts_trades, eX2_starts_fronts, eX2_starts_limits, eX2_starts_needy, eX2_starts_clashes, eX2_starts_covers, eX2_starts_starts, eX2_starts_standing, eX2_starts_coversBusy, eX2_standing_pitches, eX2_standing_rows, eX2_standing_rents, eX2_standing_roofs, eX2_standing_traders, eX2_standing_trades, eX2_standing_fronts, eX2_standing_limits, eX2_standing_needy, eX2_standing_clashes, eX2_standing_covers, eX2_standing_starts, eX2_standing_standing, eX2_standing_coversBusy, eX2_coversBusy_pitches, eX2_coversBusy_rows, eX2_coversBusy_rents, eX2_coversBusy_roofs, eX2_coversBusy_traders, eX2_coversBusy_trades, eX2_coversBusy_fronts, eX2_coversBusy_limits, eX2_coversBusy_needy, eX2_coversBusy_clashes, eX2_coversBusy_covers, eX2_coversBusy_starts, eX2_coversBusy_standing, eX2_coversBusy_coversBusy]
  rw [e2] at h
  rw [h]
  rfl
/-! the ring -/
theorem X0_ext {a b : BX0} (h1 : pX0_kept a = pX0_kept b) (h2 : pX0_newest a = pX0_newest b) (h3 : pX0_count a = pX0_count b) : a = b := by
  obtain ⟨a1, a2, a3⟩ := a
  obtain ⟨b1, b2, b3⟩ := b
  simp only [pX0_kept, pX0_newest, pX0_count] at *
  subst h1 h2 h3
  rfl
def hNext (x : Int) : Int := if 6 ≤ x + 1 then 0 else x + 1
def hPrev (x : Int) : Int := if x ≤ 0 then 5 else x - 1
def S0 (h : BX0) : Prop := (∀ i, S2 (pX0_kept h i)) ∧ (0 ≤ pX0_newest h ∧ pX0_newest h ≤ 5) ∧ (0 ≤ pX0_count h ∧ pX0_count h ≤ 6)
def hRem (h : BX0) (b : BX2) : BX0 := (va_up (pX0_kept h) (hNext (pX0_newest h)).toNat b, hNext (pX0_newest h), if 6 ≤ pX0_count h then 6 else pX0_count h + 1)
theorem s_X0_remember_22 {n : Nat} (hn : 100 ≤ n) {h : BX0} (hh : S0 h) {b : BX2} (hb : S2 b) {t : Int} (t0 : 0 ≤ t) (t1 : t ≤ 5) : g_X0_remember_22 n t h b = some (va_up (pX0_kept h) t.toNat b, t, if 6 ≤ pX0_count h then 6 else pX0_count h + 1) := by
  obtain ⟨h1, h2, h3⟩ := hh
  have hc : ∀ i, g_X2_copyFrom n (pX0_kept h i) b = some b := fun i => s_X2_copyFrom hn (h1 i) hb
  unfold g_X0_remember_22
  by_cases hk : 6 ≤ pX0_count h
  · have : pX0_count h = 6 := by omega
    have h6 : t = 0 ∨ t = 1 ∨ t = 2 ∨ t = 3 ∨ t = 4 ∨ t = 5 := by omega
    rcases h6 with h | h | h | h | h | h <;> subst h <;>
      simp only [hc, oB_some, hk, if_true, ↓reduceIte, show ¬ ((1 : Int) = 0) by decide, show ¬ ((2 : Int) = 0) by decide, show ¬ ((2 : Int) = 1) by decide, show ¬ ((3 : Int) = 0) by decide, show ¬ ((3 : Int) = 1) by decide, show ¬ ((3 : Int) = 2) by decide, show ¬ ((4 : Int) = 0) by decide, show ¬ ((4 : Int) = 1) by decide, show ¬ ((4 : Int) = 2) by decide, show ¬ ((4 : Int) = 3) by decide, show ¬ ((5 : Int) = 0) by decide, show ¬ ((5 : Int) = 1) by decide, show ¬ ((5 : Int) = 2) by decide, show ¬ ((5 : Int) = 3) by decide, show ¬ ((5 : Int) = 4) by decide] <;>
      exact congrArg some (X0_ext rfl rfl this)
  · have h6 : t = 0 ∨ t = 1 ∨ t = 2 ∨ t = 3 ∨ t = 4 ∨ t = 5 := by omega
    have hr : ∀ k : Option BX0, oR (pX0_count h + 1) k = k := fun k => oR_ok (by omega) (by omega)
    rcases h6 with h | h | h | h | h | h <;> subst h <;>
      simp only [hc, oB_some, hk, if_false, hr, oL_def, ↓reduceIte, show ¬ ((1 : Int) = 0) by decide, show ¬ ((2 : Int) = 0) by decide, show ¬ ((2 : Int) = 1) by decide, show ¬ ((3 : Int) = 0) by decide, show ¬ ((3 : Int) = 1) by decide, show ¬ ((3 : Int) = 2) by decide, show ¬ ((4 : Int) = 0) by decide, show ¬ ((4 : Int) = 1) by decide, show ¬ ((4 : Int) = 2) by decide, show ¬ ((4 : Int) = 3) by decide, show ¬ ((5 : Int) = 0) by decide, show ¬ ((5 : Int) = 1) by decide, show ¬ ((5 : Int) = 2) by decide, show ¬ ((5 : Int) = 3) by decide, show ¬ ((5 : Int) = 4) by decide] <;>
      exact congrArg some (X0_ext rfl rfl rfl)
theorem s_X0_remember {n : Nat} (hn : 100 ≤ n) {h : BX0} (hh : S0 h) {b : BX2} (hb : S2 b) : g_X0_remember n h b = some (hRem h b) := by
  have h2 := hh.2.1
  unfold g_X0_remember hRem hNext
  rw [oR_ok (by omega) (by omega)]
  by_cases h6 : 6 ≤ pX0_newest h + 1
  · rw [if_pos h6, if_pos h6, s_X0_remember_22 hn hh hb (by omega) (by omega)]
  · rw [if_neg h6, if_neg h6, s_X0_remember_22 hn hh hb (by omega) (by omega)]
def hBack (h : BX0) : BX0 := (pX0_kept h, hPrev (pX0_newest h), pX0_count h - 1)
theorem s_X0_takeBack {n : Nat} (hn : 100 ≤ n) {h : BX0} (hh : S0 h) {b : BX2} (hb : S2 b) (hc : 0 < pX0_count h) : g_X0_takeBack n h b = some (hBack h, pX0_kept h (pX0_newest h).toNat) := by
  obtain ⟨h1, h2, h3⟩ := hh
  have hcp : ∀ i, g_X2_copyFrom n b (pX0_kept h i) = some (pX0_kept h i) := fun i => s_X2_copyFrom hn hb (h1 i)
  have hr : ∀ k : Option (BX0 × BX2), oR (pX0_count h - 1) k = k := fun k => oR_ok (by omega) (by omega)
  have e38 : ∀ t c, g_X0_takeBack_38 n t h c = some ((pX0_kept h, t, pX0_count h - 1), c) := by
    intro t c
    unfold g_X0_takeBack_38
    rw [hr, oL_def]
    exact congrArg some (congrArg (fun x => (x, c)) (X0_ext rfl rfl rfl))
  unfold g_X0_takeBack hBack hPrev
  rw [if_neg (by omega)]
  have h6 : pX0_newest h = 0 ∨ pX0_newest h = 1 ∨ pX0_newest h = 2 ∨ pX0_newest h = 3 ∨ pX0_newest h = 4 ∨ pX0_newest h = 5 := by omega
  rcases h6 with e | e | e | e | e | e <;> rw [e]
  · rw [if_pos rfl, hcp, oB_some, if_pos (by omega), e38]; rfl
  · rw [if_neg (by omega), if_pos rfl, hcp, oB_some, if_neg (by omega), oR_ok (by omega) (by omega), e38]; rfl
  · rw [if_neg (by omega), if_neg (by omega), if_pos rfl, hcp, oB_some, if_neg (by omega), oR_ok (by omega) (by omega), e38]; rfl
  · rw [if_neg (by omega), if_neg (by omega), if_neg (by omega), if_pos rfl, hcp, oB_some, if_neg (by omega), oR_ok (by omega) (by omega), e38]; rfl
  · rw [if_neg (by omega), if_neg (by omega), if_neg (by omega), if_neg (by omega), if_pos rfl, hcp, oB_some, if_neg (by omega), oR_ok (by omega) (by omega), e38]; rfl
  · rw [if_neg (by omega), if_neg (by omega), if_neg (by omega), if_neg (by omega), if_neg (by omega), if_pos rfl, hcp, oB_some, if_neg (by omega), oR_ok (by omega) (by omega), e38]; rfl
