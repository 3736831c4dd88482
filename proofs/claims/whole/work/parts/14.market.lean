/-! All unseated; sums over the traders; comparing. -/
def mEmpty (b : BX2) : BX2 := sX2_coversBusy (sX2_starts (sX2_standing b (fun p => if 0 ≤ p ∧ p < 24 then -1 else 0)) (fun t => if 0 ≤ t ∧ t < 8 then -1 else 0)) 0
theorem mEmpty_same (b : BX2) : Same (mEmpty b) b := ⟨rfl, rfl, rfl, rfl, rfl, rfl, rfl, rfl, rfl, rfl, rfl⟩
theorem mEmpty_W2 {b : BX2} (h : S2 b) : W2 (mEmpty b) := by
  refine ⟨h.put (fun i hi => by rw [if_neg (by omega)]) (fun i hi => by rw [if_neg (by omega)]), ?_, ?_, ?_, ?_⟩
  · intro t t0 t1; left; show (if 0 ≤ t ∧ t < 8 then (-1 : Int) else 0) = -1; rw [if_pos ⟨t0, t1⟩]
  · intro t t0 t1; left; show (if 0 ≤ t ∧ t < 24 then (-1 : Int) else 0) = -1; rw [if_pos ⟨t0, t1⟩]
  · intro t p t0 t1 h2
    exfalso
    apply h2
    have := h.tra
    have t1 : t < pX2_traders b := t1
    show (if 0 ≤ t ∧ t < 8 then (-1 : Int) else 0) = -1; rw [if_pos ⟨t0, by omega⟩]
  · show 0 = _
    symm
    apply zr_0
    intro i h1 h2
    have h2 : i < pX2_traders b := h2
    have := h.tra
    rw [if_pos]
    show (if 0 ≤ i ∧ i < 8 then (-1 : Int) else 0) = -1; rw [if_pos ⟨h1, by omega⟩]
/-! with nobody placed the placement is the empty one -/
theorem W2_none {b : BX2} (h : W2 b) (hn : ∀ t, 0 ≤ t → t < 8 → pX2_starts b t = -1) : b = mEmpty b := by
  have ht := h.s.tra
  have e1 : pX2_starts b = fun t => if 0 ≤ t ∧ t < 8 then -1 else 0 := by
    refine nz_ext h.s.nrm.2.2.2.2.2.2.2.2.1 (fun i hi => by rw [if_neg (by omega)]) ?_
    intro i h0 h1; rw [if_pos ⟨h0, h1⟩]; exact hn i h0 h1
  have e2 : pX2_standing b = fun t => if 0 ≤ t ∧ t < 24 then -1 else 0 := by
    refine nz_ext h.s.nrm.2.2.2.2.2.2.2.2.2 (fun i hi => by rw [if_neg (by omega)]) ?_
    intro i h0 h1; rw [if_pos ⟨h0, h1⟩]
    cases h.on i h0 h1 with
    | inl h2 => exact h2
    | inr h2 => exact absurd (hn _ h2.1 (by omega)) h2.2.2.1
  have e3 : pX2_coversBusy b = 0 := by
    rw [h.busy]
    apply zr_0
    intro i h1 h2
    rw [if_pos (hn i h1 (by omega))]
  unfold mEmpty
  rw [← e1, ← e2]
  apply X2_ext <;> simp only [eX2_pitches_pitches, eX2_pitches_rows, eX2_pitches_rents, eX2_pitches_roofs, eX2_pitches_traders, eX2_pitches_trades, eX2_pitches_fronts, eX2_pitches_limits, eX2_pitches_needy, eX2_pitches_clashes, eX2_pitches_covers, eX2_pitches_starts, eX2_pitches_standing, eX2_pitches_coversBusy, eX2_rows_pitches, eX2_rows_rows, eX2_rows_rents, eX2_rows_roofs, eX2_rows_traders, eX2_rows_trades, eX2_rows_fronts, eX2_rows_limits, eX2_rows_needy, eX2_rows_clashes, eX2_rows_covers, eX2_rows_starts, eX2_rows_standing, eX2_rows_coversBusy, eX2_rents_pitches, eX2_rents_rows, eX2_rents_rents, eX2_rents_roofs, eX2_rents_traders, eX2_rents_trades, eX2_rents_fronts, eX2_rents_limits, eX2_rents_needy, eX2_rents_clashes, eX2_rents_covers, eX2_rents_starts, eX2_rents_standing, eX2_rents_coversBusy, eX2_roofs_pitches, eX2_roofs_rows, eX2_roofs_rents, eX2_roofs_roofs, eX2_roofs_traders, eX2_roofs_trades, eX2_roofs_fronts, eX2_roofs_limits, eX2_roofs_needy, eX2_roofs_clashes, eX2_roofs_covers, eX2_roofs_starts, eX2_roofs_standing, eX2_roofs_coversBusy, eX2_traders_pitches, eX2_traders_rows, eX2_traders_rents, eX2_traders_roofs, eX2_traders_traders, eX2_traders_trades, eX2_traders_fronts, eX2_traders_limits, eX2_traders_needy, eX2_traders_clashes, eX2_traders_covers, eX2_traders_starts, eX2_traders_standing, eX2_traders_coversBusy, eX2_trades_pitches, eX2_trades_rows, eX2_trades_rents, eX2_trades_roofs, eX2_trades_traders, eX2_trades_trades, eX2_trades_fronts, eX2_trades_limits, eX2_trades_needy, eX2_trades_clashes, eX2_trades_covers, eX2_trades_starts, eX2_trades_standing, eX2_trades_coversBusy, eX2_fronts_pitches, eX2_fronts_rows, eX2_fronts_rents, eX2_fronts_roofs, eX2_fronts_traders, eX2_fronts_trades, eX2_fronts_fronts, eX2_fronts_limits, eX2_fronts_needy, eX2_fronts_clashes, eX2_fronts_covers, eX2_fronts_starts, eX2_fronts_standing, eX2_fronts_coversBusy, eX2_limits_pitches, eX2_limits_rows, eX2_limits_rents, eX2_limits_roofs, eX2_limits_traders, eX2_limits_trades, eX2_limits_fronts, eX2_limits_limits, eX2_limits_needy, eX2_limits_clashes, eX2_limits_covers, eX2_limits_starts, eX2_limits_standing, eX2_limits_coversBusy, eX2_needy_pitches, eX2_needy_rows, eX2_needy_rents, eX2_needy_roofs, eX2_needy_traders, eX2_needy_trades, eX2_needy_fronts, eX2_needy_limits, eX2_needy_needy, eX2_needy_clashes, eX2_needy_covers, eX2_needy_starts, eX2_needy_standing, eX2_needy_coversBusy, eX2_clashes_pitches, eX2_clashes_rows, eX2_clashes_rents, eX2_clashes_roofs, eX2_clashes_traders, eX2_clashes_trades, eX2_clashes_fronts, eX2_clashes_limits, eX2_clashes_needy, eX2_clashes_clashes, eX2_clashes_covers, eX2_clashes_starts, eX2_clashes_standing, eX2_clashes_coversBusy, eX2_covers_pitches, eX2_covers_rows, eX2_covers_rents, eX2_covers_roofs, eX2_covers_traders, eX2_covers_trades, eX2_covers_fronts, eX2_covers_limits, eX2_covers_needy, eX2_covers_clashes, eX2_covers_covers, eX2_covers_starts, eX2_covers_standing, eX2_covers_coversBusy, eX2_starts_pitches, eX2_starts_rows, eX2_starts_rents, eX2_starts_roofs, eX2_starts_traders, eX2_starts_trades, eX2_starts_fronts, eX2_starts_limits, eX2_starts_needy, eX2_starts_clashes, eX2_starts_covers, eX2_starts_starts, eX2_starts_standing, eX2_starts_coversBusy, eX2_standing_pitches, eX2_standing_rows, eX2_standing_rents, eX2_standing_roofs, eX2_standing_traders, eX2_standing_trades, eX2_standing_fronts, eX2_standing_limits, eX2_standing_needy, eX2_standing_clashes, eX2_standing_covers, eX2_standing_starts, eX2_standing_standing, eX2_standing_coversBusy, eX2_coversBusy_pitches, eX2_coversBusy_rows, eX2_coversBusy_rents, eX2_coversBusy_roofs, eX2_coversBusy_traders, eX2_coversBusy_trades, eX2_coversBusy_fronts, eX2_coversBusy_limits, eX2_coversBusy_needy, eX2_coversBusy_clashes, eX2_coversBusy_covers, eX2_coversBusy_starts, eX2_coversBusy_standing, eX2_coversBusy_coversBusy] <;> assumption
theorem s_X2_unseatAll_2 (n : Nat) (hn : 100 ≤ n) : ∀ (fu : Nat) (x : Int) (b : BX2), W2 b → 0 ≤ x → x ≤ 8 → 0 < fu → pX2_traders b - x < fu → (∀ t, 0 ≤ t → t < x → pX2_starts b t = -1) → g_X2_unseatAll_2 n fu x b = some (mEmpty b) := by
  intro fu
  induction fu with
  | zero => intro x b _ _ _ h0; omega
  | succ fu ih =>
    intro x b hb x0 x8 _ hf hx
    have ht := hb.s.tra
    rw [g_X2_unseatAll_2.eq_2]
    by_cases hc : pX2_traders b ≤ x
    · rw [if_pos hc]
      refine congrArg some (W2_none hb ?_)
      intro t t0 t1
      by_cases h : t < x
      · exact hx t t0 h
      · cases hb.st t t0 t1 with
        | inl h => exact h
        | inr h => omega
    · rw [if_neg hc, s_X2_unseat hn hb x0 (by omega), oB_some, oR_ok (by omega) (by omega)]
      have hs := mUnseat_same b x
      have e : mEmpty (mUnseat b x) = mEmpty b := by
        obtain ⟨a1, a2, a3, a4, a5, a6, a7, a8, a9, a10, a11⟩ := hs
        unfold mEmpty
        apply X2_ext <;> simp only [eX2_pitches_pitches, eX2_pitches_rows, eX2_pitches_rents, eX2_pitches_roofs, eX2_pitches_traders, eX2_pitches_trades, eX2_pitches_fronts, eX2_pitches_limits, eX2_pitches_needy, eX2_pitches_clashes, eX2_pitches_covers, eX2_pitches_starts, eX2_pitches_standing, eX2_pitches_coversBusy, eX2_rows_pitches, eX2_rows_rows, eX2_rows_rents, eX2_rows_roofs, eX2_rows_traders, eX2_rows_trades, eX2_rows_fronts, eX2_rows_limits, eX2_rows_needy, eX2_rows_clashes, eX2_rows_covers, eX2_rows_starts, eX2_rows_standing, eX2_rows_coversBusy, eX2_rents_pitches, eX2_rents_rows, eX2_rents_rents, eX2_rents_roofs, eX2_rents_traders, eX2_rents_trades, eX2_rents_fronts, eX2_rents_limits, eX2_rents_needy, eX2_rents_clashes, eX2_rents_covers, eX2_rents_starts, eX2_rents_standing, eX2_rents_coversBusy, eX2_roofs_pitches, eX2_roofs_rows, eX2_roofs_rents, eX2_roofs_roofs, eX2_roofs_traders, eX2_roofs_trades, eX2_roofs_fronts, eX2_roofs_limits, eX2_roofs_needy, eX2_roofs_clashes, eX2_roofs_covers, eX2_roofs_starts, eX2_roofs_standing, eX2_roofs_coversBusy, eX2_traders_pitches, eX2_traders_rows, eX2_traders_rents, eX2_traders_roofs, eX2_traders_traders, eX2_traders_trades, eX2_traders_fronts, eX2_traders_limits, eX2_traders_needy, eX2_traders_clashes, eX2_traders_covers, eX2_traders_starts, eX2_traders_standing, eX2_traders_coversBusy, eX2_trades_pitches, eX2_trades_rows, eX2_trades_rents, eX2_trades_roofs, eX2_trades_traders, eX2_trades_trades, eX2_trades_fronts, eX2_trades_limits, eX2_trades_needy, eX2_trades_clashes, eX2_trades_covers, eX2_trades_starts, eX2_trades_standing, eX2_trades_coversBusy, eX2_fronts_pitches, eX2_fronts_rows, eX2_fronts_rents, eX2_fronts_roofs, eX2_fronts_traders, eX2_fronts_trades, eX2_fronts_fronts, eX2_fronts_limits, eX2_fronts_needy, eX2_fronts_clashes, eX2_fronts_covers, eX2_fronts_starts, eX2_fronts_standing, eX2_fronts_coversBusy, eX2_limits_pitches, eX2_limits_rows, eX2_limits_rents, eX2_limits_roofs, eX2_limits_traders, eX2_limits_trades, eX2_limits_fronts, eX2_limits_limits, eX2_limits_needy, eX2_limits_clashes, eX2_limits_covers, eX2_limits_starts, eX2_limits_standing, eX2_limits_coversBusy, eX2_needy_pitches, eX2_needy_rows, eX2_needy_rents, eX2_needy_roofs, eX2_needy_traders, eX2_needy_trades, eX2_needy_fronts, eX2_needy_limits, eX2_needy_needy, eX2_needy_clashes, eX2_needy_covers, eX2_needy_starts, eX2_needy_standing, eX2_needy_coversBusy, eX2_clashes_pitches, eX2_clashes_rows, eX2_clashes_rents, eX2_clashes_roofs, eX2_clashes_traders, eX2_clashes_trades, eX2_clashes_fronts, eX2_clashes_limits, eX2_clashes_needy, eX2_clashes_clashes, eX2_clashes_covers, eX2_clashes_starts, eX2_clashes_standing, eX2_clashes_coversBusy, eX2_covers_pitches, eX2_covers_rows, eX2_covers_rents, eX2_covers_roofs, eX2_covers_traders, eX2_covers_trades, eX2_covers_fronts, eX2_covers_limits, eX2_covers_needy, eX2_covers_clashes, eX2_covers_covers, eX2_covers_starts, eX2_covers_standing, eX2_covers_coversBusy, eX2_starts_pitches, eX2_starts_rows, eX2_starts_rents, eX2_starts_roofs, eX2_starts_traders, eX2_starts_trades, eX2_starts_fronts, eX2_starts_limits, eX2_starts_needy, eX2_starts_clashes, eX2_starts_covers, eX2_starts_starts, eX2_starts_standing, eX2_starts_coversBusy, eX2_standing_pitches, eX2_standing_rows, eX2_standing_rents, eX2_standing_roofs, eX2_standing_traders, eX2_standing_trades, eX2_standing_fronts, eX2_standing_limits, eX2_standing_needy, eX2_standing_clashes, eX2_standing_covers, eX2_standing_starts, eX2_standing_standing, eX2_standing_coversBusy, eX2_coversBusy_pitches, eX2_coversBusy_rows, eX2_coversBusy_rents, eX2_coversBusy_roofs, eX2_coversBusy_traders, eX2_coversBusy_trades, eX2_coversBusy_fronts, eX2_coversBusy_limits, eX2_coversBusy_needy, eX2_coversBusy_clashes, eX2_coversBusy_covers, eX2_coversBusy_starts, eX2_coversBusy_standing, eX2_coversBusy_coversBusy] <;> assumption
      rw [← e]
      refine ih (x + 1) _ (W2_unseat hb x0 (by omega)) (by omega) (by omega) (by omega) (by rw [hs.2.2.2.2.1]; omega) ?_
      intro t t0 t1
      rw [mUnseat_st (.inr trivial), updZ_app]
      by_cases h : t = x
      · rw [if_pos h]
      · rw [if_neg h]; exact hx t t0 (by omega)
theorem s_X2_unseatAll {n : Nat} (hn : 100 ≤ n) {b : BX2} (hb : W2 b) : g_X2_unseatAll n b = some (mEmpty b) := by
  have := hb.s.tra
  unfold g_X2_unseatAll
  exact s_X2_unseatAll_2 n hn n 0 b hb (by omega) (by omega) (by omega) (by omega) (fun t h1 h2 => by omega)
/-! sums over the traders -/
def mIncome (b : BX2) : Int := zr (fun t => if pX2_starts b t = -1 then 0 else mRent b t (pX2_starts b t)) 0 (pX2_traders b)
def mPlaced (b : BX2) : Int := zr (fun t => if pX2_starts b t = -1 then 0 else 1) 0 (pX2_traders b)
theorem s_X2_totalRent_4 (n : Nat) (hn : 100 ≤ n) {b : BX2} (hb : W2 b) : ∀ (fu : Nat) (x c : Int), 0 ≤ x → 0 < fu → pX2_traders b - x < fu → 0 ≤ c → c ≤ 3000 * x + 3000 → g_X2_totalRent_4 n fu c x b = some (c + zr (fun t => if pX2_starts b t = -1 then 0 else mRent b t (pX2_starts b t)) x (pX2_traders b)) := by
  have ht := hb.s.tra
  intro fu
  induction fu with
  | zero => intro x c _ h0; omega
  | succ fu ih =>
    intro x c x0 _ hf c0 c1
    rw [g_X2_totalRent_4.eq_2]
    unfold g_X2_totalRent_34
    by_cases hc : pX2_traders b ≤ x
    · rw [if_pos hc, zr_nil hc, Int.add_zero]
    · rw [if_neg hc, s_X2_isSeated b x0 (by omega), oB_some, zr_cons (by omega)]
      by_cases e : pX2_starts b x = -1
      · rw [zB_neg (fun h => h e), if_pos rfl, oR_ok (by omega) (by omega), ih _ _ (by omega) (by omega) (by omega) (by omega) (by omega)]
        simp only [e, if_true, Int.zero_add]
      · have h1 := hb.st x x0 (by omega)
        have hf := hb.s.fr x0 (by omega)
        have hp := hb.s.pit
        have hr := mRent_b hb.s x0 (by omega) (by omega : 0 ≤ pX2_starts b x)
        rw [zB_pos e, if_neg (by omega), qA_ok x0 (by omega) (by omega), s_X2_blockRent hn hb.s x0 (by omega) (by omega) (by omega), oB_some, oR_ok (by omega) (by omega), oL_def, oR_ok (by omega) (by omega), ih _ _ (by omega) (by omega) (by omega) (by omega) (by omega)]
        simp only [e, if_false, Int.add_assoc]
theorem s_X2_totalRent {n : Nat} (hn : 100 ≤ n) {b : BX2} (hb : W2 b) : g_X2_totalRent n b = some (mIncome b) := by
  have := hb.s.tra
  unfold g_X2_totalRent
  rw [s_X2_totalRent_4 n hn hb n 0 0 (by omega) (by omega) (by omega) (by omega) (by omega), Int.zero_add]
  rfl
theorem s_X2_countSeated_4 (n : Nat) {b : BX2} (hb : W2 b) : ∀ (fu : Nat) (x c : Int), 0 ≤ x → 0 < fu → pX2_traders b - x < fu → 0 ≤ c → c ≤ x + 1 → g_X2_countSeated_4 n fu c x b = some (c + zr (fun t => if pX2_starts b t = -1 then 0 else 1) x (pX2_traders b)) := by
  have ht := hb.s.tra
  intro fu
  induction fu with
  | zero => intro x c _ h0; omega
  | succ fu ih =>
    intro x c x0 _ hf c0 c1
    rw [g_X2_countSeated_4.eq_2]
    unfold g_X2_countSeated_23
    by_cases hc : pX2_traders b ≤ x
    · rw [if_pos hc, zr_nil hc, Int.add_zero]
    · rw [if_neg hc, s_X2_isSeated b x0 (by omega), oB_some, zr_cons (by omega)]
      by_cases e : pX2_starts b x = -1
      · rw [zB_neg (fun h => h e), if_pos rfl, oR_ok (by omega) (by omega), ih _ _ (by omega) (by omega) (by omega) (by omega) (by omega)]
        simp only [e, if_true, Int.zero_add]
      · rw [zB_pos e, if_neg (by omega), oR_ok (by omega) (by omega), oR_ok (by omega) (by omega), ih _ _ (by omega) (by omega) (by omega) (by omega) (by omega)]
        simp only [e, if_false, Int.add_assoc]
theorem s_X2_countSeated {n : Nat} (hn : 100 ≤ n) {b : BX2} (hb : W2 b) : g_X2_countSeated n b = some (mPlaced b) := by
  have := hb.s.tra
  unfold g_X2_countSeated
  rw [s_X2_countSeated_4 n hb n 0 0 (by omega) (by omega) (by omega) (by omega) (by omega), Int.zero_add]
  rfl
theorem mIncome_b {b : BX2} (hb : W2 b) : 0 ≤ mIncome b ∧ mIncome b ≤ 23976 := by
  have ht := hb.s.tra
  have := zr_bound (f := fun t => if pX2_starts b t = -1 then 0 else mRent b t (pX2_starts b t)) (l := 0) (u := 2997) ht.1 (fun i h1 h2 => by
    have h1' := hb.st i h1 (by omega)
    by_cases e : pX2_starts b i = -1
    · simp [e]
    · have hr := mRent_b hb.s h1 (by omega) (by omega : 0 ≤ pX2_starts b i)
      simp only [e, if_false]; omega)
  unfold mIncome
  omega
/-! the dearest start -/
noncomputable def mDear (b : BX2) (t lo : Int) : Nat → Int
  | 0 => -1
  | k + 1 => cif ((k : Int) ≠ lo ∧ mHind b t k = 0 ∧ (mDear b t lo k = -1 ∨ mRent b t (mDear b t lo k) < mRent b t k)) (k : Int) (mDear b t lo k)
theorem mDear_r (b : BX2) (t lo : Int) : ∀ k : Nat, mDear b t lo k = -1 ∨ (0 ≤ mDear b t lo k ∧ mDear b t lo k < k ∧ mDear b t lo k ≠ lo ∧ mHind b t (mDear b t lo k) = 0) := by
  intro k
  induction k with
  | zero => exact .inl rfl
  | succ k ih =>
    rw [mDear.eq_2]
    by_cases h : (k : Int) ≠ lo ∧ mHind b t k = 0 ∧ (mDear b t lo k = -1 ∨ mRent b t (mDear b t lo k) < mRent b t k)
    · rw [cif_pos h]; exact .inr ⟨by omega, by omega, h.1, h.2.1⟩
    · rw [cif_neg h]
      cases ih with
      | inl ih => exact .inl ih
      | inr ih => exact .inr ⟨by omega, by omega, ih.2.2⟩
def mDearM (b : BX2) (t s : Int) : Int := if s = -1 then 0 else mRent b t s
theorem s_X2_dearestStart_8 (n : Nat) (hn : 100 ≤ n) {b : BX2} (hb : W2 b) {t lo : Int} (t0 : 0 ≤ t) (t1 : t < pX2_traders b) : ∀ (fu k : Nat), (k : Int) ≤ pX2_pitches b → 0 < fu → pX2_pitches b - k < fu → g_X2_dearestStart_8 n fu t lo (mDear b t lo k) (mDearM b t (mDear b t lo k)) k b = some (mDear b t lo (pX2_pitches b).toNat) := by
  have hp := hb.s.pit
  have ht := hb.s.tra
  intro fu
  induction fu with
  | zero => intro k _ h0; omega
  | succ fu ih =>
    intro k k1 _ hf
    rw [g_X2_dearestStart_8.eq_2]
    unfold g_X2_dearestStart_56
    by_cases hc : pX2_pitches b ≤ k
    · rw [if_pos hc, show (pX2_pitches b).toNat = k by omega]
    · have hr := mRent_pos hb.s t0 t1 (by omega : (0 : Int) ≤ k) (by omega)
      have hd := mDear_r b t lo k
      have ih' := ih (k + 1) (by omega) (by omega) (by omega)
      rw [mDear.eq_2, show ((k + 1 : Nat) : Int) = (k : Int) + 1 by omega] at ih'
      rw [if_neg hc, s_X2_blockRent hn hb.s t0 t1 (by omega) (by omega), oB_some, oR_ok (by omega) (by omega)]
      by_cases h1 : mRent b t k ≤ mDearM b t (mDear b t lo k)
      · rw [if_pos h1]
        rw [cif_neg] at ih'
        · exact ih'
        · intro h
          unfold mDearM at h1
          by_cases h2 : mDear b t lo k = -1
          · rw [if_pos h2] at h1; omega
          · rw [if_neg h2] at h1; omega
      · rw [if_neg h1]
        by_cases h2 : (k : Int) = lo
        · rw [if_pos h2]
          rw [cif_neg (fun h => h.1 h2)] at ih'
          exact ih'
        · rw [if_neg h2, w_hind hn hb t0 t1 (by omega) (by omega), oB_some]
          by_cases h3 : mHind b t k = 0
          · rw [if_pos h3, oR_ok (by omega) (by omega)]
            rw [cif_pos] at ih'
            · unfold mDearM at ih'
              rw [if_neg (by omega)] at ih'
              exact ih'
            · refine ⟨h2, h3, ?_⟩
              unfold mDearM at h1
              by_cases h4 : mDear b t lo k = -1
              · exact .inl h4
              · rw [if_neg h4] at h1; right; omega
          · rw [if_neg h3]
            rw [cif_neg (fun h => h3 h.2.1)] at ih'
            exact ih'
noncomputable def mDearest (b : BX2) (t lo : Int) : Int := mDear b t lo (pX2_pitches b).toNat
theorem s_X2_dearestStart {n : Nat} (hn : 100 ≤ n) {b : BX2} (hb : W2 b) {t : Int} (lo : Int) (t0 : 0 ≤ t) (t1 : t < pX2_traders b) : g_X2_dearestStart n b t lo = some (mDearest b t lo) := by
  have hp := hb.s.pit
  unfold g_X2_dearestStart
  exact s_X2_dearestStart_8 n hn hb t0 t1 n 0 (by omega) (by omega) (by omega)
theorem mDearest_r {b : BX2} (hb : S2 b) (t lo : Int) : mDearest b t lo = -1 ∨ (0 ≤ mDearest b t lo ∧ mDearest b t lo < pX2_pitches b ∧ mDearest b t lo ≠ lo ∧ mHind b t (mDearest b t lo) = 0) := by
  have hp := hb.pit
  cases mDear_r b t lo (pX2_pitches b).toNat with
  | inl h => exact .inl h
  | inr h => right; unfold mDearest; exact ⟨h.1, by omega, h.2.2⟩
theorem s_X2_seatDearest {n : Nat} (hn : 100 ≤ n) {b : BX2} (hb : W2 b) {t : Int} (t0 : 0 ≤ t) (t1 : t < pX2_traders b) : g_X2_seatDearest n b t = some (if mDearest b t (-1) = -1 then b else mSeat b t (mDearest b t (-1))) := by
  have hp := hb.s.pit
  unfold g_X2_seatDearest
  rw [s_X2_dearestStart hn hb _ t0 t1, oB_some]
  by_cases h : mDearest b t (-1) = -1
  · rw [if_pos h, if_pos h]
  · have := mDearest_r hb.s t (-1)
    rw [if_neg h, if_neg h, s_X2_seat hn hb t0 t1 (by omega) (by omega), oB_some]
