/-! A market (BX2): what its methods answer. -/
def nz (m : Int) (v : Int → Int) : Prop := ∀ i, (i < 0 ∨ m ≤ i) → v i = 0
theorem nz_ext {m : Int} {v w : Int → Int} (hv : nz m v) (hw : nz m w) (h : ∀ i, 0 ≤ i → i < m → v i = w i) : v = w := by
  funext i
  by_cases h1 : i < 0 ∨ m ≤ i
  · rw [hv i h1, hw i h1]
  · exact h i (by omega) (by omega)
theorem nz_upd {m : Int} {v : Int → Int} {k x : Int} (hv : nz m v) (h0 : 0 ≤ k) (h1 : k < m) : nz m (updZ v k x) := by
  intro i hi; rw [updZ_ne (by omega)]; exact hv i hi
theorem X2_ext {a b : BX2} (h1 : pX2_pitches a = pX2_pitches b) (h2 : pX2_rows a = pX2_rows b) (h3 : pX2_rents a = pX2_rents b) (h4 : pX2_roofs a = pX2_roofs b) (h5 : pX2_traders a = pX2_traders b) (h6 : pX2_trades a = pX2_trades b) (h7 : pX2_fronts a = pX2_fronts b) (h8 : pX2_limits a = pX2_limits b) (h9 : pX2_needy a = pX2_needy b) (h10 : pX2_clashes a = pX2_clashes b) (h11 : pX2_covers a = pX2_covers b) (h12 : pX2_starts a = pX2_starts b) (h13 : pX2_standing a = pX2_standing b) (h14 : pX2_coversBusy a = pX2_coversBusy b) : a = b := by
  obtain ⟨a1, a2, a3, a4, a5, a6, a7, a8, a9, a10, a11, a12, a13, a14⟩ := a
  obtain ⟨b1, b2, b3, b4, b5, b6, b7, b8, b9, b10, b11, b12, b13, b14⟩ := b
  simp only [pX2_pitches, pX2_rows, pX2_rents, pX2_roofs, pX2_traders, pX2_trades, pX2_fronts, pX2_limits, pX2_needy, pX2_clashes, pX2_covers, pX2_starts, pX2_standing, pX2_coversBusy] at *
  subst h1 h2 h3 h4 h5 h6 h7 h8 h9 h10 h11 h12 h13 h14
  rfl
/-! the street alone: ranges (no placement) -/
def S2 (b : BX2) : Prop :=
  (0 ≤ pX2_pitches b ∧ pX2_pitches b ≤ 24) ∧ (0 ≤ pX2_traders b ∧ pX2_traders b ≤ 8) ∧ (0 ≤ pX2_covers b ∧ pX2_covers b ≤ 4) ∧
  (∀ p, 0 ≤ p → p < pX2_pitches b → 1 ≤ pX2_rents b p ∧ pX2_rents b p ≤ 999) ∧
  (∀ p, pX2_roofs b p = 0 ∨ pX2_roofs b p = 1) ∧
  (∀ t, 0 ≤ t → t < pX2_traders b → (0 ≤ pX2_trades b t ∧ pX2_trades b t ≤ 7) ∧ (1 ≤ pX2_fronts b t ∧ pX2_fronts b t ≤ 3) ∧ (1 ≤ pX2_limits b t ∧ pX2_limits b t ≤ 9999)) ∧
  (∀ t, pX2_needy b t = 0 ∨ pX2_needy b t = 1) ∧
  (∀ i, 0 ≤ pX2_clashes b i ∧ pX2_clashes b i ≤ 255) ∧
  (nz 24 (pX2_rows b) ∧ nz 24 (pX2_rents b) ∧ nz 24 (pX2_roofs b) ∧ nz 8 (pX2_trades b) ∧ nz 8 (pX2_fronts b) ∧ nz 8 (pX2_limits b) ∧ nz 8 (pX2_needy b) ∧ nz 8 (pX2_clashes b) ∧ nz 8 (pX2_starts b) ∧ nz 24 (pX2_standing b))
theorem S2.pit {b : BX2} (h : S2 b) : 0 ≤ pX2_pitches b ∧ pX2_pitches b ≤ 24 := h.1
theorem S2.tra {b : BX2} (h : S2 b) : 0 ≤ pX2_traders b ∧ pX2_traders b ≤ 8 := h.2.1
theorem S2.cov {b : BX2} (h : S2 b) : 0 ≤ pX2_covers b ∧ pX2_covers b ≤ 4 := h.2.2.1
theorem S2.rent {b : BX2} (h : S2 b) : ∀ p, 0 ≤ p → p < pX2_pitches b → 1 ≤ pX2_rents b p ∧ pX2_rents b p ≤ 999 := h.2.2.2.1
theorem S2.roof {b : BX2} (h : S2 b) : ∀ p, pX2_roofs b p = 0 ∨ pX2_roofs b p = 1 := h.2.2.2.2.1
theorem S2.trd {b : BX2} (h : S2 b) : ∀ t, 0 ≤ t → t < pX2_traders b → (0 ≤ pX2_trades b t ∧ pX2_trades b t ≤ 7) ∧ (1 ≤ pX2_fronts b t ∧ pX2_fronts b t ≤ 3) ∧ (1 ≤ pX2_limits b t ∧ pX2_limits b t ≤ 9999) := h.2.2.2.2.2.1
theorem S2.fr {b : BX2} (h : S2 b) {t : Int} (h0 : 0 ≤ t) (h1 : t < pX2_traders b) : 1 ≤ pX2_fronts b t ∧ pX2_fronts b t ≤ 3 := (h.trd t h0 h1).2.1
theorem S2.need {b : BX2} (h : S2 b) : ∀ t, pX2_needy b t = 0 ∨ pX2_needy b t = 1 := h.2.2.2.2.2.2.1
theorem S2.cla {b : BX2} (h : S2 b) : ∀ i, 0 ≤ pX2_clashes b i ∧ pX2_clashes b i ≤ 255 := h.2.2.2.2.2.2.2.1
theorem S2.nrm {b : BX2} (h : S2 b) : nz 24 (pX2_rows b) ∧ nz 24 (pX2_rents b) ∧ nz 24 (pX2_roofs b) ∧ nz 8 (pX2_trades b) ∧ nz 8 (pX2_fronts b) ∧ nz 8 (pX2_limits b) ∧ nz 8 (pX2_needy b) ∧ nz 8 (pX2_clashes b) ∧ nz 8 (pX2_starts b) ∧ nz 24 (pX2_standing b) := h.2.2.2.2.2.2.2.2
/-! copyFrom -/
theorem cpyZ_nz {m : Int} {v w : Int → Int} (hv : nz m v) (hw : nz m w) : cpyZ v w 0 0 m = v := by
  funext i
  unfold cpyZ
  by_cases hi : 0 ≤ i ∧ i < 0 + m
  · rw [if_pos hi]; exact congrArg v (by omega)
  · rw [if_neg hi, hv i (by omega), hw i (by omega)]
theorem s_X2_copyFrom_119 (n : Nat) {o : BX2} (ho : S2 o) : ∀ (fu : Nat) (x : Int) (b : BX2), 0 ≤ x → x ≤ 8 → 8 - x < fu → S2 b → (∀ i, 0 ≤ i → i < x → pX2_needy b i = pX2_needy o i) →
    g_X2_copyFrom_119 n fu x b o = some (sX2_coversBusy (sX2_standing (sX2_starts (sX2_covers (sX2_clashes (sX2_needy b (pX2_needy o)) (pX2_clashes o)) (pX2_covers o)) (pX2_starts o)) (pX2_standing o)) (pX2_coversBusy o)) := by
  intro fu
  induction fu with
  | zero => intro x b h0 h8 hf; omega
  | succ fu ih =>
    intro x b h0 h8 hf hb hi
    rw [g_X2_copyFrom_119.eq_2]
    by_cases hx : 8 ≤ x
    · rw [if_pos hx, oL_def, oL_def, oL_def, cpyZ_nz ho.nrm.2.2.2.2.2.2.2.1 hb.nrm.2.2.2.2.2.2.2.1, cpyZ_nz ho.nrm.2.2.2.2.2.2.2.2.1 hb.nrm.2.2.2.2.2.2.2.2.1, cpyZ_nz ho.nrm.2.2.2.2.2.2.2.2.2 hb.nrm.2.2.2.2.2.2.2.2.2]
      have : pX2_needy b = pX2_needy o := nz_ext hb.nrm.2.2.2.2.2.2.1 ho.nrm.2.2.2.2.2.2.1 (fun i h1 h2 => hi i h1 (by omega))
      rw [← this]; rfl
    · rw [if_neg hx, qA_ok h0 (by omega) (by omega), qA_ok h0 (by omega) (by omega), oL_def, oR_ok (by omega) (by omega), zNb_b (ho.need x), ih (x + 1) _ (by omega) (by omega) (by omega)]
      · rfl
      · obtain ⟨a1, a2, a3, a4, a5, a6, a7, a8, b1, b2, b3, b4, b5, b6, b7, b8, b9, b10⟩ := hb
        refine ⟨a1, a2, a3, a4, a5, a6, ?_, a8, b1, b2, b3, b4, b5, b6, nz_upd b7 h0 (by omega), b8, b9, b10⟩
        intro t
        show updZ _ _ _ t = 0 ∨ updZ _ _ _ t = 1
        rw [updZ_app]
        split
        · exact ho.need x
        · exact a7 t
      · intro i h1 h2
        show updZ (pX2_needy b) x (pX2_needy o x) i = pX2_needy o i
        rw [updZ_app]
        split
        · rename_i h; rw [h]
        · exact hi i h1 (by omega)
theorem s_X2_copyFrom_40 (n : Nat) (hn : 100 ≤ n) {o : BX2} (ho : S2 o) : ∀ (fu : Nat) (x : Int) (b : BX2), 0 ≤ x → x ≤ 24 → 24 - x < fu → S2 b → (∀ i, 0 ≤ i → i < x → pX2_roofs b i = pX2_roofs o i) → pX2_pitches b = pX2_pitches o → pX2_rows b = pX2_rows o → pX2_rents b = pX2_rents o →
    g_X2_copyFrom_40 n fu x b o = some o := by
  intro fu
  induction fu with
  | zero => intro x b h0 h8 hf; omega
  | succ fu ih =>
    intro x b h0 h8 hf hb hi e1 e2 e3
    rw [g_X2_copyFrom_40.eq_2]
    by_cases hx : 24 ≤ x
    · rw [if_pos hx, oL_def, oL_def, oL_def, cpyZ_nz ho.nrm.2.2.2.1 hb.nrm.2.2.2.1, cpyZ_nz ho.nrm.2.2.2.2.1 hb.nrm.2.2.2.2.1, cpyZ_nz ho.nrm.2.2.2.2.2.1 hb.nrm.2.2.2.2.2.1]
      have e4 : pX2_roofs b = pX2_roofs o := nz_ext hb.nrm.2.2.1 ho.nrm.2.2.1 (fun i h1 h2 => hi i h1 (by omega))
      rw [s_X2_copyFrom_119 n ho n 0 _ (by omega) (by omega) (by omega) _ (fun i h1 h2 => by omega)]
      · refine congrArg some ?_
        apply X2_ext <;> simp only [eX2_pitches_pitches, eX2_pitches_rows, eX2_pitches_rents, eX2_pitches_roofs, eX2_pitches_traders, eX2_pitches_trades, eX2_pitches_fronts, eX2_pitches_limits, eX2_pitches_needy, eX2_pitches_clashes, eX2_pitches_covers, eX2_pitches_starts, eX2_pitches_standing, eX2_pitches_coversBusy, eX2_rows_pitches, eX2_rows_rows, eX2_rows_rents, eX2_rows_roofs, eX2_rows_traders, eX2_rows_trades, eX2_rows_fronts, eX2_rows_limits, eX2_rows_needy, eX2_rows_clashes, eX2_rows_covers, eX2_rows_starts, eX2_rows_standing, eX2_rows_coversBusy, eX2_rents_pitches, eX2_rents_rows, eX2_rents_rents, eX2_rents_roofs, eX2_rents_traders, eX2_rents_trades, eX2_rents_fronts, eX2_rents_limits, eX2_rents_needy, eX2_rents_clashes, eX2_rents_covers, eX2_rents_starts, eX2_rents_standing, eX2_rents_coversBusy, eX2_roofs_pitches, eX2_roofs_rows, eX2_roofs_rents, eX2_roofs_roofs, eX2_roofs_traders, eX2_roofs_trades, eX2_roofs_fronts, eX2_roofs_limits, eX2_roofs_needy, eX2_roofs_clashes, eX2_roofs_covers, eX2_roofs_starts, eX2_roofs_standing, eX2_roofs_coversBusy, eX2_traders_pitches, eX2_traders_rows, eX2_traders_rents, eX2_traders_roofs, eX2_traders_traders, eX2_traders_trades, eX2_traders_fronts, eX2_traders_limits, eX2_traders_needy, eX2_traders_clashes, eX2_traders_covers, eX2_traders_starts, eX2_traders_standing, eX2_traders_coversBusy, eX2_trades_pitches, eX2_trades_rows, eX2_trades_rents, eX2_trades_roofs, eX2_trades_traders, eX2_trades_trades, eX2_trades_fronts, eX2_trades_limits, eX2_trades_needy, eX2_trades_clashes, eX2_trades_covers, eX2_trades_starts, eX2_trades_standing, eX2_trades_coversBusy, eX2_fronts_pitches, eX2_fronts_rows, eX2_fronts_rents, eX2_fronts_roofs, eX2_fronts_traders, eX2_fronts_trades, eX2_fronts_fronts, eX2_fronts_limits, eX2_fronts_needy, eX2_fronts_clashes, eX2_fronts_covers, eX2_fronts_starts, eX2_fronts_standing, eX2_fronts_coversBusy, eX2_limits_pitches, eX2_limits_rows, eX2_limits_rents, eX2_limits_roofs, eX2_limits_traders, eX2_limits_trades, eX2_limits_fronts, eX2_limits_limits, eX2_limits_needy, eX2_limits_clashes, eX2_limits_covers, eX2_limits_starts, eX2_limits_standing, eX2_limits_coversBusy, eX2_needy_pitches, eX2_needy_rows, eX2_needy_rents, eX2_needy_roofs, eX2_needy_traders, eX2_needy_trades, eX2_needy_fronts, eX2_needy_limits, eX2_needy_needy, eX2_needy_clashes, eX2_needy_covers, eX2_needy_starts, eX2_needy_standing, eX2_needy_coversBusy, eX2_clashes_pitches, eX2_clashes_rows, eX2_clashes_rents, eX2_clashes_roofs, eX2_clashes_traders, eX2_clashes_trades, eX2_clashes_fronts, eX2_clashes_limits, eX2_clashes_needy, eX2_clashes_clashes, eX2_clashes_covers, eX2_clashes_starts, eX2_clashes_standing, eX2_clashes_coversBusy, eX2_covers_pitches, eX2_covers_rows, eX2_covers_rents, eX2_covers_roofs, eX2_covers_traders, eX2_covers_trades, eX2_covers_fronts, eX2_covers_limits, eX2_covers_needy, eX2_covers_clashes, eX2_covers_covers, eX2_covers_starts, eX2_covers_standing, eX2_covers_coversBusy, eX2_starts_pitches, eX2_starts_rows, eX2_starts_rents, eX2_starts_roofs, eX2_starts_traders, eX2_starts_trades, eX2_starts_fronts, eX2_starts_limits, eX2_starts_needy, eX2_starts_clashes, eX2_starts_covers, eX2_starts_starts, eX2_starts_standing, eX2_starts_coversBusy, eX2_standing_pitches, eX2_standing_rows, eX2_standing_rents, eX2_standing_roofs, eX2_standing_traders, eX2_standing_trades, eX2_standing_fronts, eX2_standing_limits, eX2_standing_needy, eX2_standing_clashes, eX2_standing_covers, eX2_standing_starts, eX2_standing_standing, eX2_standing_coversBusy, eX2_coversBusy_pitches, eX2_coversBusy_rows, eX2_coversBusy_rents, eX2_coversBusy_roofs, eX2_coversBusy_traders, eX2_coversBusy_trades, eX2_coversBusy_fronts, eX2_coversBusy_limits, eX2_coversBusy_needy, eX2_coversBusy_clashes, eX2_coversBusy_covers, eX2_coversBusy_starts, eX2_coversBusy_standing, eX2_coversBusy_coversBusy] <;> assumption
      · obtain ⟨a1, a2, a3, a4, a5, a6, a7, a8, b1, b2, b3, b4, b5, b6, b7, b8, b9, b10⟩ := hb
        exact ⟨a1, ho.tra, a3, a4, a5, ho.trd, a7, a8, b1, b2, b3, ho.nrm.2.2.2.1, ho.nrm.2.2.2.2.1, ho.nrm.2.2.2.2.2.1, b7, b8, b9, b10⟩
    · rw [if_neg hx, qA_ok h0 (by omega) (by omega), qA_ok h0 (by omega) (by omega), oL_def, oR_ok (by omega) (by omega), zNb_b (ho.roof x)]
      refine ih (x + 1) _ (by omega) (by omega) (by omega) ?_ ?_ e1 e2 e3
      · obtain ⟨a1, a2, a3, a4, a5, a6, a7, a8, b1, b2, b3, b4, b5, b6, b7, b8, b9, b10⟩ := hb
        refine ⟨a1, a2, a3, a4, ?_, a6, a7, a8, b1, b2, nz_upd b3 h0 (by omega), b4, b5, b6, b7, b8, b9, b10⟩
        intro t
        show updZ _ _ _ t = 0 ∨ updZ _ _ _ t = 1
        rw [updZ_app]
        split
        · exact ho.roof x
        · exact a5 t
      · intro i h1 h2
        show updZ (pX2_roofs b) x (pX2_roofs o x) i = pX2_roofs o i
        rw [updZ_app]
        split
        · rename_i h; rw [h]
        · exact hi i h1 (by omega)
theorem s_X2_copyFrom {n : Nat} (hn : 100 ≤ n) {b o : BX2} (hb : S2 b) (ho : S2 o) : g_X2_copyFrom n b o = some o := by
  unfold g_X2_copyFrom
  rw [oL_def, oL_def, cpyZ_nz ho.nrm.1 hb.nrm.1, cpyZ_nz ho.nrm.2.1 hb.nrm.2.1]
  refine s_X2_copyFrom_40 n hn ho n 0 _ (by omega) (by omega) (by omega) ?_ (fun i h1 h2 => by omega) rfl rfl rfl
  obtain ⟨a1, a2, a3, a4, a5, a6, a7, a8, b1, b2, b3, b4, b5, b6, b7, b8, b9, b10⟩ := hb
  exact ⟨ho.pit, a2, a3, ho.rent, a5, a6, a7, a8, ho.nrm.1, ho.nrm.2.1, b3, b4, b5, b6, b7, b8, b9, b10⟩
