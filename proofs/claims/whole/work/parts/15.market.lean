/-! Comparing, sides, shelters, and the changes of a market. -/
def mBefore (v w : Int → Int) (x e : Int) : Prop := ∃ p, x ≤ p ∧ p < e ∧ (∀ q, x ≤ q → q < p → v q = w q) ∧ v p ≠ w p ∧ (w p = -1 ∨ (v p ≠ -1 ∧ v p < w p))
theorem s_X2_comesBefore_2 (n : Nat) {b o : BX2} (hb : S2 b) : ∀ (fu : Nat) (x : Int), 0 ≤ x → 0 < fu → pX2_pitches b - x < fu → g_X2_comesBefore_2 n fu x b o = some (zB (mBefore (pX2_standing b) (pX2_standing o) x (pX2_pitches b))) := by
  have hp := hb.pit
  intro fu
  induction fu with
  | zero => intro x _ h0; omega
  | succ fu ih =>
    intro x x0 _ hf
    rw [g_X2_comesBefore_2.eq_2]
    unfold g_X2_comesBefore_48
    by_cases hc : pX2_pitches b ≤ x
    · rw [if_pos hc, zB_neg]; rintro ⟨p, h1, h2, _⟩; omega
    · rw [if_neg hc, qA_ok x0 (by omega) (by omega), oL_def, qA_ok x0 (by omega) (by omega), oL_def]
      by_cases e : pX2_standing b x = pX2_standing o x
      · rw [if_pos e, oR_ok (by omega) (by omega), ih _ (by omega) (by omega) (by omega)]
        refine congrArg some (zB_congr ⟨?_, ?_⟩)
        · rintro ⟨p, h1, h2, h3, h4⟩
          refine ⟨p, by omega, h2, fun q q1 q2 => ?_, h4⟩
          by_cases hq : q = x
          · rw [hq]; exact e
          · exact h3 q (by omega) q2
        · rintro ⟨p, h1, h2, h3, h4⟩
          have : p ≠ x := by intro h; rw [h] at h4; exact h4.1 e
          exact ⟨p, by omega, h2, fun q q1 q2 => h3 q (by omega) q2, h4⟩
      · rw [if_neg e]
        have key : mBefore (pX2_standing b) (pX2_standing o) x (pX2_pitches b) ↔ (pX2_standing o x = -1 ∨ (pX2_standing b x ≠ -1 ∧ pX2_standing b x < pX2_standing o x)) := by
          constructor
          · rintro ⟨p, h1, h2, h3, h4, h5⟩
            by_cases hpx : p = x
            · rw [hpx] at h5; exact h5
            · exact absurd (h3 x (by omega) (by omega)) e
          · intro h; exact ⟨x, by omega, by omega, fun q q1 q2 => by omega, e, h⟩
        rw [zB_congr key]
        by_cases e1 : pX2_standing o x = -1
        · rw [if_pos e1, zB_pos (.inl e1)]
        · rw [if_neg e1]
          by_cases e2 : pX2_standing b x = -1
          · rw [if_pos e2, zB_neg]; rintro (h | h)
            · exact e1 h
            · exact h.1 e2
          · rw [if_neg e2]
            by_cases e3 : pX2_standing o x ≤ pX2_standing b x
            · rw [if_pos e3, zB_neg]; rintro (h | h)
              · exact e1 h
              · omega
            · rw [if_neg e3, zB_pos]; exact .inr ⟨e2, by omega⟩
theorem s_X2_comesBefore {n : Nat} (hn : 100 ≤ n) {b o : BX2} (hb : S2 b) : g_X2_comesBefore n b o = some (zB (mBefore (pX2_standing b) (pX2_standing o) 0 (pX2_pitches b))) := by
  have := hb.pit
  unfold g_X2_comesBefore
  exact s_X2_comesBefore_2 n hb n 0 (by omega) (by omega) (by omega)
def mPair (a b c d : Int) : Prop := (a = c ∧ b = d) ∨ (a = d ∧ b = c)
theorem s_X2_isPair (a b c d : Int) : g_X2_isPair a b c d = some (zB (mPair a b c d)) := by
  unfold g_X2_isPair g_X2_isPair_10 g_X2_isPair_20 mPair
  by_cases h1 : a = c
  · by_cases h2 : b = d
    · rw [if_pos h1, if_pos h2, zB_pos (.inl ⟨h1, h2⟩)]
    · rw [if_pos h1, if_neg h2]
      by_cases h3 : a = d
      · by_cases h4 : b = c
        · rw [if_pos h3, if_pos h4, zB_pos (.inr ⟨h3, h4⟩)]
        · rw [if_pos h3, if_neg h4, zB_neg]; simp [h2, h4]
      · rw [if_neg h3, zB_neg]; simp [h2, h3]
  · rw [if_neg h1]
    by_cases h3 : a = d
    · by_cases h4 : b = c
      · rw [if_pos h3, if_pos h4, zB_pos (.inr ⟨h3, h4⟩)]
      · rw [if_pos h3, if_neg h4, zB_neg]; simp [h1, h4]
    · rw [if_neg h3, zB_neg]; simp [h1, h3]
def mSide (b : BX2) (c d x : Int) : Prop := ∃ p, x ≤ p ∧ p + 1 < pX2_pitches b ∧ pX2_standing b p ≠ pX2_standing b (p + 1) ∧ pX2_standing b p ≠ -1 ∧ pX2_standing b (p + 1) ≠ -1 ∧ pX2_rows b p = pX2_rows b (p + 1) ∧ mPair (pX2_trades b (pX2_standing b p)) (pX2_trades b (pX2_standing b (p + 1))) c d
theorem s_X2_standSideBySide_2 (n : Nat) {b : BX2} (hb : W2 b) (c d : Int) : ∀ (fu : Nat) (x : Int), 0 ≤ x → x ≤ 24 → 0 < fu → pX2_pitches b - x < fu → g_X2_standSideBySide_2 n fu c d x b = some (zB (mSide b c d x)) := by
  have hp := hb.s.pit
  have ht := hb.s.tra
  intro fu
  induction fu with
  | zero => intro x _ _ h0; omega
  | succ fu ih =>
    intro x x0 x24 _ hf
    rw [g_X2_standSideBySide_2.eq_2]
    unfold g_X2_standSideBySide_84
    rw [oR_ok (by omega) (by omega)]
    by_cases hc : pX2_pitches b ≤ x + 1
    · rw [if_pos hc, zB_neg]; rintro ⟨p, h1, h2, _⟩; omega
    · rw [if_neg hc, qA_ok x0 (by omega) (by omega), oL_def, qA_ok (by omega) (by omega) (by omega), oL_def, oR_ok (by omega) (by omega), ih _ (by omega) (by omega) (by omega) (by omega)]
      have key : ¬ (pX2_standing b x ≠ pX2_standing b (x + 1) ∧ pX2_standing b x ≠ -1 ∧ pX2_standing b (x + 1) ≠ -1 ∧ pX2_rows b x = pX2_rows b (x + 1) ∧ mPair (pX2_trades b (pX2_standing b x)) (pX2_trades b (pX2_standing b (x + 1))) c d) → some (zB (mSide b c d (x + 1))) = some (zB (mSide b c d x)) := by
        intro h
        refine congrArg some (zB_congr ⟨?_, ?_⟩)
        · rintro ⟨p, h1, h2⟩; exact ⟨p, by omega, h2⟩
        · rintro ⟨p, h1, h2⟩
          by_cases hx : p = x
          · rw [hx] at h2; exact absurd h2.2 h
          · exact ⟨p, by omega, h2⟩
      by_cases e1 : pX2_standing b x = pX2_standing b (x + 1)
      · rw [if_pos e1]; exact key (fun h => h.1 e1)
      · rw [if_neg e1]
        by_cases e2 : pX2_standing b x = -1
        · rw [if_pos e2]; exact key (fun h => h.2.1 e2)
        · rw [if_neg e2]
          by_cases e3 : pX2_standing b (x + 1) = -1
          · rw [if_pos e3]; exact key (fun h => h.2.2.1 e3)
          · rw [if_neg e3, s_X2_shareRow hb.s, oB_some]
            by_cases e4 : mShare b x (x + 1)
            · have r1 := hb.std x x0 (by omega)
              have r2 := hb.std (x + 1) (by omega) (by omega)
              rw [zB_pos e4, if_neg (by omega), qA_ok (by omega) (by omega) (by omega), qA_ok (by omega) (by omega) (by omega), s_X2_isPair, oB_some]
              by_cases e5 : mPair (pX2_trades b (pX2_standing b x)) (pX2_trades b (pX2_standing b (x + 1))) c d
              · rw [zB_pos e5, if_neg (by omega), zB_pos]
                exact ⟨x, by omega, by omega, e1, e2, e3, e4.2.2.2, e5⟩
              · rw [zB_neg e5, if_pos rfl]; exact key (fun h => e5 h.2.2.2.2)
            · rw [zB_neg e4, if_pos rfl]
              refine key (fun h => e4 ?_)
              exact ⟨by omega, by omega, by omega, h.2.2.2.1⟩
theorem s_X2_standSideBySide {n : Nat} (hn : 100 ≤ n) {b : BX2} (hb : W2 b) (c d : Int) : g_X2_standSideBySide n b c d = some (zB (mSide b c d 0)) := by
  have := hb.s.pit
  unfold g_X2_standSideBySide
  exact s_X2_standSideBySide_2 n hb c d n 0 (by omega) (by omega) (by omega) (by omega)
theorem s_X2_hasPitch (b : BX2) (p : Int) : g_X2_hasPitch b p = some (zB (0 ≤ p ∧ p < pX2_pitches b)) := by
  unfold g_X2_hasPitch
  by_cases h1 : p < 0
  · rw [if_pos h1, zB_neg (by omega)]
  · rw [if_neg h1]
    by_cases h2 : pX2_pitches b ≤ p
    · rw [if_pos h2, zB_neg (by omega)]
    · rw [if_neg h2, zB_pos (by omega)]
theorem s_X2_hasTrader (b : BX2) (p : Int) : g_X2_hasTrader b p = some (zB (0 ≤ p ∧ p < pX2_traders b)) := by
  unfold g_X2_hasTrader
  by_cases h1 : p < 0
  · rw [if_pos h1, zB_neg (by omega)]
  · rw [if_neg h1]
    by_cases h2 : pX2_traders b ≤ p
    · rw [if_pos h2, zB_neg (by omega)]
    · rw [if_neg h2, zB_pos (by omega)]
theorem s_X2_isSheltered {n : Nat} (hn : 100 ≤ n) {b : BX2} (hb : W2 b) {t : Int} (t0 : 0 ≤ t) (t1 : t < pX2_traders b) (hs : pX2_starts b t ≠ -1) : g_X2_isSheltered n b t = some (zB (pX2_needy b t = 1 ∨ mOpen b t (pX2_starts b t) = 0)) := by
  have ht := hb.s.tra
  have hp := hb.s.pit
  have h1 := hb.st t t0 (by omega)
  have hf := hb.s.fr t0 t1
  have hnd := hb.s.need t
  unfold g_X2_isSheltered g_X2_isSheltered_23
  rw [qA_ok t0 (by omega) (by omega)]
  by_cases e : pX2_needy b t = 0
  · rw [if_pos e, qA_ok t0 (by omega) (by omega), s_X2_openPitches hn hb.s t0 t1 (by omega) (by omega), oB_some]
    by_cases e2 : mOpen b t (pX2_starts b t) = 0
    · rw [if_pos e2, zB_pos (.inr e2)]
    · rw [if_neg e2, zB_neg]; omega
  · rw [if_neg e, zB_pos (.inl (by omega))]
theorem s_X2_areClashing (b : BX2) {i j : Int} (i0 : 0 ≤ i) (i1 : i < 8) : g_X2_areClashing b i j = some (zB (zbit (pX2_clashes b i) j)) := by
  unfold g_X2_areClashing
  rw [qA_ok i0 i1 (by omega), ite_zB']
  rfl
def mAddPitch (b : BX2) (row rent roof : Int) : BX2 := sX2_roofs (sX2_rents (sX2_rows (sX2_pitches b (pX2_pitches b + 1)) (updZ (pX2_rows b) (pX2_pitches b) row)) (updZ (pX2_rents b) (pX2_pitches b) rent)) (updZ (pX2_roofs b) (pX2_pitches b) roof)
theorem s_X2_addPitch {b : BX2} (hb : S2 b) {row rent roof : Int} (hr : roof = 0 ∨ roof = 1) (hp : pX2_pitches b < 24) : g_X2_addPitch b row rent roof = some (mAddPitch b row rent roof) := by
  have := hb.pit
  unfold g_X2_addPitch mAddPitch
  rw [if_neg (by omega), qA_ok (by omega) (by omega) (by omega), oL_def, qA_ok (by omega) (by omega) (by omega), oL_def, qA_ok (by omega) (by omega) (by omega), oL_def, oR_ok (by omega) (by omega), oL_def, zNb_b hr]
def mEnrol (b : BX2) (trade front limit needy : Int) : BX2 := sX2_needy (sX2_limits (sX2_fronts (sX2_trades (sX2_traders b (pX2_traders b + 1)) (updZ (pX2_trades b) (pX2_traders b) trade)) (updZ (pX2_fronts b) (pX2_traders b) front)) (updZ (pX2_limits b) (pX2_traders b) limit)) (updZ (pX2_needy b) (pX2_traders b) needy)
theorem s_X2_enrol {b : BX2} (hb : S2 b) {trade front limit needy : Int} (hr : needy = 0 ∨ needy = 1) (hp : pX2_traders b < 8) : g_X2_enrol b trade front limit needy = some (mEnrol b trade front limit needy) := by
  have := hb.tra
  unfold g_X2_enrol mEnrol
  rw [if_neg (by omega), qA_ok (by omega) (by omega) (by omega), oL_def, qA_ok (by omega) (by omega) (by omega), oL_def, qA_ok (by omega) (by omega) (by omega), oL_def, qA_ok (by omega) (by omega) (by omega), oL_def, oR_ok (by omega) (by omega), oL_def, zNb_b hr]
def mPut (b : BX2) (i j on : Int) : BX2 :=
  if on = 0 then sX2_clashes b (updZ (updZ (pX2_clashes b) i (zAnd (pX2_clashes b i) (zXor (zShl 1 j) (-1)))) j (zAnd (updZ (pX2_clashes b) i (zAnd (pX2_clashes b i) (zXor (zShl 1 j) (-1))) j) (zXor (zShl 1 i) (-1))))
  else sX2_clashes b (updZ (updZ (pX2_clashes b) i (zOr (pX2_clashes b i) (zShl 1 j))) j (zOr (updZ (pX2_clashes b) i (zOr (pX2_clashes b i) (zShl 1 j)) j) (zShl 1 i)))
theorem s_X2_putClash (b : BX2) {i j : Int} (on : Int) (i0 : 0 ≤ i) (i1 : i < 8) (j0 : 0 ≤ j) (j1 : j < 8) : g_X2_putClash b i j on = some (mPut b i j on) := by
  unfold g_X2_putClash mPut
  rw [qA_ok i0 i1 (by omega), qA_ok i0 i1 (by omega), oL_def, qA_ok j0 j1 (by omega), qA_ok j0 j1 (by omega), oL_def, qA_ok i0 i1 (by omega), qA_ok i0 i1 (by omega), oL_def, qA_ok j0 j1 (by omega), qA_ok j0 j1 (by omega), oL_def]
  split <;> rfl
def mWipe (b : BX2) : BX2 := sX2_clashes (sX2_covers (sX2_traders (sX2_pitches (mEmpty b) 0) 0) 0) (fun _ => 0)
theorem s_X2_wipe_21 (n : Nat) : ∀ (fu : Nat) (x : Int) (b : BX2), 0 ≤ x → x ≤ 8 → 8 - x < fu → nz 8 (pX2_clashes b) → (∀ i, 0 ≤ i → i < x → pX2_clashes b i = 0) → g_X2_wipe_21 n fu x b = some (sX2_clashes b (fun _ => 0)) := by
  intro fu
  induction fu with
  | zero => intro x b _ h0; omega
  | succ fu ih =>
    intro x b x0 x8 hf hz hi
    rw [g_X2_wipe_21.eq_2]
    by_cases hx : 8 ≤ x
    · rw [if_pos hx]
      have : pX2_clashes b = fun _ => 0 := nz_ext hz (fun _ _ => rfl) (fun i h1 h2 => hi i h1 (by omega))
      rw [← this]; rfl
    · rw [if_neg hx, qA_ok x0 (by omega) (by omega), oL_def, oR_ok (by omega) (by omega), ih (x + 1) _ (by omega) (by omega) (by omega)]
      · rfl
      · exact nz_upd hz x0 (by omega)
      · intro i h1 h2
        show updZ (pX2_clashes b) x 0 i = 0
        rw [updZ_app]; split
        · rfl
        · exact hi i h1 (by omega)
theorem s_X2_wipe {n : Nat} (hn : 100 ≤ n) {b : BX2} (hb : W2 b) : g_X2_wipe n b = some (mWipe b) := by
  unfold g_X2_wipe mWipe
  rw [s_X2_unseatAll hn hb, oB_some]
  exact s_X2_wipe_21 n n 0 _ (by omega) (by omega) (by omega) hb.s.nrm.2.2.2.2.2.2.2.1 (fun i h1 h2 => by omega)
