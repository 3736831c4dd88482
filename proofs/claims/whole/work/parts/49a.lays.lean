/-! The reference's blocks. -/
def Lk (b : BX2) (r : BX6) (t p : Int) : Prop :=
  pX6_rentBy r (24 * t + p) = cif (mPos b t p) (mRent b t p) (-1) ∧
  (mPos b t p → pX6_bareBy r (24 * t + p) = mFor b t p ∧ pX6_aheadBy r (24 * t + p) = cif (mShare b (p + pX2_fronts b t - 1) (p + pX2_fronts b t)) t 8)
def LM (b : BX2) (r : BX6) (t p : Int) : Prop := ∀ u s, 0 ≤ u → u < pX2_traders b → 0 ≤ s → s < pX2_pitches b → (u < t ∨ (u = t ∧ s < p)) → Lk b r u s
theorem s_X6_isSameRow {b : BX2} {r : BX6} (hb : S2 b) (R : Rl b (pX6_a r)) {t p : Int} (t0 : 0 ≤ t) (t1 : t < pX2_traders b) (h : mPos b t p) : g_X6_isSameRow r p (p + pX2_fronts b t) = some (zB (mShare b (p + pX2_fronts b t - 1) (p + pX2_fronts b t))) := by
  have hp := hb.pit
  have hf := hb.fr t0 t1
  have hl := mInRow_lt h.1
  have hr := h.1.2.2.2
  unfold g_X6_isSameRow
  rw [qA_ok (by omega) (by omega) (by omega), R.pit]
  by_cases hc : pX2_pitches b ≤ p + pX2_fronts b t
  · rw [if_pos hc, zB_neg (fun k => by unfold mShare at k; omega)]
  · rw [if_neg hc, qA_ok (by omega) (by omega) (by omega), qA_ok (by omega) (by omega) (by omega), R.row (by omega) (by omega), R.row (by omega) (by omega), ite_zB]
    refine congrArg some (zB_congr ⟨fun k => ⟨by omega, by omega, by omega, by rw [← hr]; exact k⟩, fun k => by rw [hr]; exact k.2.2.2⟩)
theorem Fr6.rentBy (r : BX6) (v : Int → Int) : Fr6 r (sX6_rentBy r v) := ⟨eX6_a_rentBy _ _, eX6_kept_rentBy _ _, eX6_keptMany_rentBy _ _, eX6_buffer_rentBy _ _, eX6_buffered_rentBy _ _, eX6_errorAt_rentBy _ _, eX6_thrown_rentBy _ _⟩
theorem Fr6.bareBy (r : BX6) (v : Int → Int) : Fr6 r (sX6_bareBy r v) := ⟨eX6_a_bareBy _ _, eX6_kept_bareBy _ _, eX6_keptMany_bareBy _ _, eX6_buffer_bareBy _ _, eX6_buffered_bareBy _ _, eX6_errorAt_bareBy _ _, eX6_thrown_bareBy _ _⟩
theorem Fr6.aheadBy (r : BX6) (v : Int → Int) : Fr6 r (sX6_aheadBy r v) := ⟨eX6_a_aheadBy _ _, eX6_kept_aheadBy _ _, eX6_keptMany_aheadBy _ _, eX6_buffer_aheadBy _ _, eX6_buffered_aheadBy _ _, eX6_errorAt_aheadBy _ _, eX6_thrown_aheadBy _ _⟩
theorem Fr6.best (r : BX6) (v : Int → Int) : Fr6 r (sX6_best r v) := ⟨eX6_a_best _ _, eX6_kept_best _ _, eX6_keptMany_best _ _, eX6_buffer_best _ _, eX6_buffered_best _ _, eX6_errorAt_best _ _, eX6_thrown_best _ _⟩
theorem s_X6_lays74 {n : Nat} (hn : 100 ≤ n) (k2 : Int → BX6 → Option BX6) (k15 : Int → Int → BX6 → Option BX6) {b : BX2} {r : BX6} (hb : S2 b) (R : Rl b (pX6_a r)) {t p w : Int} (t0 : 0 ≤ t) (t1 : t < pX2_traders b) (p0 : 0 ≤ p) (p1 : p < pX2_pitches b) (hw : w = cif (mPos b t p) (mRent b t p) (-1)) (hM : LM b r t p) :
    ∃ r', g_X6_laysBlocks_74 n k2 k15 (24 * t + p) w t p (24 * t + p) r = k15 t (p + 1) r' ∧ Fr6 r r' ∧ LM b r' t (p + 1) := by
  have ht := hb.tra
  have hp := hb.pit
  have hf := hb.fr t0 t1
  have hr := mRent_b hb t0 t1 p0
  unfold g_X6_laysBlocks_74 g_X6_laysBlocks_131
  rw [qA_ok (by omega) (by omega) (by omega), oL_def, qA_ok (by omega) (by omega) (by omega), updZ_at, oR_ok (by omega) (by omega)]
  by_cases hpos : mPos b t p
  · have hl := mInRow_lt hpos.1
    rw [cif_pos hpos] at hw
    have R1 : Rl b (pX6_a (sX6_rentBy r (updZ (pX6_rentBy r) (24 * t + p) w))) := by rw [eX6_a_rentBy]; exact R
    rw [if_neg (by omega), s_X6_bare hn hb R1 t0 t1 p0 (by omega), oB_some, qA_ok (by omega) (by omega) (by omega), oL_def, qA_ok (by omega) (by omega) (by omega), R.fr t0 t1, oR_ok (by omega) (by omega)]
    have R2 : Rl b (pX6_a (sX6_bareBy (sX6_rentBy r (updZ (pX6_rentBy r) (24 * t + p) w)) (updZ (pX6_bareBy r) (24 * t + p) (mFor b t p)))) := by rw [eX6_a_bareBy]; exact R1
    rw [s_X6_isSameRow hb R2 t0 t1 hpos, oB_some]
    have fin : ∀ c, c = cif (mShare b (p + pX2_fronts b t - 1) (p + pX2_fronts b t)) t 8 → ∃ r', g_X6_laysBlocks_130 n k2 k15 (24 * t + p) c t p (sX6_bareBy (sX6_rentBy r (updZ (pX6_rentBy r) (24 * t + p) w)) (updZ (pX6_bareBy r) (24 * t + p) (mFor b t p))) = k15 t (p + 1) r' ∧ Fr6 r r' ∧ LM b r' t (p + 1) := by
      intro c hc
      unfold g_X6_laysBlocks_130 g_X6_laysBlocks_131
      rw [qA_ok (by omega) (by omega) (by omega), oL_def, oR_ok (by omega) (by omega)]
      refine ⟨_, rfl, ((Fr6.rentBy r _).trans (Fr6.bareBy _ _)).trans (Fr6.aheadBy _ _), ?_⟩
      intro u s u0 u1 s0 s1 hus
      unfold Lk
      rw [eX6_rentBy_aheadBy, eX6_rentBy_bareBy, eX6_rentBy_rentBy, eX6_bareBy_aheadBy, eX6_bareBy_bareBy, eX6_aheadBy_aheadBy, eX6_aheadBy_bareBy, eX6_aheadBy_rentBy]
      by_cases he : u = t ∧ s = p
      · obtain ⟨h1, h2⟩ := he
        subst h1 h2
        rw [updZ_at, updZ_at, updZ_at, cif_pos hpos]
        exact ⟨hw, fun _ => ⟨rfl, hc⟩⟩
      · rw [updZ_ne (by omega), updZ_ne (by omega), updZ_ne (by omega)]
        exact hM u s u0 u1 s0 s1 (by omega)
    by_cases hsh : mShare b (p + pX2_fronts b t - 1) (p + pX2_fronts b t)
    · rw [zB_pos hsh, if_neg (by omega)]; exact fin t (by rw [cif_pos hsh])
    · rw [zB_neg hsh, if_pos rfl]; exact fin 8 (by rw [cif_neg hsh])
  · rw [cif_neg hpos] at hw
    rw [if_pos hw]
    refine ⟨_, rfl, Fr6.rentBy r _, ?_⟩
    intro u s u0 u1 s0 s1 hus
    unfold Lk
    rw [eX6_rentBy_rentBy, eX6_bareBy_rentBy, eX6_aheadBy_rentBy]
    by_cases he : u = t ∧ s = p
    · obtain ⟨h1, h2⟩ := he
      subst h1 h2
      rw [updZ_at, cif_neg hpos]
      exact ⟨hw, fun k => absurd k hpos⟩
    · rw [updZ_ne (by omega)]
      exact hM u s u0 u1 s0 s1 (by omega)
theorem s_X6_laysBlocks_15 (n : Nat) (hn : 100 ≤ n) (k2 : Int → BX6 → Option BX6) {b : BX2} (hb : S2 b) {t : Int} (t0 : 0 ≤ t) (t1 : t < pX2_traders b) : ∀ (fu : Nat) (p : Int) (r : BX6), Rl b (pX6_a r) → 0 ≤ p → p ≤ pX2_pitches b → 0 < fu → pX2_pitches b - p < fu → LM b r t p →
    ∃ r', g_X6_laysBlocks_15 n k2 fu t p r = k2 (t + 1) r' ∧ Fr6 r r' ∧ LM b r' (t + 1) 0 := by
  have ht := hb.tra
  have hp := hb.pit
  intro fu
  induction fu with
  | zero => intro p r _ _ _ h0; omega
  | succ fu ih =>
    intro p r R p0 p1 _ hf hM
    have hfr := hb.fr t0 t1
    rw [g_X6_laysBlocks_15.eq_2, qA_ok (by omega) (by omega) (by omega), R.pit]
    by_cases hc : pX2_pitches b ≤ p
    · rw [if_pos hc, oR_ok (by omega) (by omega)]
      exact ⟨r, rfl, Fr6.rfl' r, fun u s u0 u1 s0 s1 h => hM u s u0 u1 s0 s1 (by omega)⟩
    · have step : ∀ w, w = cif (mPos b t p) (mRent b t p) (-1) → ∃ r', g_X6_laysBlocks_74 n k2 (g_X6_laysBlocks_15 n k2 fu) (24 * t + p) w t p (24 * t + p) r = k2 (t + 1) r' ∧ Fr6 r r' ∧ LM b r' (t + 1) 0 := by
        intro w hw
        obtain ⟨r1, g1, g2, g3⟩ := s_X6_lays74 hn k2 (g_X6_laysBlocks_15 n k2 fu) hb R t0 t1 p0 (by omega) hw hM
        obtain ⟨r', h1, h2, h3⟩ := ih (p + 1) r1 (by rw [g2.1]; exact R) (by omega) (by omega) (by omega) (by omega) g3
        exact ⟨r', by rw [g1, h1], g2.trans h2, h3⟩
      rw [if_neg hc, oR_ok (by omega) (by omega), oL_def, s_X6_isRoom hb R t0 t1 p0 (by omega), oB_some]
      unfold g_X6_laysBlocks_73
      by_cases a1 : mInRow b t p
      · have hl := mInRow_lt a1
        rw [zB_pos a1, if_neg (by omega), s_X6_rentOf hn hb R t0 t1 p0 (by omega), oB_some, qA_ok (by omega) (by omega) (by omega), R.lim t0 t1]
        by_cases a2 : mRent b t p ≤ pX2_limits b t
        · rw [if_neg (by omega), oB_some]; exact step _ (by rw [cif_pos ⟨a1, a2⟩])
        · rw [if_pos (by omega)]; exact step _ (by rw [cif_neg (fun h => a2 h.2)])
      · rw [zB_neg a1, if_pos rfl]; exact step _ (by rw [cif_neg (fun h => a1 h.1)])
theorem s_X6_laysBlocks_2 (n : Nat) (hn : 100 ≤ n) {b : BX2} (hb : S2 b) : ∀ (fu : Nat) (t : Int) (r : BX6), Rl b (pX6_a r) → 0 ≤ t → t ≤ pX2_traders b → 0 < fu → pX2_traders b - t < fu → LM b r t 0 →
    ∃ r', g_X6_laysBlocks_2 n fu t r = some r' ∧ Fr6 r r' ∧ LM b r' (pX2_traders b) 0 := by
  have ht := hb.tra
  have hp := hb.pit
  intro fu
  induction fu with
  | zero => intro t r _ _ _ h0; omega
  | succ fu ih =>
    intro t r R t0 t1 _ hf hM
    rw [g_X6_laysBlocks_2.eq_2, qA_ok (by omega) (by omega) (by omega), R.tra]
    by_cases hc : pX2_traders b ≤ t
    · rw [if_pos hc]; exact ⟨r, rfl, Fr6.rfl' r, by rw [show pX2_traders b = t by omega]; exact hM⟩
    · rw [if_neg hc]
      obtain ⟨r1, g1, g2, g3⟩ := s_X6_laysBlocks_15 n hn (g_X6_laysBlocks_2 n fu) hb t0 (by omega) n 0 r R (by omega) (by omega) (by omega) (by omega) hM
      obtain ⟨r', h1, h2, h3⟩ := ih (t + 1) r1 (by rw [g2.1]; exact R) (by omega) (by omega) (by omega) (by omega) g3
      exact ⟨r', by rw [g1, h1], g2.trans h2, h3⟩
theorem s_X6_laysBlocks {n : Nat} (hn : 100 ≤ n) {b : BX2} {r : BX6} (hb : S2 b) (R : Rl b (pX6_a r)) : ∃ r', g_X6_laysBlocks n r = some r' ∧ Fr6 r r' ∧ (∀ t p, 0 ≤ t → t < pX2_traders b → 0 ≤ p → p < pX2_pitches b → Lk b r' t p) := by
  have ht := hb.tra
  unfold g_X6_laysBlocks
  obtain ⟨r', h1, h2, h3⟩ := s_X6_laysBlocks_2 n hn hb n 0 r R (by omega) (by omega) (by omega) (by omega) (fun u s u0 u1 s0 s1 h => by omega)
  exact ⟨r', h1, h2, fun t p t0 t1 p0 p1 => h3 t p t0 t1 p0 p1 (by omega)⟩
