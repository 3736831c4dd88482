/-! The reference's plans leave the edges as they are. -/
def Fr8 (r r' : BX6) : Prop := pX6_a r' = pX6_a r ∧ pX6_isEdge r' = pX6_isEdge r ∧ pX6_kept r' = pX6_kept r ∧ pX6_keptMany r' = pX6_keptMany r ∧ pX6_buffer r' = pX6_buffer r ∧ pX6_buffered r' = pX6_buffered r ∧ pX6_errorAt r' = pX6_errorAt r ∧ pX6_thrown r' = pX6_thrown r
theorem Fr8.rfl' (r : BX6) : Fr8 r r := ⟨rfl, rfl, rfl, rfl, rfl, rfl, rfl, rfl⟩
theorem Fr8.trans {r s t : BX6} (h : Fr8 r s) (k : Fr8 s t) : Fr8 r t := by
  obtain ⟨h1, h2, h3, h4, h5, h6, h7, h8⟩ := h
  obtain ⟨k1, k2, k3, k4, k5, k6, k7, k8⟩ := k
  exact ⟨k1.trans h1, k2.trans h2, k3.trans h3, k4.trans h4, k5.trans h5, k6.trans h6, k7.trans h7, k8.trans h8⟩
theorem Fr8.rentBy (r : BX6) (v : Int → Int) : Fr8 r (sX6_rentBy r v) := ⟨eX6_a_rentBy _ _, eX6_isEdge_rentBy _ _, eX6_kept_rentBy _ _, eX6_keptMany_rentBy _ _, eX6_buffer_rentBy _ _, eX6_buffered_rentBy _ _, eX6_errorAt_rentBy _ _, eX6_thrown_rentBy _ _⟩
theorem Fr8.bareBy (r : BX6) (v : Int → Int) : Fr8 r (sX6_bareBy r v) := ⟨eX6_a_bareBy _ _, eX6_isEdge_bareBy _ _, eX6_kept_bareBy _ _, eX6_keptMany_bareBy _ _, eX6_buffer_bareBy _ _, eX6_buffered_bareBy _ _, eX6_errorAt_bareBy _ _, eX6_thrown_bareBy _ _⟩
theorem Fr8.aheadBy (r : BX6) (v : Int → Int) : Fr8 r (sX6_aheadBy r v) := ⟨eX6_a_aheadBy _ _, eX6_isEdge_aheadBy _ _, eX6_kept_aheadBy _ _, eX6_keptMany_aheadBy _ _, eX6_buffer_aheadBy _ _, eX6_buffered_aheadBy _ _, eX6_errorAt_aheadBy _ _, eX6_thrown_aheadBy _ _⟩
theorem Fr8.best (r : BX6) (v : Int → Int) : Fr8 r (sX6_best r v) := ⟨eX6_a_best _ _, eX6_isEdge_best _ _, eX6_kept_best _ _, eX6_keptMany_best _ _, eX6_buffer_best _ _, eX6_buffered_best _ _, eX6_errorAt_best _ _, eX6_thrown_best _ _⟩
theorem Rb.fr8 {r r' : BX6} (h : Rb r r') : Fr8 r r' := by obtain ⟨v, rfl⟩ := h; exact Fr8.best _ _
theorem s8_lays74 {n : Nat} (hn : 100 ≤ n) (k2 : Int → BX6 → Option BX6) (k15 : Int → Int → BX6 → Option BX6) {b : BX2} {r : BX6} (hb : S2 b) (R : Rl b (pX6_a r)) {t p w : Int} (t0 : 0 ≤ t) (t1 : t < pX2_traders b) (p0 : 0 ≤ p) (p1 : p < pX2_pitches b) (hw : w = cif (mPos b t p) (mRent b t p) (-1)) (hM : LM b r t p) :
    ∃ r', g_X6_laysBlocks_74 n k2 k15 (24 * t + p) w t p (24 * t + p) r = k15 t (p + 1) r' ∧ Fr8 r r' ∧ LM b r' t (p + 1) := by
  have ht := hb.tra
  have hp := hb.pit
  have hf := hb.fr t0 t1
  have hr := mRent_b hb t0 t1 p0
  unfold g_X6_laysBlocks_74 g_X6_laysBlocks_131
  rw [qA_ok (by omega) (by omega) (by omega), oL_def, qA_ok (by omega) (by omega) (by omega), updZ_at, oR_ok (by omega) (by omega)]
  by_cases hpos : mPos b t p
  · have hl := mInRow_lt hpos.1
    rw [cif_pos hpos] at hw
    have R1 : Rl b (pX6_a (sX6_rentBy r (updZ (pX6_rentBy r) (24 * t + p) w))) := by rw [eX6_a_rentBy]; exact R
    rw [if_neg (by omega), s_X6_bare hn hb R1 t0 t1 p0 (by omega), oB_some, qA_ok (by omega) (by omega) (by omega), oL_def, qA_ok (by omega) (by omega) (by omega), R.fr t0 t1, oR_ok (by omega) (by omega)]
    have R2 : Rl b (pX6_a (sX6_bareBy (sX6_rentBy r (updZ (pX6_rentBy r) (24 * t + p) w)) (updZ (pX6_bareBy r) (24 * t + p) (mFor b t p)))) := by rw [eX6_a_bareBy]; exact R1
    rw [s_X6_isSameRow hb R2 t0 t1 hpos, oB_some]
    have fin : ∀ c, c = cif (mShare b (p + pX2_fronts b t - 1) (p + pX2_fronts b t)) t 8 → ∃ r', g_X6_laysBlocks_130 n k2 k15 (24 * t + p) c t p (sX6_bareBy (sX6_rentBy r (updZ (pX6_rentBy r) (24 * t + p) w)) (updZ (pX6_bareBy r) (24 * t + p) (mFor b t p))) = k15 t (p + 1) r' ∧ Fr8 r r' ∧ LM b r' t (p + 1) := by
      intro c hc
      unfold g_X6_laysBlocks_130 g_X6_laysBlocks_131
      rw [qA_ok (by omega) (by omega) (by omega), oL_def, oR_ok (by omega) (by omega)]
      refine ⟨_, rfl, ((Fr8.rentBy r _).trans (Fr8.bareBy _ _)).trans (Fr8.aheadBy _ _), ?_⟩
      intro u s u0 u1 s0 s1 hus
      unfold Lk
      rw [eX6_rentBy_aheadBy, eX6_rentBy_bareBy, eX6_rentBy_rentBy, eX6_bareBy_aheadBy, eX6_bareBy_bareBy, eX6_aheadBy_aheadBy, eX6_aheadBy_bareBy, eX6_aheadBy_rentBy]
      by_cases he : u = t ∧ s = p
      · obtain ⟨h1, h2⟩ := he
        subst h1 h2
        rw [updZ_at, updZ_at, updZ_at, cif_pos hpos]
        exact ⟨hw, fun _ => ⟨rfl, hc⟩⟩
      · rw [updZ_ne (by omega), updZ_ne (by omega), updZ_ne (by omega)]
        exact hM u s u0 u1 s0 s1 (by omega)
    by_cases hsh : mShare b (p + pX2_fronts b t - 1) (p + pX2_fronts b t)
    · rw [zB_pos hsh, if_neg (by omega)]; exact fin t (by rw [cif_pos hsh])
    · rw [zB_neg hsh, if_pos rfl]; exact fin 8 (by rw [cif_neg hsh])
  · rw [cif_neg hpos] at hw
    rw [if_pos hw]
    refine ⟨_, rfl, Fr8.rentBy r _, ?_⟩
    intro u s u0 u1 s0 s1 hus
    unfold Lk
    rw [eX6_rentBy_rentBy, eX6_bareBy_rentBy, eX6_aheadBy_rentBy]
    by_cases he : u = t ∧ s = p
    · obtain ⟨h1, h2⟩ := he
      subst h1 h2
      rw [updZ_at, cif_neg hpos]
      exact ⟨hw, fun k => absurd k hpos⟩
    · rw [updZ_ne (by omega)]
      exact hM u s u0 u1 s0 s1 (by omega)
theorem s8_laysBlocks_15 (n : Nat) (hn : 100 ≤ n) (k2 : Int → BX6 → Option BX6) {b : BX2} (hb : S2 b) {t : Int} (t0 : 0 ≤ t) (t1 : t < pX2_traders b) : ∀ (fu : Nat) (p : Int) (r : BX6), Rl b (pX6_a r) → 0 ≤ p → p ≤ pX2_pitches b → 0 < fu → pX2_pitches b - p < fu → LM b r t p →
    ∃ r', g_X6_laysBlocks_15 n k2 fu t p r = k2 (t + 1) r' ∧ Fr8 r r' ∧ LM b r' (t + 1) 0 := by
  have ht := hb.tra
  have hp := hb.pit
  intro fu
  induction fu with
  | zero => intro p r _ _ _ h0; omega
  | succ fu ih =>
    intro p r R p0 p1 _ hf hM
    have hfr := hb.fr t0 t1
    rw [g_X6_laysBlocks_15.eq_2, qA_ok (by omega) (by omega) (by omega), R.pit]
    by_cases hc : pX2_pitches b ≤ p
    · rw [if_pos hc, oR_ok (by omega) (by omega)]
      exact ⟨r, rfl, Fr8.rfl' r, fun u s u0 u1 s0 s1 h => hM u s u0 u1 s0 s1 (by omega)⟩
    · have step : ∀ w, w = cif (mPos b t p) (mRent b t p) (-1) → ∃ r', g_X6_laysBlocks_74 n k2 (g_X6_laysBlocks_15 n k2 fu) (24 * t + p) w t p (24 * t + p) r = k2 (t + 1) r' ∧ Fr8 r r' ∧ LM b r' (t + 1) 0 := by
        intro w hw
        obtain ⟨r1, g1, g2, g3⟩ := s8_lays74 hn k2 (g_X6_laysBlocks_15 n k2 fu) hb R t0 t1 p0 (by omega) hw hM
        obtain ⟨r', h1, h2, h3⟩ := ih (p + 1) r1 (by rw [g2.1]; exact R) (by omega) (by omega) (by omega) (by omega) g3
        exact ⟨r', by rw [g1, h1], g2.trans h2, h3⟩
      rw [if_neg hc, oR_ok (by omega) (by omega), oL_def, s_X6_isRoom hb R t0 t1 p0 (by omega), oB_some]
      unfold g_X6_laysBlocks_73
      by_cases a1 : mInRow b t p
      · have hl := mInRow_lt a1
        rw [zB_pos a1, if_neg (by omega), s_X6_rentOf hn hb R t0 t1 p0 (by omega), oB_some, qA_ok (by omega) (by omega) (by omega), R.lim t0 t1]
        by_cases a2 : mRent b t p ≤ pX2_limits b t
        · rw [if_neg (by omega), oB_some]; exact step _ (by rw [cif_pos ⟨a1, a2⟩])
        · rw [if_pos (by omega)]; exact step _ (by rw [cif_neg (fun h => a2 h.2)])
      · rw [zB_neg a1, if_pos rfl]; exact step _ (by rw [cif_neg (fun h => a1 h.1)])
theorem s8_laysBlocks_2 (n : Nat) (hn : 100 ≤ n) {b : BX2} (hb : S2 b) : ∀ (fu : Nat) (t : Int) (r : BX6), Rl b (pX6_a r) → 0 ≤ t → t ≤ pX2_traders b → 0 < fu → pX2_traders b - t < fu → LM b r t 0 →
    ∃ r', g_X6_laysBlocks_2 n fu t r = some r' ∧ Fr8 r r' ∧ LM b r' (pX2_traders b) 0 := by
  have ht := hb.tra
  have hp := hb.pit
  intro fu
  induction fu with
  | zero => intro t r _ _ _ h0; omega
  | succ fu ih =>
    intro t r R t0 t1 _ hf hM
    rw [g_X6_laysBlocks_2.eq_2, qA_ok (by omega) (by omega) (by omega), R.tra]
    by_cases hc : pX2_traders b ≤ t
    · rw [if_pos hc]; exact ⟨r, rfl, Fr8.rfl' r, by rw [show pX2_traders b = t by omega]; exact hM⟩
    · rw [if_neg hc]
      obtain ⟨r1, g1, g2, g3⟩ := s8_laysBlocks_15 n hn (g_X6_laysBlocks_2 n fu) hb t0 (by omega) n 0 r R (by omega) (by omega) (by omega) (by omega) hM
      obtain ⟨r', h1, h2, h3⟩ := ih (t + 1) r1 (by rw [g2.1]; exact R) (by omega) (by omega) (by omega) (by omega) g3
      exact ⟨r', by rw [g1, h1], g2.trans h2, h3⟩
theorem s8_laysBlocks {n : Nat} (hn : 100 ≤ n) {b : BX2} {r : BX6} (hb : S2 b) (R : Rl b (pX6_a r)) : ∃ r', g_X6_laysBlocks n r = some r' ∧ Fr8 r r' ∧ (∀ t p, 0 ≤ t → t < pX2_traders b → 0 ≤ p → p < pX2_pitches b → Lk b r' t p) := by
  have ht := hb.tra
  unfold g_X6_laysBlocks
  obtain ⟨r', h1, h2, h3⟩ := s8_laysBlocks_2 n hn hb n 0 r R (by omega) (by omega) (by omega) (by omega) (fun u s u0 u1 s0 s1 h => by omega)
  exact ⟨r', h1, h2, fun t p t0 t1 p0 p1 => h3 t p t0 t1 p0 p1 (by omega)⟩
theorem s8_plans {n : Nat} (hn : 1000 ≤ n) {b : BX2} {r : BX6} (hb : S2 b) (R : Rl b (pX6_a r)) {c : Int} (c0 : 0 ≤ c) (hc5 : c ≤ 5) :
    ∃ r', g_X6_plans n r c = some (opt b 0 0 0 c / 16, r') ∧ Fr8 r r' ∧ (∀ p', 0 ≤ p' → p' ≤ pX2_pitches b → BestOK b c r' p') ∧ (∀ t p, 0 ≤ t → t < pX2_traders b → 0 ≤ p → p < pX2_pitches b → Lk b r' t p) := by
  have ht := hb.tra
  have hp := hb.pit
  have sb := sets_b hb
  unfold g_X6_plans
  obtain ⟨r1, g1, g2, g3⟩ := s8_laysBlocks (n := n) (by omega) hb R
  have R1 : Rl b (pX6_a r1) := by rw [g2.1]; exact R
  rw [g1, oB_some, qA_ok (by omega) (by omega) (by omega), oL_def, qA_ok (by omega) (by omega) (by omega), oL_def, R1.pit, R1.tra]
  obtain ⟨r2, h1, h2, h3, _⟩ := s_X6_plans_24 n (by omega) (c := c) (P := pX2_pitches b) (S := zShl 1 (pX2_traders b)) c0 hc5 hp sb.2 n 0 r1 (by omega) (by omega) (by omega) (by omega)
  rw [h1]
  obtain ⟨r3, j1, j2, j3⟩ := s_X6_plans_88 n hn hb c0 hc5 n (pX2_pitches b - 1) r2 (by rw [h2.eqs.1]; exact R1) (fun t p t0 t1 p0 p1 => h2.lk (g3 t p t0 t1 p0 p1)) (fun p' a b' => by
    have : p' = pX2_pitches b := by omega
    subst this
    intro u h l d1 d2 k e1 e2
    have hbd := hOK_b hb k
    rw [h3 u h l d1 d2 hbd.1 hbd.2 e1 e2, opt_end (Int.le_refl _)]) (by omega) (by omega) (by omega)
  exact ⟨r3, j1, (g2.trans h2.fr8).trans j2.fr8, j3, fun t p t0 t1 p0 p1 => j2.lk (h2.lk (g3 t p t0 t1 p0 p1))⟩
