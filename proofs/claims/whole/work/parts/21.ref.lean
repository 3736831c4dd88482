/-! The dearest start, sides, shelter; keeping and undoing. -/
theorem s_X6_takesStart_4 (n : Nat) (hn : 100 ≤ n) {b : BX2} {r : BX6} (hb : W2 b) (R : Rl b (pX6_a r)) {t : Int} (t0 : 0 ≤ t) (t1 : t < pX2_traders b) : ∀ (fu k : Nat), (k : Int) ≤ pX2_pitches b → 0 < fu → pX2_pitches b - k < fu → g_X6_takesStart_4 n fu t (mDear b t (-1) k) k r = some (mDear b t (-1) (pX2_pitches b).toNat) := by
  have hp := hb.s.pit
  have ht := hb.s.tra
  intro fu
  induction fu with
  | zero => intro k _ h0; omega
  | succ fu ih =>
    intro k k1 _ hf
    rw [g_X6_takesStart_4.eq_2]
    unfold g_X6_takesStart_43 g_X6_takesStart_45
    rw [qA_ok (by omega) (by omega) (by omega), R.pit]
    by_cases hc : pX2_pitches b ≤ k
    · rw [if_pos hc, show (pX2_pitches b).toNat = k by omega]
    · have hd := mDear_r b t (-1) k
      have ih' := ih (k + 1) (by omega) (by omega) (by omega)
      rw [mDear.eq_2, show ((k + 1 : Nat) : Int) = (k : Int) + 1 by omega] at ih'
      rw [if_neg hc, s_X6_hinders hn hb R t0 t1 (by omega) (by omega), oB_some, oR_ok (by omega) (by omega)]
      by_cases h1 : mHind b t k = 0
      · rw [if_pos h1]
        have hk := mInRow_lt (mHind_0.1 h1).2.1
        by_cases h2 : mDear b t (-1) k = -1
        · rw [if_pos h2]
          rw [cif_pos ⟨by omega, h1, .inl h2⟩] at ih'
          exact ih'
        · have hd2 : mHind b t (mDear b t (-1) k) = 0 := by
            cases hd with
            | inl h => exact absurd h h2
            | inr h => exact h.2.2.2
          have hk2 := mInRow_lt (mHind_0.1 hd2).2.1
          rw [if_neg h2, s_X6_rentOf hn hb.s R t0 t1 (by omega) (by omega), oB_some, s_X6_rentOf hn hb.s R t0 t1 (by omega) (by omega), oB_some]
          by_cases h3 : mRent b t k ≤ mRent b t (mDear b t (-1) k)
          · rw [if_pos h3]
            rw [cif_neg] at ih'
            · rw [oR_ok (by omega) (by omega)]; exact ih'
            · intro h; omega
          · rw [if_neg h3]
            rw [cif_pos ⟨by omega, h1, .inr (by omega)⟩] at ih'
            exact ih'
      · rw [if_neg h1]
        rw [cif_neg (fun h => h1 h.2.1)] at ih'
        rw [oR_ok (by omega) (by omega)]; exact ih'
theorem s_X6_takesStart {n : Nat} (hn : 100 ≤ n) {b : BX2} {r : BX6} (hb : W2 b) (R : Rl b (pX6_a r)) {t : Int} (t0 : 0 ≤ t) (t1 : t < pX2_traders b) : g_X6_takesStart n r t = some (mDearest b t (-1)) := by
  have hp := hb.s.pit
  unfold g_X6_takesStart
  exact s_X6_takesStart_4 n hn hb R t0 t1 n 0 (by omega) (by omega) (by omega)
theorem s_X6_areBeside_2 (n : Nat) (hn : 100 ≤ n) {b : BX2} {r : BX6} (hb : W2 b) (R : Rl b (pX6_a r)) (c d : Int) : ∀ (fu : Nat) (x : Int), 0 ≤ x → x ≤ 24 → 0 < fu → pX2_pitches b - x < fu → g_X6_areBeside_2 n fu c d x r = some (zB (mSide b c d x)) := by
  have hp := hb.s.pit
  have ht := hb.s.tra
  intro fu
  induction fu with
  | zero => intro x _ _ h0; omega
  | succ fu ih =>
    intro x x0 x24 _ hf
    rw [g_X6_areBeside_2.eq_2, qA_ok (by omega) (by omega) (by omega), R.pit, oR_ok (by omega) (by omega)]
    unfold g_X6_areBeside_133
    by_cases hc : pX2_pitches b ≤ x + 1
    · rw [if_pos hc, zB_neg]; rintro ⟨p, h1, h2, _⟩; omega
    · rw [if_neg hc, s_X6_on hn hb R x0 (by omega), oB_some, s_X6_on hn hb R (by omega) (by omega), oB_some, qA_ok (by omega) (by omega) (by omega), qA_ok (by omega) (by omega) (by omega), show 50 + x + 1 = 50 + (x + 1) by omega, R.row x0 (by omega), R.row (by omega) (by omega), oR_ok (by omega) (by omega), ih _ (by omega) (by omega) (by omega) (by omega)]
      have key : ¬ (pX2_standing b x ≠ pX2_standing b (x + 1) ∧ pX2_standing b x ≠ -1 ∧ pX2_standing b (x + 1) ≠ -1 ∧ pX2_rows b x = pX2_rows b (x + 1) ∧ mPair (pX2_trades b (pX2_standing b x)) (pX2_trades b (pX2_standing b (x + 1))) c d) → some (zB (mSide b c d (x + 1))) = some (zB (mSide b c d x)) := by
        intro h
        refine congrArg some (zB_congr ⟨?_, ?_⟩)
        · rintro ⟨p, h1, h2⟩; exact ⟨p, by omega, h2⟩
        · rintro ⟨p, h1, h2⟩
          by_cases hx : p = x
          · rw [hx] at h2; exact absurd h2.2 h
          · exact ⟨p, by omega, h2⟩
      by_cases e0 : pX2_rows b x = pX2_rows b (x + 1)
      · rw [if_pos e0]
        by_cases e2 : pX2_standing b x = -1
        · rw [if_pos e2]; exact key (fun h => h.2.1 e2)
        · rw [if_neg e2]
          by_cases e3 : pX2_standing b (x + 1) = -1
          · rw [if_pos e3]; exact key (fun h => h.2.2.1 e3)
          · rw [if_neg e3]
            by_cases e1 : pX2_standing b x = pX2_standing b (x + 1)
            · rw [if_pos e1]; exact key (fun h => h.1 e1)
            · have r1 := hb.std x x0 (by omega)
              have r2 := hb.std (x + 1) (by omega) (by omega)
              rw [if_neg e1, qA_ok (by omega) (by omega) (by omega), R.trd (by omega) (by omega), qA_ok (by omega) (by omega) (by omega), R.trd (by omega) (by omega)]
              unfold g_X6_areBeside_103 g_X6_areBeside_133
              rw [qA_ok (by omega) (by omega) (by omega), R.trd (by omega) (by omega), qA_ok (by omega) (by omega) (by omega), R.trd (by omega) (by omega), oR_ok (by omega) (by omega), ih _ (by omega) (by omega) (by omega) (by omega)]
              have fin : mPair (pX2_trades b (pX2_standing b x)) (pX2_trades b (pX2_standing b (x + 1))) c d → some 1 = some (zB (mSide b c d x)) := by
                intro h
                rw [zB_pos]
                exact ⟨x, by omega, by omega, e1, e2, e3, e0, h⟩
              by_cases f1 : pX2_trades b (pX2_standing b x) = c
              · rw [if_pos f1]
                by_cases f2 : pX2_trades b (pX2_standing b (x + 1)) = d
                · rw [if_pos f2]; exact fin (.inl ⟨f1, f2⟩)
                · rw [if_neg f2]
                  by_cases f3 : pX2_trades b (pX2_standing b x) = d
                  · rw [if_pos f3]
                    by_cases f4 : pX2_trades b (pX2_standing b (x + 1)) = c
                    · rw [if_pos f4]; exact fin (.inr ⟨f3, f4⟩)
                    · rw [if_neg f4]; refine key (fun h => ?_); rcases h.2.2.2.2 with k | k
                      · exact f2 k.2
                      · exact f4 k.2
                  · rw [if_neg f3]; refine key (fun h => ?_); rcases h.2.2.2.2 with k | k
                    · exact f2 k.2
                    · exact f3 k.1
              · rw [if_neg f1]
                by_cases f3 : pX2_trades b (pX2_standing b x) = d
                · rw [if_pos f3]
                  by_cases f4 : pX2_trades b (pX2_standing b (x + 1)) = c
                  · rw [if_pos f4]; exact fin (.inr ⟨f3, f4⟩)
                  · rw [if_neg f4]; refine key (fun h => ?_); rcases h.2.2.2.2 with k | k
                    · exact f1 k.1
                    · exact f4 k.2
                · rw [if_neg f3]; refine key (fun h => ?_); rcases h.2.2.2.2 with k | k
                  · exact f1 k.1
                  · exact f3 k.1
      · rw [if_neg e0]; exact key (fun h => e0 h.2.2.2.1)
theorem s_X6_areBeside {n : Nat} (hn : 100 ≤ n) {b : BX2} {r : BX6} (hb : W2 b) (R : Rl b (pX6_a r)) (c d : Int) : g_X6_areBeside n r c d = some (zB (mSide b c d 0)) := by
  have := hb.s.pit
  unfold g_X6_areBeside
  exact s_X6_areBeside_2 n hn hb R c d n 0 (by omega) (by omega) (by omega) (by omega)
theorem mOpen_0 {b : BX2} {t s x : Int} (h : s ≤ x) (hx : x ≤ min (s + pX2_fronts b t) (pX2_pitches b)) : mOpen b t s = 0 ↔ (zr (fun p => if pX2_roofs b p = 0 then 1 else 0) s x = 0 ∧ zr (fun p => if pX2_roofs b p = 0 then 1 else 0) x (min (s + pX2_fronts b t) (pX2_pitches b)) = 0) := by
  unfold mOpen
  rw [zr_split h hx]
  have h1 : 0 ≤ zr (fun p => if pX2_roofs b p = 0 then 1 else 0) s x := zr_nonneg (fun i _ _ => by by_cases h : pX2_roofs b i = 0 <;> simp [h])
  have h2 : 0 ≤ zr (fun p => if pX2_roofs b p = 0 then 1 else 0) x (min (s + pX2_fronts b t) (pX2_pitches b)) := zr_nonneg (fun i _ _ => by by_cases h : pX2_roofs b i = 0 <;> simp [h])
  omega
theorem s_X6_isSheltered_4 (n : Nat) {b : BX2} {r : BX6} (hb : W2 b) (R : Rl b (pX6_a r)) {t : Int} (t0 : 0 ≤ t) (t1 : t < pX2_traders b) (hs : pX2_starts b t ≠ -1) : ∀ (fu : Nat) (c x : Int), 0 ≤ x → x ≤ pX2_fronts b t → 0 < fu → pX2_fronts b t - x < fu → (c = 0 ∨ c = 1) → (c = 1 ↔ zr (fun p => if pX2_roofs b p = 0 then 1 else 0) (pX2_starts b t) (pX2_starts b t + x) = 0) → g_X6_isSheltered_4 n fu t c x r = some (zB (pX2_needy b t = 1 ∨ mOpen b t (pX2_starts b t) = 0)) := by
  have ht := hb.s.tra
  have hp := hb.s.pit
  have hf := hb.s.fr t0 t1
  have hst := hb.st t t0 (by omega)
  have hmin : min (pX2_starts b t + pX2_fronts b t) (pX2_pitches b) = pX2_starts b t + pX2_fronts b t := by omega
  intro fu
  induction fu with
  | zero => intro c x _ _ h0; omega
  | succ fu ih =>
    intro c x x0 xf _ hfu hc01 hc1
    rw [g_X6_isSheltered_4.eq_2, qA_ok (by omega) (by omega) (by omega), R.fr t0 t1]
    unfold g_X6_isSheltered_73 g_X6_isSheltered_48 g_X6_isSheltered_49
    by_cases hc : pX2_fronts b t ≤ x
    · have hx : x = pX2_fronts b t := by omega
      rw [hx] at hc1
      rw [if_pos hc, qA_ok (by omega) (by omega) (by omega), R.need t0 t1]
      have k : (mOpen b t (pX2_starts b t) = 0) ↔ c = 1 := by unfold mOpen; rw [hmin]; exact hc1.symm
      by_cases h0 : c = 0
      · rw [if_pos h0, ite_zB]
        refine congrArg some (zB_congr ⟨.inl, ?_⟩)
        rintro (h | h)
        · exact h
        · have := k.1 h; omega
      · rw [if_neg h0, zB_pos]; right; exact k.2 (by omega)
    · rw [if_neg hc, oR_ok (by omega) (by omega)]
      have hsn : zr (fun p => if pX2_roofs b p = 0 then 1 else 0) (pX2_starts b t) (pX2_starts b t + (x + 1)) = zr (fun p => if pX2_roofs b p = 0 then 1 else 0) (pX2_starts b t) (pX2_starts b t + x) + (if pX2_roofs b (pX2_starts b t + x) = 0 then 1 else 0) := by
        rw [← Int.add_assoc, zr_snoc (by omega)]
      have hnn : 0 ≤ zr (fun p => if pX2_roofs b p = 0 then 1 else 0) (pX2_starts b t) (pX2_starts b t + x) := zr_nonneg (fun i _ _ => by by_cases h : pX2_roofs b i = 0 <;> simp [h])
      by_cases h0 : c = 0
      · rw [if_pos h0]
        refine ih 0 (x + 1) (by omega) (by omega) (by omega) (by omega) (.inl rfl) ?_
        rw [hsn]
        constructor
        · intro h; omega
        · intro h; exfalso; split at h <;> omega
      · rw [if_neg h0, qA_ok (by omega) (by omega) (by omega), R.st t0 (by omega), qA_ok (by omega) (by omega) (by omega), show 26 + pX2_starts b t + x = 26 + (pX2_starts b t + x) by omega, R.roof (by omega) (by omega)]
        by_cases h1 : pX2_roofs b (pX2_starts b t + x) = 1
        · rw [if_pos h1, oR_ok (by omega) (by omega)]
          refine ih 1 (x + 1) (by omega) (by omega) (by omega) (by omega) (.inr rfl) ?_
          rw [hsn, h1]
          constructor
          · intro _; have := hc1.1 (by omega); simp; omega
          · intro _; rfl
        · have hr := hb.s.roof (pX2_starts b t + x)
          rw [if_neg h1]
          refine ih 0 (x + 1) (by omega) (by omega) (by omega) (by omega) (.inl rfl) ?_
          rw [hsn, if_pos (by omega)]
          omega
theorem s_X6_isSheltered {n : Nat} (hn : 100 ≤ n) {b : BX2} {r : BX6} (hb : W2 b) (R : Rl b (pX6_a r)) {t : Int} (t0 : 0 ≤ t) (t1 : t < pX2_traders b) (hs : pX2_starts b t ≠ -1) : g_X6_isSheltered n r t = some (zB (pX2_needy b t = 1 ∨ mOpen b t (pX2_starts b t) = 0)) := by
  have hf := hb.s.fr t0 t1
  unfold g_X6_isSheltered
  refine s_X6_isSheltered_4 n hb R t0 t1 hs n 1 0 (by omega) (by omega) (by omega) (by omega) (.inr rfl) ?_
  rw [Int.add_zero, zr_nil (by omega)]
  simp
/-! keeping and undoing -/
def kCnt (r : BX6) : Int := if pX6_keptMany r = 6 then 5 else pX6_keptMany r
def kBase (r : BX6) : Int → Int := if pX6_keptMany r = 6 then (fun i => if 0 ≤ i ∧ i < 900 then pX6_kept r (i + 180) else pX6_kept r i) else pX6_kept r
def kPut (v a : Int → Int) (c : Int) : Int → Int := fun i => if 180 * c ≤ i ∧ i < 180 * c + 180 then a (i - 180 * c) else v i
def kKeep (r : BX6) : BX6 := sX6_keptMany (sX6_kept r (kPut (kBase r) (pX6_a r) (kCnt r))) (kCnt r + 1)
theorem s_X6_keeps_52 (n : Nat) (r : BX6) (v : Int → Int) {c : Int} (hc : pX6_keptMany r = c) (c0 : 0 ≤ c) (c1 : c ≤ 5) : ∀ (fu : Nat) (x : Int), 0 ≤ x → x ≤ 180 → 180 - x < fu → g_X6_keeps_52 n fu x (sX6_kept r (fun i => if 180 * c ≤ i ∧ i < 180 * c + x then pX6_a r (i - 180 * c) else v i)) = some (sX6_keptMany (sX6_kept r (kPut v (pX6_a r) c)) (c + 1)) := by
  intro fu
  induction fu with
  | zero => intro x _ _ h0; omega
  | succ fu ih =>
    intro x x0 x1 hf
    rw [g_X6_keeps_52.eq_2, eX6_keptMany_kept, eX6_a_kept, eX6_kept_kept, hc]
    by_cases h : 180 ≤ x
    · rw [if_pos h, oR_ok (by omega) (by omega), oL_def, show x = 180 by omega]
      rfl
    · rw [if_neg h, qA_ok (by omega) (by omega) (by omega), qA_ok (by omega) (by omega) (by omega), oL_def, oR_ok (by omega) (by omega), uX6_kept]
      rw [← ih (x + 1) (by omega) (by omega) (by omega)]
      refine congrArg (fun z => g_X6_keeps_52 n fu (x + 1) (sX6_kept r z)) ?_
      funext i
      rw [updZ_app]
      by_cases h1 : i = 180 * c + x
      · rw [if_pos h1, if_pos (by omega)]; exact congrArg _ (by omega)
      · rw [if_neg h1]
        by_cases h2 : 180 * c ≤ i ∧ i < 180 * c + x
        · rw [if_pos h2, if_pos (by omega)]
        · rw [if_neg h2, if_neg (by omega)]
theorem s_X6_keeps_50 {n : Nat} (hn : 1000 ≤ n) (r : BX6) (c0 : 0 ≤ pX6_keptMany r) (c1 : pX6_keptMany r ≤ 5) : g_X6_keeps_50 n r = some (sX6_keptMany (sX6_kept r (kPut (pX6_kept r) (pX6_a r) (pX6_keptMany r))) (pX6_keptMany r + 1)) := by
  unfold g_X6_keeps_50
  have h := s_X6_keeps_52 n r (pX6_kept r) rfl c0 c1 n 0 (by omega) (by omega) (by omega)
  have e : sX6_kept r (fun i => if 180 * pX6_keptMany r ≤ i ∧ i < 180 * pX6_keptMany r + 0 then pX6_a r (i - 180 * pX6_keptMany r) else pX6_kept r i) = r := by
    have : (fun i => if 180 * pX6_keptMany r ≤ i ∧ i < 180 * pX6_keptMany r + 0 then pX6_a r (i - 180 * pX6_keptMany r) else pX6_kept r i) = pX6_kept r := by
      funext i; rw [if_neg (by omega)]
    rw [this, iX6_kept]
  rw [e] at h
  exact h
theorem s_X6_keeps_11 (n : Nat) (hn : 1000 ≤ n) (r : BX6) (hc : pX6_keptMany r = 6) : ∀ (fu : Nat) (x : Int), 0 ≤ x → x ≤ 900 → 900 - x < fu → g_X6_keeps_11 n fu x (sX6_kept r (fun i => if 0 ≤ i ∧ i < x then pX6_kept r (i + 180) else pX6_kept r i)) = some (kKeep r) := by
  intro fu
  induction fu with
  | zero => intro x _ _ h0; omega
  | succ fu ih =>
    intro x x0 x1 hf
    rw [g_X6_keeps_11.eq_2, eX6_keptMany_kept, eX6_kept_kept, hc]
    by_cases h : 900 ≤ x
    · rw [if_pos h, oR_ok (by omega) (by omega), oL_def, show x = 900 by omega, s_X6_keeps_50 hn _ (by rw [eX6_keptMany_keptMany]; omega) (by rw [eX6_keptMany_keptMany]; omega)]
      unfold kKeep kBase kCnt
      rw [if_pos hc, if_pos hc]
      simp only [eX6_a_a, eX6_a_fresh, eX6_a_kept, eX6_a_keptMany, eX6_a_thrown, eX6_a_buffer, eX6_a_buffered, eX6_a_size, eX6_a_at, eX6_a_behind, eX6_a_kind, eX6_a_wrong, eX6_a_wrongAt, eX6_a_errorAt, eX6_a_number, eX6_a_best, eX6_a_rentBy, eX6_a_bareBy, eX6_a_aheadBy, eX6_a_isEdge, eX6_a_tried, eX6_a_stands, eX6_a_found, eX6_a_foundOn, eX6_a_moving, eX6_a_movingMany, eX6_a_foundIncome, eX6_a_foundMoves, eX6_fresh_a, eX6_fresh_fresh, eX6_fresh_kept, eX6_fresh_keptMany, eX6_fresh_thrown, eX6_fresh_buffer, eX6_fresh_buffered, eX6_fresh_size, eX6_fresh_at, eX6_fresh_behind, eX6_fresh_kind, eX6_fresh_wrong, eX6_fresh_wrongAt, eX6_fresh_errorAt, eX6_fresh_number, eX6_fresh_best, eX6_fresh_rentBy, eX6_fresh_bareBy, eX6_fresh_aheadBy, eX6_fresh_isEdge, eX6_fresh_tried, eX6_fresh_stands, eX6_fresh_found, eX6_fresh_foundOn, eX6_fresh_moving, eX6_fresh_movingMany, eX6_fresh_foundIncome, eX6_fresh_foundMoves, eX6_kept_a, eX6_kept_fresh, eX6_kept_kept, eX6_kept_keptMany, eX6_kept_thrown, eX6_kept_buffer, eX6_kept_buffered, eX6_kept_size, eX6_kept_at, eX6_kept_behind, eX6_kept_kind, eX6_kept_wrong, eX6_kept_wrongAt, eX6_kept_errorAt, eX6_kept_number, eX6_kept_best, eX6_kept_rentBy, eX6_kept_bareBy, eX6_kept_aheadBy, eX6_kept_isEdge, eX6_kept_tried, eX6_kept_stands, eX6_kept_found, eX6_kept_foundOn, eX6_kept_moving, eX6_kept_movingMany, eX6_kept_foundIncome, eX6_kept_foundMoves, eX6_keptMany_a, eX6_keptMany_fresh, eX6_keptMany_kept, eX6_keptMany_keptMany, eX6_keptMany_thrown, eX6_keptMany_buffer, eX6_keptMany_buffered, eX6_keptMany_size, eX6_keptMany_at, eX6_keptMany_behind, eX6_keptMany_kind, eX6_keptMany_wrong, eX6_keptMany_wrongAt, eX6_keptMany_errorAt, eX6_keptMany_number, eX6_keptMany_best, eX6_keptMany_rentBy, eX6_keptMany_bareBy, eX6_keptMany_aheadBy, eX6_keptMany_isEdge, eX6_keptMany_tried, eX6_keptMany_stands, eX6_keptMany_found, eX6_keptMany_foundOn, eX6_keptMany_moving, eX6_keptMany_movingMany, eX6_keptMany_foundIncome, eX6_keptMany_foundMoves, eX6_thrown_a, eX6_thrown_fresh, eX6_thrown_kept, eX6_thrown_keptMany, eX6_thrown_thrown, eX6_thrown_buffer, eX6_thrown_buffered, eX6_thrown_size, eX6_thrown_at, eX6_thrown_behind, eX6_thrown_kind, eX6_thrown_wrong, eX6_thrown_wrongAt, eX6_thrown_errorAt, eX6_thrown_number, eX6_thrown_best, eX6_thrown_rentBy, eX6_thrown_bareBy, eX6_thrown_aheadBy, eX6_thrown_isEdge, eX6_thrown_tried, eX6_thrown_stands, eX6_thrown_found, eX6_thrown_foundOn, eX6_thrown_moving, eX6_thrown_movingMany, eX6_thrown_foundIncome, eX6_thrown_foundMoves, eX6_buffer_a, eX6_buffer_fresh, eX6_buffer_kept, eX6_buffer_keptMany, eX6_buffer_thrown, eX6_buffer_buffer, eX6_buffer_buffered, eX6_buffer_size, eX6_buffer_at, eX6_buffer_behind, eX6_buffer_kind, eX6_buffer_wrong, eX6_buffer_wrongAt, eX6_buffer_errorAt, eX6_buffer_number, eX6_buffer_best, eX6_buffer_rentBy, eX6_buffer_bareBy, eX6_buffer_aheadBy, eX6_buffer_isEdge, eX6_buffer_tried, eX6_buffer_stands, eX6_buffer_found, eX6_buffer_foundOn, eX6_buffer_moving, eX6_buffer_movingMany, eX6_buffer_foundIncome, eX6_buffer_foundMoves, eX6_buffered_a, eX6_buffered_fresh, eX6_buffered_kept, eX6_buffered_keptMany, eX6_buffered_thrown, eX6_buffered_buffer, eX6_buffered_buffered, eX6_buffered_size, eX6_buffered_at, eX6_buffered_behind, eX6_buffered_kind, eX6_buffered_wrong, eX6_buffered_wrongAt, eX6_buffered_errorAt, eX6_buffered_number, eX6_buffered_best, eX6_buffered_rentBy, eX6_buffered_bareBy, eX6_buffered_aheadBy, eX6_buffered_isEdge, eX6_buffered_tried, eX6_buffered_stands, eX6_buffered_found, eX6_buffered_foundOn, eX6_buffered_moving, eX6_buffered_movingMany, eX6_buffered_foundIncome, eX6_buffered_foundMoves, eX6_size_a, eX6_size_fresh, eX6_size_kept, eX6_size_keptMany, eX6_size_thrown, eX6_size_buffer, eX6_size_buffered, eX6_size_size, eX6_size_at, eX6_size_behind, eX6_size_kind, eX6_size_wrong, eX6_size_wrongAt, eX6_size_errorAt, eX6_size_number, eX6_size_best, eX6_size_rentBy, eX6_size_bareBy, eX6_size_aheadBy, eX6_size_isEdge, eX6_size_tried, eX6_size_stands, eX6_size_found, eX6_size_foundOn, eX6_size_moving, eX6_size_movingMany, eX6_size_foundIncome, eX6_size_foundMoves, eX6_at_a, eX6_at_fresh, eX6_at_kept, eX6_at_keptMany, eX6_at_thrown, eX6_at_buffer, eX6_at_buffered, eX6_at_size, eX6_at_at, eX6_at_behind, eX6_at_kind, eX6_at_wrong, eX6_at_wrongAt, eX6_at_errorAt, eX6_at_number, eX6_at_best, eX6_at_rentBy, eX6_at_bareBy, eX6_at_aheadBy, eX6_at_isEdge, eX6_at_tried, eX6_at_stands, eX6_at_found, eX6_at_foundOn, eX6_at_moving, eX6_at_movingMany, eX6_at_foundIncome, eX6_at_foundMoves, eX6_behind_a, eX6_behind_fresh, eX6_behind_kept, eX6_behind_keptMany, eX6_behind_thrown, eX6_behind_buffer, eX6_behind_buffered, eX6_behind_size, eX6_behind_at, eX6_behind_behind, eX6_behind_kind, eX6_behind_wrong, eX6_behind_wrongAt, eX6_behind_errorAt, eX6_behind_number, eX6_behind_best, eX6_behind_rentBy, eX6_behind_bareBy, eX6_behind_aheadBy, eX6_behind_isEdge, eX6_behind_tried, eX6_behind_stands, eX6_behind_found, eX6_behind_foundOn, eX6_behind_moving, eX6_behind_movingMany, eX6_behind_foundIncome, eX6_behind_foundMoves, eX6_kind_a, eX6_kind_fresh, eX6_kind_kept, eX6_kind_keptMany, eX6_kind_thrown, eX6_kind_buffer, eX6_kind_buffered, eX6_kind_size, eX6_kind_at, eX6_kind_behind, eX6_kind_kind, eX6_kind_wrong, eX6_kind_wrongAt, eX6_kind_errorAt, eX6_kind_number, eX6_kind_best, eX6_kind_rentBy, eX6_kind_bareBy, eX6_kind_aheadBy, eX6_kind_isEdge, eX6_kind_tried, eX6_kind_stands, eX6_kind_found, eX6_kind_foundOn, eX6_kind_moving, eX6_kind_movingMany, eX6_kind_foundIncome, eX6_kind_foundMoves, eX6_wrong_a, eX6_wrong_fresh, eX6_wrong_kept, eX6_wrong_keptMany, eX6_wrong_thrown, eX6_wrong_buffer, eX6_wrong_buffered, eX6_wrong_size, eX6_wrong_at, eX6_wrong_behind, eX6_wrong_kind, eX6_wrong_wrong, eX6_wrong_wrongAt, eX6_wrong_errorAt, eX6_wrong_number, eX6_wrong_best, eX6_wrong_rentBy, eX6_wrong_bareBy, eX6_wrong_aheadBy, eX6_wrong_isEdge, eX6_wrong_tried, eX6_wrong_stands, eX6_wrong_found, eX6_wrong_foundOn, eX6_wrong_moving, eX6_wrong_movingMany, eX6_wrong_foundIncome, eX6_wrong_foundMoves, eX6_wrongAt_a, eX6_wrongAt_fresh, eX6_wrongAt_kept, eX6_wrongAt_keptMany, eX6_wrongAt_thrown, eX6_wrongAt_buffer, eX6_wrongAt_buffered, eX6_wrongAt_size, eX6_wrongAt_at, eX6_wrongAt_behind, eX6_wrongAt_kind, eX6_wrongAt_wrong, eX6_wrongAt_wrongAt, eX6_wrongAt_errorAt, eX6_wrongAt_number, eX6_wrongAt_best, eX6_wrongAt_rentBy, eX6_wrongAt_bareBy, eX6_wrongAt_aheadBy, eX6_wrongAt_isEdge, eX6_wrongAt_tried, eX6_wrongAt_stands, eX6_wrongAt_found, eX6_wrongAt_foundOn, eX6_wrongAt_moving, eX6_wrongAt_movingMany, eX6_wrongAt_foundIncome, eX6_wrongAt_foundMoves, eX6_errorAt_a, eX6_errorAt_fresh, eX6_errorAt_kept, eX6_errorAt_keptMany, eX6_errorAt_thrown, eX6_errorAt_buffer, eX6_errorAt_buffered, eX6_errorAt_size, eX6_errorAt_at, eX6_errorAt_behind, eX6_errorAt_kind, eX6_errorAt_wrong, eX6_errorAt_wrongAt, eX6_errorAt_errorAt, eX6_errorAt_number, eX6_errorAt_best, eX6_errorAt_rentBy, eX6_errorAt_bareBy, eX6_errorAt_aheadBy, eX6_errorAt_isEdge, eX6_errorAt_tried, eX6_errorAt_stands, eX6_errorAt_found, eX6_errorAt_foundOn, eX6_errorAt_moving, eX6_errorAt_movingMany, eX6_errorAt_foundIncome, eX6_errorAt_foundMoves, eX6_number_a, eX6_number_fresh, eX6_number_kept, eX6_number_keptMany, eX6_number_thrown, eX6_number_buffer, eX6_number_buffered, eX6_number_size, eX6_number_at, eX6_number_behind, eX6_number_kind, eX6_number_wrong, eX6_number_wrongAt, eX6_number_errorAt, eX6_number_number, eX6_number_best, eX6_number_rentBy, eX6_number_bareBy, eX6_number_aheadBy, eX6_number_isEdge, eX6_number_tried, eX6_number_stands, eX6_number_found, eX6_number_foundOn, eX6_number_moving, eX6_number_movingMany, eX6_number_foundIncome, eX6_number_foundMoves, eX6_best_a, eX6_best_fresh, eX6_best_kept, eX6_best_keptMany, eX6_best_thrown, eX6_best_buffer, eX6_best_buffered, eX6_best_size, eX6_best_at, eX6_best_behind, eX6_best_kind, eX6_best_wrong, eX6_best_wrongAt, eX6_best_errorAt, eX6_best_number, eX6_best_best, eX6_best_rentBy, eX6_best_bareBy, eX6_best_aheadBy, eX6_best_isEdge, eX6_best_tried, eX6_best_stands, eX6_best_found, eX6_best_foundOn, eX6_best_moving, eX6_best_movingMany, eX6_best_foundIncome, eX6_best_foundMoves, eX6_rentBy_a, eX6_rentBy_fresh, eX6_rentBy_kept, eX6_rentBy_keptMany, eX6_rentBy_thrown, eX6_rentBy_buffer, eX6_rentBy_buffered, eX6_rentBy_size, eX6_rentBy_at, eX6_rentBy_behind, eX6_rentBy_kind, eX6_rentBy_wrong, eX6_rentBy_wrongAt, eX6_rentBy_errorAt, eX6_rentBy_number, eX6_rentBy_best, eX6_rentBy_rentBy, eX6_rentBy_bareBy, eX6_rentBy_aheadBy, eX6_rentBy_isEdge, eX6_rentBy_tried, eX6_rentBy_stands, eX6_rentBy_found, eX6_rentBy_foundOn, eX6_rentBy_moving, eX6_rentBy_movingMany, eX6_rentBy_foundIncome, eX6_rentBy_foundMoves, eX6_bareBy_a, eX6_bareBy_fresh, eX6_bareBy_kept, eX6_bareBy_keptMany, eX6_bareBy_thrown, eX6_bareBy_buffer, eX6_bareBy_buffered, eX6_bareBy_size, eX6_bareBy_at, eX6_bareBy_behind, eX6_bareBy_kind, eX6_bareBy_wrong, eX6_bareBy_wrongAt, eX6_bareBy_errorAt, eX6_bareBy_number, eX6_bareBy_best, eX6_bareBy_rentBy, eX6_bareBy_bareBy, eX6_bareBy_aheadBy, eX6_bareBy_isEdge, eX6_bareBy_tried, eX6_bareBy_stands, eX6_bareBy_found, eX6_bareBy_foundOn, eX6_bareBy_moving, eX6_bareBy_movingMany, eX6_bareBy_foundIncome, eX6_bareBy_foundMoves, eX6_aheadBy_a, eX6_aheadBy_fresh, eX6_aheadBy_kept, eX6_aheadBy_keptMany, eX6_aheadBy_thrown, eX6_aheadBy_buffer, eX6_aheadBy_buffered, eX6_aheadBy_size, eX6_aheadBy_at, eX6_aheadBy_behind, eX6_aheadBy_kind, eX6_aheadBy_wrong, eX6_aheadBy_wrongAt, eX6_aheadBy_errorAt, eX6_aheadBy_number, eX6_aheadBy_best, eX6_aheadBy_rentBy, eX6_aheadBy_bareBy, eX6_aheadBy_aheadBy, eX6_aheadBy_isEdge, eX6_aheadBy_tried, eX6_aheadBy_stands, eX6_aheadBy_found, eX6_aheadBy_foundOn, eX6_aheadBy_moving, eX6_aheadBy_movingMany, eX6_aheadBy_foundIncome, eX6_aheadBy_foundMoves, eX6_isEdge_a, eX6_isEdge_fresh, eX6_isEdge_kept, eX6_isEdge_keptMany, eX6_isEdge_thrown, eX6_isEdge_buffer, eX6_isEdge_buffered, eX6_isEdge_size, eX6_isEdge_at, eX6_isEdge_behind, eX6_isEdge_kind, eX6_isEdge_wrong, eX6_isEdge_wrongAt, eX6_isEdge_errorAt, eX6_isEdge_number, eX6_isEdge_best, eX6_isEdge_rentBy, eX6_isEdge_bareBy, eX6_isEdge_aheadBy, eX6_isEdge_isEdge, eX6_isEdge_tried, eX6_isEdge_stands, eX6_isEdge_found, eX6_isEdge_foundOn, eX6_isEdge_moving, eX6_isEdge_movingMany, eX6_isEdge_foundIncome, eX6_isEdge_foundMoves, eX6_tried_a, eX6_tried_fresh, eX6_tried_kept, eX6_tried_keptMany, eX6_tried_thrown, eX6_tried_buffer, eX6_tried_buffered, eX6_tried_size, eX6_tried_at, eX6_tried_behind, eX6_tried_kind, eX6_tried_wrong, eX6_tried_wrongAt, eX6_tried_errorAt, eX6_tried_number, eX6_tried_best, eX6_tried_rentBy, eX6_tried_bareBy, eX6_tried_aheadBy, eX6_tried_isEdge, eX6_tried_tried, eX6_tried_stands, eX6_tried_found, eX6_tried_foundOn, eX6_tried_moving, eX6_tried_movingMany, eX6_tried_foundIncome, eX6_tried_foundMoves, eX6_stands_a, eX6_stands_fresh, eX6_stands_kept, eX6_stands_keptMany, eX6_stands_thrown, eX6_stands_buffer, eX6_stands_buffered, eX6_stands_size, eX6_stands_at, eX6_stands_behind, eX6_stands_kind, eX6_stands_wrong, eX6_stands_wrongAt, eX6_stands_errorAt, eX6_stands_number, eX6_stands_best, eX6_stands_rentBy, eX6_stands_bareBy, eX6_stands_aheadBy, eX6_stands_isEdge, eX6_stands_tried, eX6_stands_stands, eX6_stands_found, eX6_stands_foundOn, eX6_stands_moving, eX6_stands_movingMany, eX6_stands_foundIncome, eX6_stands_foundMoves, eX6_found_a, eX6_found_fresh, eX6_found_kept, eX6_found_keptMany, eX6_found_thrown, eX6_found_buffer, eX6_found_buffered, eX6_found_size, eX6_found_at, eX6_found_behind, eX6_found_kind, eX6_found_wrong, eX6_found_wrongAt, eX6_found_errorAt, eX6_found_number, eX6_found_best, eX6_found_rentBy, eX6_found_bareBy, eX6_found_aheadBy, eX6_found_isEdge, eX6_found_tried, eX6_found_stands, eX6_found_found, eX6_found_foundOn, eX6_found_moving, eX6_found_movingMany, eX6_found_foundIncome, eX6_found_foundMoves, eX6_foundOn_a, eX6_foundOn_fresh, eX6_foundOn_kept, eX6_foundOn_keptMany, eX6_foundOn_thrown, eX6_foundOn_buffer, eX6_foundOn_buffered, eX6_foundOn_size, eX6_foundOn_at, eX6_foundOn_behind, eX6_foundOn_kind, eX6_foundOn_wrong, eX6_foundOn_wrongAt, eX6_foundOn_errorAt, eX6_foundOn_number, eX6_foundOn_best, eX6_foundOn_rentBy, eX6_foundOn_bareBy, eX6_foundOn_aheadBy, eX6_foundOn_isEdge, eX6_foundOn_tried, eX6_foundOn_stands, eX6_foundOn_found, eX6_foundOn_foundOn, eX6_foundOn_moving, eX6_foundOn_movingMany, eX6_foundOn_foundIncome, eX6_foundOn_foundMoves, eX6_moving_a, eX6_moving_fresh, eX6_moving_kept, eX6_moving_keptMany, eX6_moving_thrown, eX6_moving_buffer, eX6_moving_buffered, eX6_moving_size, eX6_moving_at, eX6_moving_behind, eX6_moving_kind, eX6_moving_wrong, eX6_moving_wrongAt, eX6_moving_errorAt, eX6_moving_number, eX6_moving_best, eX6_moving_rentBy, eX6_moving_bareBy, eX6_moving_aheadBy, eX6_moving_isEdge, eX6_moving_tried, eX6_moving_stands, eX6_moving_found, eX6_moving_foundOn, eX6_moving_moving, eX6_moving_movingMany, eX6_moving_foundIncome, eX6_moving_foundMoves, eX6_movingMany_a, eX6_movingMany_fresh, eX6_movingMany_kept, eX6_movingMany_keptMany, eX6_movingMany_thrown, eX6_movingMany_buffer, eX6_movingMany_buffered, eX6_movingMany_size, eX6_movingMany_at, eX6_movingMany_behind, eX6_movingMany_kind, eX6_movingMany_wrong, eX6_movingMany_wrongAt, eX6_movingMany_errorAt, eX6_movingMany_number, eX6_movingMany_best, eX6_movingMany_rentBy, eX6_movingMany_bareBy, eX6_movingMany_aheadBy, eX6_movingMany_isEdge, eX6_movingMany_tried, eX6_movingMany_stands, eX6_movingMany_found, eX6_movingMany_foundOn, eX6_movingMany_moving, eX6_movingMany_movingMany, eX6_movingMany_foundIncome, eX6_movingMany_foundMoves, eX6_foundIncome_a, eX6_foundIncome_fresh, eX6_foundIncome_kept, eX6_foundIncome_keptMany, eX6_foundIncome_thrown, eX6_foundIncome_buffer, eX6_foundIncome_buffered, eX6_foundIncome_size, eX6_foundIncome_at, eX6_foundIncome_behind, eX6_foundIncome_kind, eX6_foundIncome_wrong, eX6_foundIncome_wrongAt, eX6_foundIncome_errorAt, eX6_foundIncome_number, eX6_foundIncome_best, eX6_foundIncome_rentBy, eX6_foundIncome_bareBy, eX6_foundIncome_aheadBy, eX6_foundIncome_isEdge, eX6_foundIncome_tried, eX6_foundIncome_stands, eX6_foundIncome_found, eX6_foundIncome_foundOn, eX6_foundIncome_moving, eX6_foundIncome_movingMany, eX6_foundIncome_foundIncome, eX6_foundIncome_foundMoves, eX6_foundMoves_a, eX6_foundMoves_fresh, eX6_foundMoves_kept, eX6_foundMoves_keptMany, eX6_foundMoves_thrown, eX6_foundMoves_buffer, eX6_foundMoves_buffered, eX6_foundMoves_size, eX6_foundMoves_at, eX6_foundMoves_behind, eX6_foundMoves_kind, eX6_foundMoves_wrong, eX6_foundMoves_wrongAt, eX6_foundMoves_errorAt, eX6_foundMoves_number, eX6_foundMoves_best, eX6_foundMoves_rentBy, eX6_foundMoves_bareBy, eX6_foundMoves_aheadBy, eX6_foundMoves_isEdge, eX6_foundMoves_tried, eX6_foundMoves_stands, eX6_foundMoves_found, eX6_foundMoves_foundOn, eX6_foundMoves_moving, eX6_foundMoves_movingMany, eX6_foundMoves_foundIncome, eX6_foundMoves_foundMoves, uX6_a, iX6_a, uX6_fresh, iX6_fresh, uX6_kept, iX6_kept, uX6_keptMany, iX6_keptMany, uX6_thrown, iX6_thrown, uX6_buffer, iX6_buffer, uX6_buffered, iX6_buffered, uX6_size, iX6_size, uX6_at, iX6_at, uX6_behind, iX6_behind, uX6_kind, iX6_kind, uX6_wrong, iX6_wrong, uX6_wrongAt, iX6_wrongAt, uX6_errorAt, iX6_errorAt, uX6_number, iX6_number, uX6_best, iX6_best, uX6_rentBy, iX6_rentBy, uX6_bareBy, iX6_bareBy, uX6_aheadBy, iX6_aheadBy, uX6_isEdge, iX6_isEdge, uX6_tried, iX6_tried, uX6_stands, iX6_stands, uX6_found, iX6_found, uX6_foundOn, iX6_foundOn, uX6_moving, iX6_moving, uX6_movingMany, iX6_movingMany, uX6_foundIncome, iX6_foundIncome, uX6_foundMoves, iX6_foundMoves]
      rfl
    · rw [if_neg h, qA_ok (by omega) (by omega) (by omega), qA_ok (by omega) (by omega) (by omega), oL_def, oR_ok (by omega) (by omega), uX6_kept]
      rw [← ih (x + 1) (by omega) (by omega) (by omega)]
      refine congrArg (fun z => g_X6_keeps_11 n fu (x + 1) (sX6_kept r z)) ?_
      funext i
      rw [updZ_app]
      by_cases h1 : i = x
      · rw [if_pos h1, if_neg (by omega), if_pos (by omega), h1]
      · rw [if_neg h1]
        by_cases h2 : 0 ≤ i ∧ i < x
        · rw [if_pos h2, if_pos (by omega)]
        · rw [if_neg h2, if_neg (by omega)]
theorem s_X6_keeps {n : Nat} (hn : 1000 ≤ n) (r : BX6) (c0 : 0 ≤ pX6_keptMany r) (c1 : pX6_keptMany r ≤ 6) : g_X6_keeps n r = some (kKeep r) := by
  unfold g_X6_keeps
  by_cases h : pX6_keptMany r = 6
  · rw [if_pos h]
    have h2 := s_X6_keeps_11 n hn r h n 0 (by omega) (by omega) (by omega)
    have e : sX6_kept r (fun i => if 0 ≤ i ∧ i < 0 then pX6_kept r (i + 180) else pX6_kept r i) = r := by
      have : (fun i => if 0 ≤ i ∧ i < 0 then pX6_kept r (i + 180) else pX6_kept r i) = pX6_kept r := by
        funext i; rw [if_neg (by omega)]
      rw [this, iX6_kept]
    rw [e] at h2
    exact h2
  · rw [if_neg h, s_X6_keeps_50 hn r c0 (by omega)]
    unfold kKeep kBase kCnt
    rw [if_neg h, if_neg h]
def kTake (r : BX6) : Int → Int := fun i => if 0 ≤ i ∧ i < 180 then pX6_kept r (180 * (pX6_keptMany r - 1) + i) else pX6_a r i
theorem s_X6_undo_37 (n : Nat) (r : BX6) {c : Int} (hc : pX6_keptMany r = c) (c0 : 0 ≤ c) (c1 : c ≤ 5) : ∀ (fu : Nat) (x : Int), 0 ≤ x → x ≤ 180 → 180 - x < fu → g_X6_undo_37 n fu x (sX6_a r (fun i => if 0 ≤ i ∧ i < x then pX6_kept r (180 * c + i) else pX6_a r i)) = some (c, sX6_a r (fun i => if 0 ≤ i ∧ i < 180 then pX6_kept r (180 * c + i) else pX6_a r i)) := by
  intro fu
  induction fu with
  | zero => intro x _ _ h0; omega
  | succ fu ih =>
    intro x x0 x1 hf
    rw [g_X6_undo_37.eq_2, eX6_keptMany_a, eX6_a_a, eX6_kept_a, hc]
    by_cases h : 180 ≤ x
    · rw [if_pos h, show x = 180 by omega]
    · rw [if_neg h, qA_ok (by omega) (by omega) (by omega), qA_ok (by omega) (by omega) (by omega), oL_def, oR_ok (by omega) (by omega), uX6_a]
      rw [← ih (x + 1) (by omega) (by omega) (by omega)]
      refine congrArg (fun z => g_X6_undo_37 n fu (x + 1) (sX6_a r z)) ?_
      funext i
      rw [updZ_app]
      by_cases h1 : i = x
      · rw [if_pos h1, if_pos (by omega), h1]
      · rw [if_neg h1]
        by_cases h2 : 0 ≤ i ∧ i < x
        · rw [if_pos h2, if_pos (by omega)]
        · rw [if_neg h2, if_neg (by omega)]
theorem s_X6_undo {n : Nat} (hn : 1000 ≤ n) (r : BX6) (c0 : 0 ≤ pX6_keptMany r) (c1 : pX6_keptMany r ≤ 6) : g_X6_undo n r = some (if pX6_keptMany r = 0 then (0, sX6_thrown r 1) else (pX6_keptMany r - 1, sX6_a (sX6_thrown (sX6_keptMany r (pX6_keptMany r - 1)) 0) (kTake r))) := by
  unfold g_X6_undo g_X6_undo_13
  by_cases h : pX6_keptMany r = 0
  · rw [if_pos h, if_pos h, if_neg (by omega)]
  · rw [if_neg h, if_neg h, if_pos (by omega), oR_ok (by omega) (by omega), oL_def]
    have h2 := s_X6_undo_37 n (sX6_thrown (sX6_keptMany r (pX6_keptMany r - 1)) 0) (c := pX6_keptMany r - 1) (by rw [eX6_keptMany_thrown, eX6_keptMany_keptMany]) (by omega) (by omega) n 0 (by omega) (by omega) (by omega)
    have e : (fun i => if 0 ≤ i ∧ i < 0 then pX6_kept (sX6_thrown (sX6_keptMany r (pX6_keptMany r - 1)) 0) (180 * (pX6_keptMany r - 1) + i) else pX6_a (sX6_thrown (sX6_keptMany r (pX6_keptMany r - 1)) 0) i) = pX6_a (sX6_thrown (sX6_keptMany r (pX6_keptMany r - 1)) 0) := by
      funext i; rw [if_neg (by omega)]
    rw [e, iX6_a] at h2
    rw [h2]
    rfl
