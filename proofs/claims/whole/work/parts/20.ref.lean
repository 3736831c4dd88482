/-! The reference's row of numbers, and the market that it tells. -/
def Rl (b : BX2) (a : Int → Int) : Prop :=
  a 1 = pX2_pitches b ∧ a 74 = pX2_traders b ∧ a 179 = pX2_covers b ∧
  (∀ p, 0 ≤ p → p < pX2_pitches b → a (2 + p) = pX2_rents b p ∧ a (26 + p) = pX2_roofs b p ∧ a (50 + p) = pX2_rows b p) ∧
  (∀ t, 0 ≤ t → t < pX2_traders b → a (75 + t) = pX2_trades b t ∧ a (83 + t) = pX2_fronts b t ∧ a (91 + t) = pX2_limits b t ∧ a (99 + t) = pX2_needy b t) ∧
  (∀ t, 0 ≤ t → t < 8 → a (107 + t) = pX2_starts b t) ∧
  (∀ i j, 0 ≤ i → i < 8 → 0 ≤ j → j < 8 → a (115 + 8 * i + j) = zB (cl b i j))
theorem Rl.pit {b : BX2} {a : Int → Int} (h : Rl b a) : a 1 = pX2_pitches b := h.1
theorem Rl.tra {b : BX2} {a : Int → Int} (h : Rl b a) : a 74 = pX2_traders b := h.2.1
theorem Rl.cov {b : BX2} {a : Int → Int} (h : Rl b a) : a 179 = pX2_covers b := h.2.2.1
theorem Rl.rent {b : BX2} {a : Int → Int} (h : Rl b a) {p : Int} (p0 : 0 ≤ p) (p1 : p < pX2_pitches b) : a (2 + p) = pX2_rents b p := (h.2.2.2.1 p p0 p1).1
theorem Rl.roof {b : BX2} {a : Int → Int} (h : Rl b a) {p : Int} (p0 : 0 ≤ p) (p1 : p < pX2_pitches b) : a (26 + p) = pX2_roofs b p := (h.2.2.2.1 p p0 p1).2.1
theorem Rl.row {b : BX2} {a : Int → Int} (h : Rl b a) {p : Int} (p0 : 0 ≤ p) (p1 : p < pX2_pitches b) : a (50 + p) = pX2_rows b p := (h.2.2.2.1 p p0 p1).2.2
theorem Rl.trd {b : BX2} {a : Int → Int} (h : Rl b a) {t : Int} (t0 : 0 ≤ t) (t1 : t < pX2_traders b) : a (75 + t) = pX2_trades b t := (h.2.2.2.2.1 t t0 t1).1
theorem Rl.fr {b : BX2} {a : Int → Int} (h : Rl b a) {t : Int} (t0 : 0 ≤ t) (t1 : t < pX2_traders b) : a (83 + t) = pX2_fronts b t := (h.2.2.2.2.1 t t0 t1).2.1
theorem Rl.lim {b : BX2} {a : Int → Int} (h : Rl b a) {t : Int} (t0 : 0 ≤ t) (t1 : t < pX2_traders b) : a (91 + t) = pX2_limits b t := (h.2.2.2.2.1 t t0 t1).2.2.1
theorem Rl.need {b : BX2} {a : Int → Int} (h : Rl b a) {t : Int} (t0 : 0 ≤ t) (t1 : t < pX2_traders b) : a (99 + t) = pX2_needy b t := (h.2.2.2.2.1 t t0 t1).2.2.2
theorem Rl.st {b : BX2} {a : Int → Int} (h : Rl b a) {t : Int} (t0 : 0 ≤ t) (t1 : t < 8) : a (107 + t) = pX2_starts b t := h.2.2.2.2.2.1 t t0 t1
theorem Rl.cl {b : BX2} {a : Int → Int} (h : Rl b a) {i j : Int} (i0 : 0 ≤ i) (i1 : i < 8) (j0 : 0 ≤ j) (j1 : j < 8) : a (115 + 8 * i + j) = zB (cl b i j) := h.2.2.2.2.2.2 i j i0 i1 j0 j1
theorem s_X6_isIn (x l u : Int) : g_X6_isIn x l u = some (zB (l ≤ x ∧ x ≤ u)) := by
  unfold g_X6_isIn
  by_cases h1 : x < l
  · rw [if_pos h1, zB_neg (by omega)]
  · rw [if_neg h1]
    by_cases h2 : u < x
    · rw [if_pos h2, zB_neg (by omega)]
    · rw [if_neg h2, zB_pos (by omega)]
theorem s_X6_isPitch {b : BX2} {r : BX6} (hb : S2 b) (R : Rl b (pX6_a r)) (p : Int) : g_X6_isPitch r p = some (zB (0 ≤ p ∧ p < pX2_pitches b)) := by
  have := hb.pit
  unfold g_X6_isPitch
  rw [qA_ok (by omega) (by omega) (by omega), R.pit, oR_ok (by omega) (by omega), s_X6_isIn, oB_some, oG_ok (zB_nb _)]
  exact congrArg some (zB_congr (by omega))
theorem s_X6_isTrader {b : BX2} {r : BX6} (hb : S2 b) (R : Rl b (pX6_a r)) (p : Int) : g_X6_isTrader r p = some (zB (0 ≤ p ∧ p < pX2_traders b)) := by
  have := hb.tra
  unfold g_X6_isTrader
  rw [qA_ok (by omega) (by omega) (by omega), R.tra, oR_ok (by omega) (by omega), s_X6_isIn, oB_some, oG_ok (zB_nb _)]
  exact congrArg some (zB_congr (by omega))
theorem s_X6_areTrades (i j : Int) : g_X6_areTrades i j = some (zB ((0 ≤ i ∧ i < 8) ∧ (0 ≤ j ∧ j < 8))) := by
  unfold g_X6_areTrades
  rw [s_X6_isIn, oB_some, s_X6_isIn, oB_some]
  by_cases h1 : 0 ≤ i ∧ i ≤ 7
  · rw [zB_pos h1, if_neg (by omega)]
    by_cases h2 : 0 ≤ j ∧ j ≤ 7
    · rw [zB_pos h2, if_neg (by omega), zB_pos (by omega)]
    · rw [zB_neg h2, if_pos rfl, zB_neg (by omega)]
  · rw [zB_neg h1, if_pos rfl, zB_neg (by omega)]
theorem s_X6_isOn {b : BX2} {r : BX6} (hb : W2 b) (R : Rl b (pX6_a r)) {t p : Int} (t0 : 0 ≤ t) (t1 : t < pX2_traders b) (p0 : 0 ≤ p) (p1 : p < 24) : g_X6_isOn r t p = some (zB (pX2_standing b p = t)) := by
  have ht := hb.s.tra
  have hp := hb.s.pit
  have hf := hb.s.fr t0 t1
  unfold g_X6_isOn
  rw [qA_ok (by omega) (by omega) (by omega), R.st t0 (by omega)]
  by_cases e : pX2_starts b t = -1
  · rw [if_pos e, zB_neg]
    intro h
    cases hb.on p p0 p1 with
    | inl h2 => omega
    | inr h2 => rw [h] at h2; exact h2.2.2.1 e
  · have hs := hb.st t t0 (by omega)
    rw [if_neg e, qA_ok (by omega) (by omega) (by omega), qA_ok (by omega) (by omega) (by omega), qA_ok (by omega) (by omega) (by omega), R.fr t0 t1, oR_ok (by omega) (by omega), s_X6_isIn, oB_some]
    by_cases h : pX2_starts b t ≤ p ∧ p ≤ pX2_starts b t + pX2_fronts b t - 1
    · rw [zB_pos h, if_neg (by omega), zB_pos]
      exact hb.lie t p t0 t1 e h.1 (by omega)
    · rw [zB_neg h, if_pos rfl, zB_neg]
      intro h3
      cases hb.on p p0 p1 with
      | inl h2 => omega
      | inr h2 => rw [h3] at h2; omega
theorem s_X6_on_2 (n : Nat) {b : BX2} {r : BX6} (hb : W2 b) (R : Rl b (pX6_a r)) {p : Int} (p0 : 0 ≤ p) (p1 : p < 24) : ∀ (fu : Nat) (x : Int), 0 ≤ x → 0 < fu → pX2_traders b - x < fu → (∀ t, 0 ≤ t → t < x → pX2_standing b p ≠ t) → g_X6_on_2 n fu p x r = some (pX2_standing b p) := by
  have ht := hb.s.tra
  intro fu
  induction fu with
  | zero => intro x _ h0; omega
  | succ fu ih =>
    intro x x0 _ hf hx
    rw [g_X6_on_2.eq_2, qA_ok (by omega) (by omega) (by omega), R.tra]
    by_cases hc : pX2_traders b ≤ x
    · rw [if_pos hc]
      cases hb.on p p0 p1 with
      | inl h2 => rw [h2]
      | inr h2 => exact absurd rfl (hx _ h2.1 (by omega))
    · rw [if_neg hc, s_X6_isOn hb R x0 (by omega) p0 p1, oB_some]
      by_cases e : pX2_standing b p = x
      · rw [zB_pos e, if_neg (by omega), e]
      · rw [zB_neg e, if_pos rfl, oR_ok (by omega) (by omega)]
        refine ih _ (by omega) (by omega) (by omega) (fun t t0 t1 => ?_)
        by_cases h : t = x
        · rw [h]; exact e
        · exact hx t t0 (by omega)
theorem s_X6_on {n : Nat} (hn : 100 ≤ n) {b : BX2} {r : BX6} (hb : W2 b) (R : Rl b (pX6_a r)) {p : Int} (p0 : 0 ≤ p) (p1 : p < 24) : g_X6_on n r p = some (pX2_standing b p) := by
  have ht := hb.s.tra
  unfold g_X6_on
  exact s_X6_on_2 n hb R p0 p1 n 0 (by omega) (by omega) (by omega) (fun t t0 t1 => by omega)
theorem s_X6_rentOf_5 (n : Nat) {b : BX2} {r : BX6} (hb : S2 b) (R : Rl b (pX6_a r)) {t s : Int} (t0 : 0 ≤ t) (t1 : t < pX2_traders b) (s0 : 0 ≤ s) (s1 : s + pX2_fronts b t ≤ pX2_pitches b) : ∀ (fu : Nat) (c x : Int), 0 ≤ x → 0 < fu → pX2_fronts b t - x < fu → 0 ≤ c → c ≤ 1000 * x + 1000 → g_X6_rentOf_5 n fu t s c x r = some (c + zr (pX2_rents b) (s + x) (s + pX2_fronts b t)) := by
  have ht := hb.tra
  have hp := hb.pit
  have hf := hb.fr t0 t1
  intro fu
  induction fu with
  | zero => intro c x _ h0; omega
  | succ fu ih =>
    intro c x x0 _ hfu c0 c1
    rw [g_X6_rentOf_5.eq_2, qA_ok (by omega) (by omega) (by omega), R.fr t0 t1]
    by_cases hc : pX2_fronts b t ≤ x
    · rw [if_pos hc, zr_nil (by omega), Int.add_zero]
    · have hr := hb.rent (s + x) (by omega) (by omega)
      rw [if_neg hc, qA_ok (by omega) (by omega) (by omega), show 2 + s + x = 2 + (s + x) by omega, R.rent (by omega) (by omega), oR_ok (by omega) (by omega), oL_def, oR_ok (by omega) (by omega), ih _ _ (by omega) (by omega) (by omega) (by omega) (by omega), zr_cons (a := s + x) (by omega), show s + (x + 1) = s + x + 1 by omega, Int.add_assoc]
theorem s_X6_rentOf {n : Nat} (hn : 100 ≤ n) {b : BX2} {r : BX6} (hb : S2 b) (R : Rl b (pX6_a r)) {t s : Int} (t0 : 0 ≤ t) (t1 : t < pX2_traders b) (s0 : 0 ≤ s) (s1 : s + pX2_fronts b t ≤ pX2_pitches b) : g_X6_rentOf n r t s = some (mRent b t s) := by
  have hf := hb.fr t0 t1
  unfold g_X6_rentOf mRent
  rw [s_X6_rentOf_5 n hb R t0 t1 s0 s1 n 0 0 (by omega) (by omega) (by omega) (by omega) (by omega), Int.zero_add, Int.add_zero, show min (s + pX2_fronts b t) (pX2_pitches b) = s + pX2_fronts b t by omega]
theorem s_X6_bare_5 (n : Nat) {b : BX2} {r : BX6} (hb : S2 b) (R : Rl b (pX6_a r)) {t s : Int} (t0 : 0 ≤ t) (t1 : t < pX2_traders b) (s0 : 0 ≤ s) (s1 : s + pX2_fronts b t ≤ pX2_pitches b) : ∀ (fu : Nat) (c x : Int), 0 ≤ x → 0 < fu → pX2_fronts b t - x < fu → 0 ≤ c → c ≤ x + 1000 → g_X6_bare_5 n fu t s c x r = some (c + (if pX2_needy b t = 0 then 0 else zr (fun p => if pX2_roofs b p = 0 then 1 else 0) (s + x) (s + pX2_fronts b t))) := by
  have ht := hb.tra
  have hp := hb.pit
  have hf := hb.fr t0 t1
  have hnd := hb.need t
  intro fu
  induction fu with
  | zero => intro c x _ h0; omega
  | succ fu ih =>
    intro c x x0 _ hfu c0 c1
    rw [g_X6_bare_5.eq_2, qA_ok (by omega) (by omega) (by omega), R.fr t0 t1]
    by_cases hc : pX2_fronts b t ≤ x
    · rw [if_pos hc, zr_nil (by omega)]; simp
    · have hr := hb.roof (s + x)
      rw [if_neg hc, qA_ok (by omega) (by omega) (by omega), qA_ok (by omega) (by omega) (by omega), qA_ok (by omega) (by omega) (by omega), R.need t0 t1, show 26 + s + x = 26 + (s + x) by omega, R.roof (by omega) (by omega)]
      rw [zr_cons (a := s + x) (by omega), show s + x + 1 = s + (x + 1) by omega]
      rcases hnd with e1 | e1 <;> rcases hr with e2 | e2 <;> rw [e1, e2]
      · rw [oR_ok (by omega) (by omega), oL_def, oR_ok (by omega) (by omega), ih _ _ (by omega) (by omega) (by omega) (by omega) (by omega)]
        simp [e1]
      · rw [oR_ok (by omega) (by omega), oL_def, oR_ok (by omega) (by omega), ih _ _ (by omega) (by omega) (by omega) (by omega) (by omega)]
        simp [e1]
      · rw [oR_ok (by omega) (by omega), oL_def, oR_ok (by omega) (by omega), ih _ _ (by omega) (by omega) (by omega) (by omega) (by omega)]
        simp [e1]; omega
      · rw [oR_ok (by omega) (by omega), oL_def, oR_ok (by omega) (by omega), ih _ _ (by omega) (by omega) (by omega) (by omega) (by omega)]
        simp [e1]
theorem s_X6_bare {n : Nat} (hn : 100 ≤ n) {b : BX2} {r : BX6} (hb : S2 b) (R : Rl b (pX6_a r)) {t s : Int} (t0 : 0 ≤ t) (t1 : t < pX2_traders b) (s0 : 0 ≤ s) (s1 : s + pX2_fronts b t ≤ pX2_pitches b) : g_X6_bare n r t s = some (mFor b t s) := by
  have hf := hb.fr t0 t1
  unfold g_X6_bare mFor mOpen
  rw [s_X6_bare_5 n hb R t0 t1 s0 s1 n 0 0 (by omega) (by omega) (by omega) (by omega) (by omega), Int.zero_add, Int.add_zero, show min (s + pX2_fronts b t) (pX2_pitches b) = s + pX2_fronts b t by omega]
theorem s_X6_isRoom {b : BX2} {r : BX6} (hb : S2 b) (R : Rl b (pX6_a r)) {t s : Int} (t0 : 0 ≤ t) (t1 : t < pX2_traders b) (s0 : 0 ≤ s) (s1 : s < pX2_pitches b) : g_X6_isRoom r t s = some (zB (mInRow b t s)) := by
  have ht := hb.tra
  have hp := hb.pit
  have hf := hb.fr t0 t1
  unfold g_X6_isRoom mInRow mShare
  rw [qA_ok (by omega) (by omega) (by omega), R.fr t0 t1, oR_ok (by omega) (by omega), oL_def, qA_ok (by omega) (by omega) (by omega), R.pit]
  by_cases hc : pX2_pitches b ≤ s + pX2_fronts b t - 1
  · rw [if_pos hc, zB_neg (by omega)]
  · rw [if_neg hc, qA_ok (by omega) (by omega) (by omega), qA_ok (by omega) (by omega) (by omega), R.row (by omega) (by omega), R.row (by omega) (by omega), ite_zB]
    refine congrArg some (zB_congr ⟨fun h => ⟨by omega, by omega, by omega, h.symm⟩, fun h => h.2.2.2.symm⟩)
theorem s_X6_usedCovers_4 (n : Nat) (hn : 100 ≤ n) {b : BX2} {r : BX6} (hb : W2 b) (R : Rl b (pX6_a r)) : ∀ (fu : Nat) (c x : Int), 0 ≤ x → 0 < fu → pX2_traders b - x < fu → 0 ≤ c → c ≤ 3 * x + 1000 → g_X6_usedCovers_4 n fu c x r = some (c + zr (fun t => if pX2_starts b t = -1 then 0 else mFor b t (pX2_starts b t)) x (pX2_traders b)) := by
  have ht := hb.s.tra
  intro fu
  induction fu with
  | zero => intro c x _ h0; omega
  | succ fu ih =>
    intro c x x0 _ hf c0 c1
    rw [g_X6_usedCovers_4.eq_2, qA_ok (by omega) (by omega) (by omega), R.tra]
    unfold g_X6_usedCovers_47
    by_cases hc : pX2_traders b ≤ x
    · rw [if_pos hc, zr_nil hc, Int.add_zero]
    · rw [if_neg hc, qA_ok (by omega) (by omega) (by omega), R.st x0 (by omega), zr_cons (by omega)]
      by_cases e : pX2_starts b x = -1
      · rw [if_pos e, oR_ok (by omega) (by omega), oL_def, oR_ok (by omega) (by omega), ih _ _ (by omega) (by omega) (by omega) (by omega) (by omega)]
        simp only [e, if_true, Int.zero_add, Int.add_zero]
      · have hs := hb.st x x0 (by omega)
        have hf := hb.s.fr x0 (by omega)
        have hm := mFor_b b x (pX2_starts b x) (by omega)
        rw [if_neg e, qA_ok (by omega) (by omega) (by omega), s_X6_bare hn hb.s R x0 (by omega) (by omega) (by omega), oB_some, oR_ok (by omega) (by omega), oL_def, oR_ok (by omega) (by omega), ih _ _ (by omega) (by omega) (by omega) (by omega) (by omega)]
        simp only [e, if_false, Int.add_assoc]
theorem s_X6_usedCovers {n : Nat} (hn : 100 ≤ n) {b : BX2} {r : BX6} (hb : W2 b) (R : Rl b (pX6_a r)) : g_X6_usedCovers n r = some (pX2_coversBusy b) := by
  have ht := hb.s.tra
  unfold g_X6_usedCovers
  rw [s_X6_usedCovers_4 n hn hb R n 0 0 (by omega) (by omega) (by omega) (by omega) (by omega), Int.zero_add, hb.busy]
theorem s_X6_incomeNow_4 (n : Nat) (hn : 100 ≤ n) {b : BX2} {r : BX6} (hb : W2 b) (R : Rl b (pX6_a r)) : ∀ (fu : Nat) (c x : Int), 0 ≤ x → 0 < fu → pX2_traders b - x < fu → 0 ≤ c → c ≤ 3000 * x + 1000 → g_X6_incomeNow_4 n fu c x r = some (c + zr (fun t => if pX2_starts b t = -1 then 0 else mRent b t (pX2_starts b t)) x (pX2_traders b)) := by
  have ht := hb.s.tra
  intro fu
  induction fu with
  | zero => intro c x _ h0; omega
  | succ fu ih =>
    intro c x x0 _ hf c0 c1
    rw [g_X6_incomeNow_4.eq_2, qA_ok (by omega) (by omega) (by omega), R.tra]
    unfold g_X6_incomeNow_47
    by_cases hc : pX2_traders b ≤ x
    · rw [if_pos hc, zr_nil hc, Int.add_zero]
    · rw [if_neg hc, qA_ok (by omega) (by omega) (by omega), R.st x0 (by omega), zr_cons (by omega)]
      by_cases e : pX2_starts b x = -1
      · rw [if_pos e, oR_ok (by omega) (by omega), oL_def, oR_ok (by omega) (by omega), ih _ _ (by omega) (by omega) (by omega) (by omega) (by omega)]
        simp only [e, if_true, Int.zero_add, Int.add_zero]
      · have hs := hb.st x x0 (by omega)
        have hf := hb.s.fr x0 (by omega)
        have hm := mRent_b hb.s x0 (by omega) (by omega : 0 ≤ pX2_starts b x)
        rw [if_neg e, qA_ok (by omega) (by omega) (by omega), s_X6_rentOf hn hb.s R x0 (by omega) (by omega) (by omega), oB_some, oR_ok (by omega) (by omega), oL_def, oR_ok (by omega) (by omega), ih _ _ (by omega) (by omega) (by omega) (by omega) (by omega)]
        simp only [e, if_false, Int.add_assoc]
theorem s_X6_incomeNow {n : Nat} (hn : 100 ≤ n) {b : BX2} {r : BX6} (hb : W2 b) (R : Rl b (pX6_a r)) : g_X6_incomeNow n r = some (mIncome b) := by
  have ht := hb.s.tra
  unfold g_X6_incomeNow mIncome
  rw [s_X6_incomeNow_4 n hn hb R n 0 0 (by omega) (by omega) (by omega) (by omega) (by omega), Int.zero_add]
theorem s_X6_placed_4 (n : Nat) {b : BX2} {r : BX6} (R : Rl b (pX6_a r)) : ∀ (fu : Nat) (c x : Int), 0 ≤ x → x ≤ 8 → 0 < fu → 8 - x < fu → 0 ≤ c → c ≤ x + 1000 → g_X6_placed_4 n fu c x r = some (c + zr (fun t => if pX2_starts b t = -1 then 0 else 1) x 8) := by
  intro fu
  induction fu with
  | zero => intro c x _ _ h0; omega
  | succ fu ih =>
    intro c x x0 x8 _ hf c0 c1
    rw [g_X6_placed_4.eq_2]
    unfold g_X6_placed_29
    by_cases hc : 8 ≤ x
    · rw [if_pos hc, zr_nil hc, Int.add_zero]
    · rw [if_neg hc, qA_ok (by omega) (by omega) (by omega), R.st x0 (by omega), zr_cons (by omega)]
      by_cases e : pX2_starts b x = -1
      · rw [if_pos e, oR_ok (by omega) (by omega), oL_def, oR_ok (by omega) (by omega), ih _ _ (by omega) (by omega) (by omega) (by omega) (by omega) (by omega)]
        simp only [e, if_true, Int.zero_add, Int.add_zero]
      · rw [if_neg e, oR_ok (by omega) (by omega), oL_def, oR_ok (by omega) (by omega), ih _ _ (by omega) (by omega) (by omega) (by omega) (by omega) (by omega)]
        simp only [e, if_false, Int.add_assoc]
theorem s_X6_placed {n : Nat} (hn : 100 ≤ n) {b : BX2} {r : BX6} (hb : W2 b) (R : Rl b (pX6_a r)) : g_X6_placed n r = some (mPlaced b) := by
  have ht := hb.s.tra
  unfold g_X6_placed mPlaced
  rw [s_X6_placed_4 n R n 0 0 (by omega) (by omega) (by omega) (by omega) (by omega) (by omega), Int.zero_add, zr_split ht.1 ht.2, zr_0 (a := pX2_traders b) (b := 8), Int.add_zero]
  intro i i0 i1
  have h := hb.st i (by omega) i1
  rw [if_pos (by omega)]
theorem s_X6_doClash {b : BX2} {r : BX6} (hb : S2 b) (R : Rl b (pX6_a r)) {t u : Int} (t0 : 0 ≤ t) (t1 : t < pX2_traders b) (u0 : 0 ≤ u) (u1 : u < pX2_traders b) : g_X6_doClash r t u = some (zB (mClash b t u)) := by
  have ht := hb.tra
  have h1 := (hb.trd t t0 t1).1
  have h2 := (hb.trd u u0 u1).1
  unfold g_X6_doClash
  rw [qA_ok (by omega) (by omega) (by omega), qA_ok (by omega) (by omega) (by omega), R.trd t0 t1, R.trd u0 u1, qA_ok (by omega) (by omega) (by omega), R.cl (by omega) (by omega) (by omega) (by omega)]
  by_cases h : cl b (pX2_trades b t) (pX2_trades b u)
  · rw [zB_pos h, if_pos rfl, zB_pos ⟨by omega, h⟩]
  · rw [zB_neg h, if_neg (by omega), zB_neg (fun x => h x.2)]
theorem s_X6_isFree_2 (n : Nat) (hn : 100 ≤ n) {b : BX2} {r : BX6} (hb : W2 b) (R : Rl b (pX6_a r)) {t s : Int} (t0 : 0 ≤ t) (t1 : t < pX2_traders b) (s0 : 0 ≤ s) (s1 : s + pX2_fronts b t ≤ pX2_pitches b) : ∀ (fu : Nat) (x : Int), 0 ≤ x → 0 < fu → pX2_fronts b t - x < fu → g_X6_isFree_2 n fu t s x r = some (zB (∀ p, s + x ≤ p → p < s + pX2_fronts b t → pX2_standing b p = -1)) := by
  have ht := hb.s.tra
  have hp := hb.s.pit
  have hf := hb.s.fr t0 t1
  intro fu
  induction fu with
  | zero => intro x _ h0; omega
  | succ fu ih =>
    intro x x0 _ hfu
    rw [g_X6_isFree_2.eq_2, qA_ok (by omega) (by omega) (by omega), R.fr t0 t1]
    by_cases hc : pX2_fronts b t ≤ x
    · rw [if_pos hc, zB_pos]; intro p h1 h2; omega
    · rw [if_neg hc, oR_ok (by omega) (by omega), s_X6_on hn hb R (by omega) (by omega), oB_some]
      by_cases e : pX2_standing b (s + x) = -1
      · rw [if_pos e, oR_ok (by omega) (by omega), ih _ (by omega) (by omega) (by omega)]
        refine congrArg some (zB_congr ⟨fun h p h1 h2 => ?_, fun h p h1 h2 => h p (by omega) h2⟩)
        by_cases hq : p = s + x
        · rw [hq]; exact e
        · exact h p (by omega) h2
      · rw [if_neg e, zB_neg]; intro h; exact e (h _ (by omega) (by omega))
theorem s_X6_isFree {n : Nat} (hn : 100 ≤ n) {b : BX2} {r : BX6} (hb : W2 b) (R : Rl b (pX6_a r)) {t s : Int} (t0 : 0 ≤ t) (t1 : t < pX2_traders b) (s0 : 0 ≤ s) (s1 : s + pX2_fronts b t ≤ pX2_pitches b) : g_X6_isFree n r t s = some (zB (mFree b t s)) := by
  have hf := hb.s.fr t0 t1
  unfold g_X6_isFree mFree
  rw [s_X6_isFree_2 n hn hb R t0 t1 s0 s1 n 0 (by omega) (by omega) (by omega), Int.add_zero, show min (s + pX2_fronts b t) (pX2_pitches b) = s + pX2_fronts b t by omega]
theorem s_X6_clashesAt {n : Nat} (hn : 100 ≤ n) {b : BX2} {r : BX6} (hb : W2 b) (R : Rl b (pX6_a r)) {t s p : Int} (t0 : 0 ≤ t) (t1 : t < pX2_traders b) (s0 : 0 ≤ s) (s1 : s < pX2_pitches b) : g_X6_clashesAt n r t s p = some (zB ((0 ≤ p ∧ p < pX2_pitches b) ∧ pX2_rows b p = pX2_rows b s ∧ mClash b t (pX2_standing b p))) := by
  have ht := hb.s.tra
  have hp := hb.s.pit
  unfold g_X6_clashesAt
  rw [s_X6_isPitch hb.s R, oB_some]
  by_cases h1 : 0 ≤ p ∧ p < pX2_pitches b
  · rw [zB_pos h1, if_neg (by omega), qA_ok (by omega) (by omega) (by omega), qA_ok (by omega) (by omega) (by omega), R.row h1.1 h1.2, R.row s0 s1, s_X6_on hn hb R h1.1 (by omega), oB_some]
    by_cases h2 : pX2_rows b p = pX2_rows b s
    · rw [if_pos h2]
      by_cases h3 : pX2_standing b p = -1
      · rw [if_pos h3, zB_neg (fun h => h.2.2.1 h3)]
      · have := hb.std p h1.1 (by omega)
        rw [if_neg h3, oB_some, s_X6_doClash hb.s R t0 t1 (by omega) (by omega), oB_some]
        by_cases h4 : mClash b t (pX2_standing b p)
        · rw [zB_pos h4, if_neg (by omega), zB_pos ⟨h1, h2, h4⟩]
        · rw [zB_neg h4, if_pos rfl, zB_neg (fun h => h4 h.2.2)]
    · rw [if_neg h2, zB_neg (fun h => h2 h.2.1)]
  · rw [zB_neg h1, if_pos rfl, zB_neg (fun h => h1 h.1)]
theorem s_X6_hinders {n : Nat} (hn : 100 ≤ n) {b : BX2} {r : BX6} (hb : W2 b) (R : Rl b (pX6_a r)) {t s : Int} (t0 : 0 ≤ t) (t1 : t < pX2_traders b) (s0 : 0 ≤ s) (s1 : s < pX2_pitches b) : g_X6_hinders n r t s = some (mHind b t s) := by
  have ht := hb.s.tra
  have hp := hb.s.pit
  have hf := hb.s.fr t0 t1
  have hk := busy_b hb
  have hm := mFor_b b t s (by omega)
  unfold g_X6_hinders g_X6_hinders_113 mHind
  rw [qA_ok (by omega) (by omega) (by omega), R.st t0 (by omega)]
  by_cases e1 : pX2_starts b t = -1
  · rw [if_pos e1, if_pos e1, s_X6_isRoom hb.s R t0 t1 s0 s1, oB_some]
    by_cases e2 : mInRow b t s
    · have hl := mInRow_lt e2
      rw [zB_pos e2, if_neg (by omega), cif_pos e2, s_X6_isFree hn hb R t0 t1 s0 (by omega), oB_some]
      by_cases e3 : mFree b t s
      · rw [zB_pos e3, if_neg (by omega), cif_pos e3, s_X6_rentOf hn hb.s R t0 t1 s0 (by omega), oB_some, qA_ok (by omega) (by omega) (by omega), R.lim t0 t1]
        by_cases e4 : mRent b t s ≤ pX2_limits b t
        · rw [if_pos e4, if_pos e4, s_X6_usedCovers hn hb R, oB_some, s_X6_bare hn hb.s R t0 t1 s0 (by omega), oB_some, qA_ok (by omega) (by omega) (by omega), oR_ok (by omega) (by omega), R.cov]
          by_cases e5 : pX2_coversBusy b + mFor b t s ≤ pX2_covers b
          · rw [if_pos e5, if_pos e5, oR_ok (by omega) (by omega), s_X6_clashesAt hn hb R t0 t1 s0 s1, oB_some, qA_ok (by omega) (by omega) (by omega), R.fr t0 t1, oR_ok (by omega) (by omega), s_X6_clashesAt hn hb R t0 t1 s0 s1, oB_some]
            unfold mInRow mShare at e2
            have k1 : ((0 ≤ s - 1 ∧ s - 1 < pX2_pitches b) ∧ pX2_rows b (s - 1) = pX2_rows b s ∧ mClash b t (pX2_standing b (s - 1))) ↔ (mShare b (s - 1) s ∧ mClash b t (pX2_standing b (s - 1))) := by
              unfold mShare
              exact ⟨fun h => ⟨⟨by omega, by omega, by omega, h.2.1⟩, h.2.2⟩, fun h => ⟨by omega, h.1.2.2.2, h.2⟩⟩
            have k2 : ((0 ≤ s + pX2_fronts b t ∧ s + pX2_fronts b t < pX2_pitches b) ∧ pX2_rows b (s + pX2_fronts b t) = pX2_rows b s ∧ mClash b t (pX2_standing b (s + pX2_fronts b t))) ↔ (mShare b (s + pX2_fronts b t - 1) (s + pX2_fronts b t) ∧ mClash b t (pX2_standing b (s + pX2_fronts b t))) := by
              unfold mShare
              exact ⟨fun h => ⟨⟨by omega, by omega, by omega, by rw [h.2.1, e2.2.2.2]⟩, h.2.2⟩, fun h => ⟨by omega, by rw [← h.1.2.2.2, e2.2.2.2], h.2⟩⟩
            rw [zB_congr k1, zB_congr k2]
            unfold mBeside
            by_cases e6 : mShare b (s - 1) s ∧ mClash b t (pX2_standing b (s - 1))
            · rw [zB_pos e6, if_neg (by omega), cif_pos (.inl e6)]
            · rw [zB_neg e6, if_pos rfl]
              by_cases e7 : mShare b (s + pX2_fronts b t - 1) (s + pX2_fronts b t) ∧ mClash b t (pX2_standing b (s + pX2_fronts b t))
              · rw [zB_pos e7, if_neg (by omega), cif_pos (.inr e7)]
              · rw [zB_neg e7, if_pos rfl, cif_neg]
                rintro (h | h)
                · exact e6 h
                · exact e7 h
          · rw [if_neg e5, if_neg e5]
        · rw [if_neg e4, if_neg e4]
      · rw [zB_neg e3, if_pos rfl, cif_neg e3]
    · rw [zB_neg e2, if_pos rfl, cif_neg e2]
  · rw [if_neg e1, if_neg e1]
