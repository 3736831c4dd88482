/-! The reference's trial placement: clear, fits, lays, sound. -/
theorem s_X6_isClear_2 (n : Nat) {b : BX2} {r : BX6} (hb : S2 b) (R : Rl b (pX6_a r)) {t s : Int} (t0 : 0 ≤ t) (t1 : t < pX2_traders b) (s0 : 0 ≤ s) (s1 : s + pX2_fronts b t ≤ pX2_pitches b) : ∀ (fu : Nat) (x : Int), 0 ≤ x → 0 < fu → pX2_fronts b t - x < fu → g_X6_isClear_2 n fu t s x r = some (zB (∀ p, s + x ≤ p → p < s + pX2_fronts b t → pX6_stands r p = -1)) := by
  have ht := hb.tra
  have hp := hb.pit
  have hf := hb.fr t0 t1
  intro fu
  induction fu with
  | zero => intro x _ h0; omega
  | succ fu ih =>
    intro x x0 _ hfu
    rw [g_X6_isClear_2.eq_2, qA_ok (by omega) (by omega) (by omega), R.fr t0 t1]
    by_cases hc : pX2_fronts b t ≤ x
    · rw [if_pos hc, zB_pos]; intro p h1 h2; omega
    · rw [if_neg hc, qA_ok (by omega) (by omega) (by omega)]
      by_cases e : pX6_stands r (s + x) = -1
      · rw [if_pos e, oR_ok (by omega) (by omega), ih _ (by omega) (by omega) (by omega)]
        refine congrArg some (zB_congr ⟨fun h p h1 h2 => ?_, fun h p h1 h2 => h p (by omega) h2⟩)
        by_cases hq : p = s + x
        · rw [hq]; exact e
        · exact h p (by omega) h2
      · rw [if_neg e, zB_neg]; intro h; exact e (h _ (by omega) (by omega))
theorem s_X6_isClear {n : Nat} (hn : 100 ≤ n) {b : BX2} {r : BX6} (hb : S2 b) (R : Rl b (pX6_a r)) {t s : Int} (t0 : 0 ≤ t) (t1 : t < pX2_traders b) (s0 : 0 ≤ s) (s1 : s + pX2_fronts b t ≤ pX2_pitches b) : g_X6_isClear n r t s = some (zB (∀ p, s ≤ p → p < s + pX2_fronts b t → pX6_stands r p = -1)) := by
  have hf := hb.fr t0 t1
  unfold g_X6_isClear
  rw [s_X6_isClear_2 n hb R t0 t1 s0 s1 n 0 (by omega) (by omega) (by omega), Int.add_zero]
def mFits (b : BX2) (v : Int → Int) (t s : Int) : Prop := mInRow b t s ∧ mRent b t s ≤ pX2_limits b t ∧ ∀ p, s ≤ p → p < s + pX2_fronts b t → v p = -1
theorem s_X6_fits {n : Nat} (hn : 100 ≤ n) {b : BX2} {r : BX6} (hb : S2 b) (R : Rl b (pX6_a r)) {t s : Int} (t0 : 0 ≤ t) (t1 : t < pX2_traders b) (s0 : 0 ≤ s) (s1 : s < pX2_pitches b) : g_X6_fits n r t s = some (zB (mFits b (pX6_stands r) t s)) := by
  have ht := hb.tra
  unfold g_X6_fits mFits
  rw [s_X6_isRoom hb R t0 t1 s0 s1, oB_some]
  by_cases e1 : mInRow b t s
  · have hl := mInRow_lt e1
    rw [zB_pos e1, if_neg (by omega), s_X6_rentOf hn hb R t0 t1 s0 (by omega), oB_some, qA_ok (by omega) (by omega) (by omega), R.lim t0 t1]
    by_cases e2 : mRent b t s ≤ pX2_limits b t
    · rw [if_neg (by omega), s_X6_isClear hn hb R t0 t1 s0 (by omega), oB_some]
      by_cases e3 : ∀ p, s ≤ p → p < s + pX2_fronts b t → pX6_stands r p = -1
      · rw [zB_pos e3, if_neg (by omega), zB_pos ⟨e1, e2, e3⟩]
      · rw [zB_neg e3, if_pos rfl, zB_neg (fun h => e3 h.2.2)]
    · rw [if_pos (by omega), zB_neg (fun h => e2 h.2.1)]
  · rw [zB_neg e1, if_pos rfl, zB_neg (fun h => e1 h.1)]
theorem s_X6_lays_3 (n : Nat) {b : BX2} {a : Int → Int} (hb : S2 b) (R : Rl b a) {t s : Int} (w : Int) (t0 : 0 ≤ t) (t1 : t < pX2_traders b) (s0 : 0 ≤ s) (s1 : s + pX2_fronts b t ≤ pX2_pitches b) : ∀ (fu : Nat) (x : Int) (r : BX6), pX6_a r = a → 0 ≤ x → 0 < fu → pX2_fronts b t - x < fu → g_X6_lays_3 n fu t s w x r = some (sX6_stands r (mLay (pX6_stands r) (s + x) (s + pX2_fronts b t) w)) := by
  have ht := hb.tra
  have hp := hb.pit
  have hf := hb.fr t0 t1
  intro fu
  induction fu with
  | zero => intro x r _ _ h0; omega
  | succ fu ih =>
    intro x r ha x0 _ hfu
    rw [g_X6_lays_3.eq_2, qA_ok (by omega) (by omega) (by omega), ha, R.fr t0 t1]
    by_cases hc : pX2_fronts b t ≤ x
    · rw [if_pos hc, mLay_0 (by omega), iX6_stands]
    · rw [if_neg hc, qA_ok (by omega) (by omega) (by omega), oL_def, oR_ok (by omega) (by omega), ih _ _ (by rw [eX6_a_stands]; exact ha) (by omega) (by omega) (by omega), uX6_stands, eX6_stands_stands, show s + (x + 1) = s + x + 1 by omega, mLay_1 (by omega)]
theorem s_X6_lays {n : Nat} (hn : 100 ≤ n) {b : BX2} {r : BX6} (hb : S2 b) (R : Rl b (pX6_a r)) {t s : Int} (w : Int) (t0 : 0 ≤ t) (t1 : t < pX2_traders b) (s0 : 0 ≤ s) (s1 : s + pX2_fronts b t ≤ pX2_pitches b) : g_X6_lays n r t s w = some (sX6_stands r (mLay (pX6_stands r) s (s + pX2_fronts b t) w)) := by
  have hf := hb.fr t0 t1
  unfold g_X6_lays
  rw [s_X6_lays_3 n hb R w t0 t1 s0 s1 n 0 r rfl (by omega) (by omega) (by omega), Int.add_zero]
def NoClV (b : BX2) (v : Int → Int) (x : Int) : Prop := ∀ p, x ≤ p → p + 1 < pX2_pitches b → pX2_rows b p = pX2_rows b (p + 1) → v p ≠ -1 → v (p + 1) ≠ -1 → v p ≠ v (p + 1) → ¬ mClash b (v p) (v (p + 1))
theorem s_X6_isSound_65 (n : Nat) {b : BX2} {r : BX6} (hb : S2 b) (R : Rl b (pX6_a r)) (hv : ∀ p, 0 ≤ p → p < 24 → -1 ≤ pX6_stands r p ∧ pX6_stands r p < pX2_traders b) : ∀ (fu : Nat) (x : Int), 0 ≤ x → x ≤ 24 → 0 < fu → pX2_pitches b - x < fu → g_X6_isSound_65 n fu x r = some (zB (NoClV b (pX6_stands r) x)) := by
  have ht := hb.tra
  have hp := hb.pit
  intro fu
  induction fu with
  | zero => intro x _ _ h0; omega
  | succ fu ih =>
    intro x x0 x24 _ hfu
    rw [g_X6_isSound_65.eq_2, qA_ok (by omega) (by omega) (by omega), R.pit, oR_ok (by omega) (by omega)]
    unfold g_X6_isSound_146
    by_cases hc : pX2_pitches b ≤ x + 1
    · rw [if_pos hc, zB_pos]; intro p h1 h2; omega
    · rw [if_neg hc, qA_ok (by omega) (by omega) (by omega), oL_def, qA_ok (by omega) (by omega) (by omega), oL_def, qA_ok (by omega) (by omega) (by omega), qA_ok (by omega) (by omega) (by omega), show 50 + x + 1 = 50 + (x + 1) by omega, R.row x0 (by omega), R.row (by omega) (by omega), oR_ok (by omega) (by omega), ih _ (by omega) (by omega) (by omega) (by omega)]
      have key : (pX2_rows b x = pX2_rows b (x + 1) → pX6_stands r x ≠ -1 → pX6_stands r (x + 1) ≠ -1 → pX6_stands r x ≠ pX6_stands r (x + 1) → ¬ mClash b (pX6_stands r x) (pX6_stands r (x + 1))) → some (zB (NoClV b (pX6_stands r) (x + 1))) = some (zB (NoClV b (pX6_stands r) x)) := by
        intro h
        refine congrArg some (zB_congr ⟨fun k p p0 p1 => ?_, fun k p p0 p1 => k p (by omega) p1⟩)
        by_cases hx : p = x
        · rw [hx]; exact h
        · exact k p (by omega) p1
      have o1 := hv x x0 (by omega)
      have o2 := hv (x + 1) (by omega) (by omega)
      by_cases e0 : pX2_rows b x = pX2_rows b (x + 1)
      · rw [if_pos e0]
        by_cases e1 : pX6_stands r x = -1
        · rw [if_pos e1]; exact key (fun _ h => absurd e1 h)
        · rw [if_neg e1]
          by_cases e2 : pX6_stands r (x + 1) = -1
          · rw [if_pos e2]; exact key (fun _ _ h => absurd e2 h)
          · rw [if_neg e2]
            by_cases e3 : pX6_stands r x = pX6_stands r (x + 1)
            · rw [if_pos e3]; exact key (fun _ _ _ h => absurd e3 h)
            · rw [if_neg e3, s_X6_doClash hb R (by omega) (by omega) (by omega) (by omega), oB_some]
              by_cases e4 : mClash b (pX6_stands r x) (pX6_stands r (x + 1))
              · rw [zB_pos e4, if_neg (by omega), zB_neg]; intro h; exact h x (by omega) (by omega) e0 e1 e2 e3 e4
              · rw [zB_neg e4, if_pos rfl]; exact key (fun _ _ _ _ => e4)
      · rw [if_neg e0]; exact key (fun h => absurd h e0)
noncomputable def tSum (b : BX2) (st : Int → Int) (x : Int) : Int := zr (fun t => if st t = -1 then 0 else mFor b t (st t)) x (pX2_traders b)
theorem s_X6_isSound_4 (n : Nat) (hn : 100 ≤ n) {b : BX2} {r : BX6} (hb : S2 b) (R : Rl b (pX6_a r)) (hv : ∀ p, 0 ≤ p → p < 24 → -1 ≤ pX6_stands r p ∧ pX6_stands r p < pX2_traders b) (hst : ∀ t, 0 ≤ t → t < pX2_traders b → pX6_tried r t = -1 ∨ (0 ≤ pX6_tried r t ∧ pX6_tried r t + pX2_fronts b t ≤ pX2_pitches b)) : ∀ (fu : Nat) (c x : Int), 0 ≤ x → 0 < fu → pX2_traders b - x < fu → 0 ≤ c → c ≤ 3 * x + 1000 → g_X6_isSound_4 n fu c x r = some (zB (c + tSum b (pX6_tried r) x ≤ pX2_covers b ∧ NoClV b (pX6_stands r) 0)) := by
  have ht := hb.tra
  have hp := hb.pit
  intro fu
  induction fu with
  | zero => intro c x _ h0; omega
  | succ fu ih =>
    intro c x x0 _ hf c0 c1
    rw [g_X6_isSound_4.eq_2, qA_ok (by omega) (by omega) (by omega), R.tra]
    unfold g_X6_isSound_41 tSum
    by_cases hc : pX2_traders b ≤ x
    · rw [if_pos hc, zr_nil hc, Int.add_zero, qA_ok (by omega) (by omega) (by omega), R.cov, s_X6_isSound_65 n hb R hv n 0 (by omega) (by omega) (by omega) (by omega)]
      by_cases h1 : c ≤ pX2_covers b
      · rw [if_pos h1]; exact congrArg some (zB_congr ⟨fun h => ⟨h1, h⟩, fun h => h.2⟩)
      · rw [if_neg h1, zB_neg (fun h => h1 h.1)]
    · rw [if_neg hc, qA_ok (by omega) (by omega) (by omega), zr_cons (by omega)]
      by_cases e : pX6_tried r x = -1
      · rw [if_pos e, oR_ok (by omega) (by omega), oL_def, oR_ok (by omega) (by omega), ih _ _ (by omega) (by omega) (by omega) (by omega) (by omega)]
        unfold tSum
        simp only [e, if_true, Int.zero_add, Int.add_zero]
      · have hs := hst x x0 (by omega)
        have hf := hb.fr x0 (by omega)
        have hm := mFor_b b x (pX6_tried r x) (by omega)
        rw [if_neg e, qA_ok (by omega) (by omega) (by omega), s_X6_bare hn hb R x0 (by omega) (by omega) (by omega), oB_some, oR_ok (by omega) (by omega), oL_def, oR_ok (by omega) (by omega), ih _ _ (by omega) (by omega) (by omega) (by omega) (by omega)]
        unfold tSum
        simp only [e, if_false, Int.add_assoc]
theorem s_X6_isSound {n : Nat} (hn : 100 ≤ n) {b : BX2} {r : BX6} (hb : S2 b) (R : Rl b (pX6_a r)) (hv : ∀ p, 0 ≤ p → p < 24 → -1 ≤ pX6_stands r p ∧ pX6_stands r p < pX2_traders b) (hst : ∀ t, 0 ≤ t → t < pX2_traders b → pX6_tried r t = -1 ∨ (0 ≤ pX6_tried r t ∧ pX6_tried r t + pX2_fronts b t ≤ pX2_pitches b)) : g_X6_isSound n r = some (zB (tSum b (pX6_tried r) 0 ≤ pX2_covers b ∧ NoClV b (pX6_stands r) 0)) := by
  have ht := hb.tra
  unfold g_X6_isSound
  rw [s_X6_isSound_4 n hn hb R hv hst n 0 0 (by omega) (by omega) (by omega) (by omega) (by omega), Int.zero_add]
/-! a sound trial is a valid market, and the other way -/
theorem lay_r {b : BX2} {st v : Int → Int} (ht : 0 ≤ pX2_traders b) (h : LayOf b st v) : ∀ p, 0 ≤ p → p < 24 → -1 ≤ v p ∧ v p < pX2_traders b := by
  intro p p0 p1
  cases h.1 p p0 p1 with
  | inl h2 => omega
  | inr h2 => omega
theorem V2_mk {b : BX2} {st v : Int → Int} (hb : V2 b) (h : LayOf b st v) (hst : ∀ t, 0 ≤ t → t < 8 → st t = -1 ∨ (t < pX2_traders b ∧ mInRow b t (st t) ∧ mRent b t (st t) ≤ pX2_limits b t)) (hc : tSum b st 0 ≤ pX2_covers b) (hn : NoClV b v 0) : V2 (mMk b st v) := by
  have ht := hb.s.tra
  have hp := hb.s.pit
  have hs := mMk_same b st v
  have hw : W2 (mMk b st v) := mMk_W2 hb.s h (fun t t0 t1 => by
    rcases hst t t0 t1 with k | ⟨k1, k2, k3⟩
    · exact .inl k
    · have := mInRow_lt k2; right; omega)
  refine ⟨hw, hs.sy.2 hb.2.1, hb.2.2.1, ?_, hc, ?_⟩
  · intro t t0 t1 k
    have t1 : t < pX2_traders b := t1
    rw [mMk_st b st v t0 (by omega)] at k ⊢
    rw [hs.inRow, hs.rent]
    rcases hst t t0 (by omega) with q | q
    · exact absurd q k
    · exact q.2
  · intro p p0 p1 hr h1 h2 h3
    have p1 : p + 1 < pX2_pitches b := p1
    rw [mMk_on b st v p0 (by omega)] at h1 h3 ⊢
    rw [mMk_on b st v (by omega) (by omega)] at h2 h3 ⊢
    rw [hs.clash]
    exact hn p p0 p1 hr h1 h2 h3
theorem V2_to {b c : BX2} (hc : V2 c) (hs : Same c b) {st v : Int → Int} (hb : S2 b) (h : LayOf b st v) (e : ∀ t, 0 ≤ t → t < 8 → pX2_starts c t = st t) : tSum b st 0 ≤ pX2_covers b ∧ NoClV b v 0 := by
  have ht := hb.tra
  have hp := hb.pit
  have hl : LayOf b st (pX2_standing c) := by
    have k := hc.w.lay
    refine ⟨?_, ?_⟩
    · intro p p0 p1
      cases k.1 p p0 p1 with
      | inl k2 => exact .inl k2
      | inr k2 => right; rw [hs.2.2.2.2.1, hs.2.2.2.2.2.2.1] at k2; rw [← e _ k2.1 (by omega)]; exact k2
    · intro t p t0 t1 h1 h2 h3
      rw [← e t t0 (by omega)] at h1 h2 h3
      exact k.2 t p t0 (by rw [hs.2.2.2.2.1]; exact t1) h1 h2 (by rw [hs.2.2.2.2.2.2.1]; exact h3)
  have hu := lay_uniq h hl
  refine ⟨?_, ?_⟩
  · have hk := hc.2.2.2.2.1
    rw [hc.w.busy, hs.2.2.2.2.2.2.2.2.2.2, hs.2.2.2.2.1] at hk
    have : tSum b st 0 = zr (fun t => if pX2_starts c t = -1 then 0 else mFor c t (pX2_starts c t)) 0 (pX2_traders b) := by
      unfold tSum
      apply zr_congr
      intro i i0 i1
      show (if st i = -1 then 0 else mFor b i (st i)) = (if pX2_starts c i = -1 then 0 else mFor c i (pX2_starts c i))
      rw [hs.for, e i i0 (by omega)]
    omega
  · intro p p0 p1 hr h1 h2 h3
    rw [hu p p0 (by omega)] at h1 h3 ⊢
    rw [hu (p + 1) (by omega) (by omega)] at h2 h3 ⊢
    have := hc.2.2.2.2.2 p p0 (by rw [hs.1]; exact p1) (by rw [hs.2.1]; exact hr) h1 h2 h3
    rw [hs.clash] at this
    exact this
