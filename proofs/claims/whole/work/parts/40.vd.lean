/-! Placements by their starts alone: a market made of starts and a layout. -/
def LayOf (b : BX2) (st v : Int → Int) : Prop :=
  (∀ p, 0 ≤ p → p < 24 → v p = -1 ∨ (0 ≤ v p ∧ v p < pX2_traders b ∧ st (v p) ≠ -1 ∧ st (v p) ≤ p ∧ p < st (v p) + pX2_fronts b (v p))) ∧
  (∀ t p, 0 ≤ t → t < pX2_traders b → st t ≠ -1 → st t ≤ p → p < st t + pX2_fronts b t → v p = t)
theorem W2.lay {b : BX2} (h : W2 b) : LayOf b (pX2_starts b) (pX2_standing b) := ⟨h.on, h.lie⟩
theorem lay_none (b : BX2) {st v : Int → Int} (h1 : ∀ t, 0 ≤ t → t < pX2_traders b → st t = -1) (h2 : ∀ p, 0 ≤ p → p < 24 → v p = -1) : LayOf b st v :=
  ⟨fun p p0 p1 => .inl (h2 p p0 p1), fun t p t0 t1 h => absurd (h1 t t0 t1) h⟩
theorem lay_add {b : BX2} {st v : Int → Int} (h : LayOf b st v) {t s : Int} (t0 : 0 ≤ t) (t1 : t < pX2_traders b) (e1 : st t = -1) (s0 : 0 ≤ s) (hfree : ∀ p, s ≤ p → p < s + pX2_fronts b t → v p = -1) : LayOf b (updZ st t s) (mLay v s (s + pX2_fronts b t) t) := by
  refine ⟨?_, ?_⟩
  · intro p p0 p1
    unfold mLay
    by_cases hq : s ≤ p ∧ p < s + pX2_fronts b t
    · rw [if_pos hq, updZ_at]; exact .inr ⟨t0, t1, by omega, hq.1, hq.2⟩
    · rw [if_neg hq]
      cases h.1 p p0 p1 with
      | inl h2 => exact .inl h2
      | inr h2 =>
        have hne : v p ≠ t := by intro he; rw [he] at h2; exact h2.2.2.1 e1
        rw [updZ_ne hne]; exact .inr h2
  · intro u p u0 u1 hu h2 h3
    unfold mLay
    by_cases he : u = t
    · rw [he, updZ_at] at h2 h3
      rw [if_pos ⟨h2, h3⟩, he]
    · rw [updZ_ne he] at hu h2 h3
      have h4 := h.2 u p u0 u1 hu h2 h3
      rw [if_neg]
      · exact h4
      · intro hq; have := hfree p hq.1 hq.2; omega
theorem lay_del {b : BX2} {st v : Int → Int} (h : LayOf b st v) {t : Int} (t0 : 0 ≤ t) (t1 : t < pX2_traders b) (e1 : st t ≠ -1) : LayOf b (updZ st t (-1)) (mLay v (st t) (st t + pX2_fronts b t) (-1)) := by
  refine ⟨?_, ?_⟩
  · intro p p0 p1
    unfold mLay
    by_cases hq : st t ≤ p ∧ p < st t + pX2_fronts b t
    · rw [if_pos hq]; exact .inl rfl
    · rw [if_neg hq]
      cases h.1 p p0 p1 with
      | inl h2 => exact .inl h2
      | inr h2 =>
        have hne : v p ≠ t := by intro he; rw [he] at h2; omega
        rw [updZ_ne hne]; exact .inr h2
  · intro u p u0 u1 hu h2 h3
    have hne : u ≠ t := by intro he; rw [he, updZ_at] at hu; exact hu rfl
    rw [updZ_ne hne] at hu h2 h3
    have h4 := h.2 u p u0 u1 hu h2 h3
    unfold mLay
    rw [if_neg]
    · exact h4
    · intro hq; have h5 := h.2 t p t0 t1 e1 hq.1 hq.2; exact hne (h4.symm.trans h5)
theorem lay_uniq {b : BX2} {st v w : Int → Int} (h : LayOf b st v) (k : LayOf b st w) : ∀ p, 0 ≤ p → p < 24 → v p = w p := by
  intro p p0 p1
  cases h.1 p p0 p1 with
  | inr h2 => exact (k.2 (v p) p h2.1 h2.2.1 h2.2.2.1 h2.2.2.2.1 h2.2.2.2.2).symm
  | inl h2 =>
    cases k.1 p p0 p1 with
    | inl k2 => rw [h2, k2]
    | inr k2 => exact h.2 (w p) p k2.1 k2.2.1 k2.2.2.1 k2.2.2.2.1 k2.2.2.2.2
theorem lay_congr {b : BX2} {st st' v v' : Int → Int} (ht : pX2_traders b ≤ 8) (hp : ∀ t, 0 ≤ t → t < pX2_traders b → st t = -1 ∨ (0 ≤ st t ∧ st t + pX2_fronts b t ≤ 24)) (h : LayOf b st v) (e1 : ∀ t, 0 ≤ t → t < 8 → st' t = st t) (e2 : ∀ p, 0 ≤ p → p < 24 → v' p = v p) : LayOf b st' v' := by
  refine ⟨?_, ?_⟩
  · intro p p0 p1
    rw [e2 p p0 p1]
    cases h.1 p p0 p1 with
    | inl h2 => exact .inl h2
    | inr h2 => right; rw [e1 _ h2.1 (by omega)]; exact h2
  · intro t p t0 t1 h1 h2 h3
    rw [e1 t t0 (by omega)] at h1 h2 h3
    have := hp t t0 t1
    rw [e2 p (by omega) (by omega)]
    exact h.2 t p t0 t1 h1 h2 h3
/-! the market made of starts and a layout -/
def mMk (b : BX2) (st v : Int → Int) : BX2 :=
  sX2_coversBusy (sX2_starts (sX2_standing b (fun p => if 0 ≤ p ∧ p < 24 then v p else 0)) (fun t => if 0 ≤ t ∧ t < 8 then st t else 0)) (zr (fun t => if st t = -1 then 0 else mFor b t (st t)) 0 (pX2_traders b))
theorem mMk_same (b : BX2) (st v : Int → Int) : Same (mMk b st v) b := ⟨rfl, rfl, rfl, rfl, rfl, rfl, rfl, rfl, rfl, rfl, rfl⟩
theorem mMk_st (b : BX2) (st v : Int → Int) {t : Int} (t0 : 0 ≤ t) (t1 : t < 8) : pX2_starts (mMk b st v) t = st t := by
  show (if 0 ≤ t ∧ t < 8 then st t else 0) = st t
  rw [if_pos ⟨t0, t1⟩]
theorem mMk_on (b : BX2) (st v : Int → Int) {p : Int} (p0 : 0 ≤ p) (p1 : p < 24) : pX2_standing (mMk b st v) p = v p := by
  show (if 0 ≤ p ∧ p < 24 then v p else 0) = v p
  rw [if_pos ⟨p0, p1⟩]
theorem mMk_W2 {b : BX2} {st v : Int → Int} (hb : S2 b) (h : LayOf b st v) (hst : ∀ t, 0 ≤ t → t < 8 → st t = -1 ∨ (t < pX2_traders b ∧ 0 ≤ st t ∧ st t + pX2_fronts b t ≤ pX2_pitches b)) : W2 (mMk b st v) := by
  have ht := hb.tra
  have hp := hb.pit
  have hl : LayOf b (fun t => if 0 ≤ t ∧ t < 8 then st t else 0) (fun p => if 0 ≤ p ∧ p < 24 then v p else 0) := by
    refine lay_congr ht.2 (fun t t0 t1 => ?_) h (fun t t0 t1 => if_pos ⟨t0, t1⟩) (fun t t0 t1 => if_pos ⟨t0, t1⟩)
    have := hst t t0 (by omega)
    omega
  refine ⟨hb.put (fun i hi => by rw [if_neg (by omega)]) (fun i hi => by rw [if_neg (by omega)]), ?_, hl.1, hl.2, ?_⟩
  · intro t t0 t1
    rw [mMk_st b st v t0 t1]
    exact hst t t0 t1
  · show zr (fun t => if st t = -1 then 0 else mFor b t (st t)) 0 (pX2_traders b) = zr (fun t => if (if 0 ≤ t ∧ t < 8 then st t else 0) = -1 then 0 else mFor b t (if 0 ≤ t ∧ t < 8 then st t else 0)) 0 (pX2_traders b)
    apply zr_congr
    intro i i0 i1
    show _ = (if (if 0 ≤ i ∧ i < 8 then st i else 0) = -1 then 0 else mFor b i (if 0 ≤ i ∧ i < 8 then st i else 0))
    rw [if_pos (show 0 ≤ i ∧ i < 8 by omega)]
/-! two markets alike but for their placements, with the same starts, are one -/
theorem W2_eq {b c : BX2} (hb : W2 b) (hc : W2 c) (hs : Same b c) (h : ∀ t, 0 ≤ t → t < 8 → pX2_starts b t = pX2_starts c t) : b = c := by
  have ht := hb.s.tra
  have hp := hb.s.pit
  obtain ⟨q1, q2, q3, q4, q5, q6, q7, q8, q9, q10, q11⟩ := hs
  have e1 : pX2_starts b = pX2_starts c := nz_ext hb.s.nrm.2.2.2.2.2.2.2.2.1 hc.s.nrm.2.2.2.2.2.2.2.2.1 h
  have l2 : LayOf b (pX2_starts b) (pX2_standing c) := by
    have := hc.lay
    unfold LayOf at this ⊢
    rw [q5, q7, e1]; exact this
  have e2 : pX2_standing b = pX2_standing c := nz_ext hb.s.nrm.2.2.2.2.2.2.2.2.2 hc.s.nrm.2.2.2.2.2.2.2.2.2 (lay_uniq hb.lay l2)
  have e3 : pX2_coversBusy b = pX2_coversBusy c := by
    rw [hb.busy, hc.busy, q5, e1]
    apply zr_congr
    intro i i0 i1
    show (if pX2_starts c i = -1 then 0 else mFor b i (pX2_starts c i)) = (if pX2_starts c i = -1 then 0 else mFor c i (pX2_starts c i))
    rw [Same.for ⟨q1, q2, q3, q4, q5, q6, q7, q8, q9, q10, q11⟩]
  exact X2_ext q1 q2 q3 q4 q5 q6 q7 q8 q9 q10 q11 e1 e2 e3
/-! who stands in a valid placement could have been seated last -/
theorem conv_hind {c d : BX2} (hc : V2 c) (hd : V2 d) (hs : Same d c) {t s : Int} (t0 : 0 ≤ t) (t1 : t < pX2_traders c) (e1 : pX2_starts c t = -1) (s0 : s ≠ -1) (h : ∀ u, 0 ≤ u → u < 8 → pX2_starts d u = updZ (pX2_starts c) t s u) : mHind c t s = 0 := by
  have ht := hc.s.tra
  have hp := hc.s.pit
  have hst : pX2_starts d t = s := by rw [h t t0 (by omega), updZ_at]
  obtain ⟨i1, i2⟩ := hd.2.2.2.1 t t0 (by rw [hs.2.2.2.2.1]; exact t1) (by rw [hst]; exact s0)
  rw [hst] at i1 i2
  rw [hs.inRow] at i1
  rw [hs.rent, hs.2.2.2.2.2.2.2.1] at i2
  have hl := mInRow_lt i1
  have hmin : min (s + pX2_fronts c t) (pX2_pitches c) = s + pX2_fronts c t := by omega
  have hblk : ∀ p, s ≤ p → p < s + pX2_fronts c t → pX2_standing d p = t := by
    intro p p1 p2
    exact hd.w.lie t p t0 (by rw [hs.2.2.2.2.1]; exact t1) (by rw [hst]; exact s0) (by rw [hst]; exact p1) (by rw [hst, hs.2.2.2.2.2.2.1]; exact p2)
  have hold : ∀ p, 0 ≤ p → p < 24 → pX2_standing c p ≠ -1 → pX2_standing d p = pX2_standing c p := by
    intro p p0 p1 hne
    cases hc.w.on p p0 p1 with
    | inl h2 => exact absurd h2 hne
    | inr h2 =>
      have hu : pX2_standing c p ≠ t := by intro he; rw [he] at h2; exact h2.2.2.1 e1
      have hsu : pX2_starts d (pX2_standing c p) = pX2_starts c (pX2_standing c p) := by rw [h _ h2.1 (by omega), updZ_ne hu]
      exact hd.w.lie _ p h2.1 (by rw [hs.2.2.2.2.1]; exact h2.2.1) (by rw [hsu]; exact h2.2.2.1) (by rw [hsu]; exact h2.2.2.2.1) (by rw [hsu, hs.2.2.2.2.2.2.1]; exact h2.2.2.2.2)
  have hfree : ∀ p, s ≤ p → p < s + pX2_fronts c t → pX2_standing c p = -1 := by
    intro p p1 p2
    by_cases hne : pX2_standing c p = -1
    · exact hne
    · have k1 := hold p (by omega) (by omega) hne
      have k2 := hblk p p1 p2
      cases hc.w.on p (by omega) (by omega) with
      | inl h2 => exact h2
      | inr h2 => rw [← k1, k2] at h2; exact absurd e1 h2.2.2.1
  refine mHind_0.2 ⟨e1, i1, ?_, i2, ?_, ?_⟩
  · unfold mFree; rw [hmin]; exact hfree
  · have hb := hd.w.busy
    have hk := hd.2.2.2.2.1
    rw [hs.2.2.2.2.2.2.2.2.2.2] at hk
    have e2 : zr (fun u => if pX2_starts d u = -1 then 0 else mFor d u (pX2_starts d u)) 0 (pX2_traders d) = zr (updZ (fun u => if pX2_starts c u = -1 then 0 else mFor c u (pX2_starts c u)) t (mFor c t s)) 0 (pX2_traders c) := by
      rw [hs.2.2.2.2.1]
      apply zr_congr
      intro i i0 i1
      rw [updZ_app]
      show (if pX2_starts d i = -1 then 0 else mFor d i (pX2_starts d i)) = _
      rw [hs.for, h i i0 (by omega)]
      by_cases hi : i = t
      · rw [if_pos hi, hi, updZ_at, if_neg s0]
      · rw [if_neg hi, updZ_ne hi]
    rw [e2, zr_upd t0 t1, ← hc.w.busy] at hb
    simp only [e1, if_true] at hb
    omega
  · rintro (⟨k1, k2⟩ | ⟨k1, k2⟩)
    · have k1' := k1
      unfold mShare at k1'
      have ho := hc.w.std (s - 1) (by omega) (by omega)
      have hne : pX2_standing c (s - 1) ≠ -1 := k2.1
      have hd1 := hold (s - 1) (by omega) (by omega) hne
      have hd2 := hblk s (by omega) (by omega)
      have hnt : pX2_standing c (s - 1) ≠ t := by
        intro he
        cases hc.w.on (s - 1) (by omega) (by omega) with
        | inl h2 => exact hne h2
        | inr h2 => rw [he] at h2; exact h2.2.2.1 e1
      have hno := hd.2.2.2.2.2 (s - 1) (by omega) (by rw [hs.1]; omega) (by rw [hs.2.1, show s - 1 + 1 = s by omega]; exact k1'.2.2.2) (by rw [hd1]; exact hne) (by rw [show s - 1 + 1 = s by omega, hd2]; omega) (by rw [show s - 1 + 1 = s by omega, hd1, hd2]; exact hnt)
      rw [show s - 1 + 1 = s by omega, hd1, hd2, hs.clash] at hno
      exact hno ((mClash_sy hc.s hc.2.1 t0 t1 (by omega) (by omega)).1 k2)
    · have k1' := k1
      unfold mShare at k1'
      have ho := hc.w.std (s + pX2_fronts c t) (by omega) (by omega)
      have hne : pX2_standing c (s + pX2_fronts c t) ≠ -1 := k2.1
      have hd1 := hold (s + pX2_fronts c t) (by omega) (by omega) hne
      have hd2 := hblk (s + pX2_fronts c t - 1) (by omega) (by omega)
      have hnt : pX2_standing c (s + pX2_fronts c t) ≠ t := by
        intro he
        cases hc.w.on (s + pX2_fronts c t) (by omega) (by omega) with
        | inl h2 => exact hne h2
        | inr h2 => rw [he] at h2; exact h2.2.2.1 e1
      have e9 : s + pX2_fronts c t - 1 + 1 = s + pX2_fronts c t := by omega
      have hno := hd.2.2.2.2.2 (s + pX2_fronts c t - 1) (by omega) (by rw [hs.1]; omega) (by rw [hs.2.1, e9]; exact k1'.2.2.2) (by rw [hd2]; omega) (by rw [e9, hd1]; exact hne) (by rw [e9, hd1, hd2]; exact fun x => hnt x.symm)
      rw [e9, hd1, hd2, hs.clash] at hno
      exact hno k2
