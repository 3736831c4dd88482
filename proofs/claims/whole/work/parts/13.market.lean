/-! Seating, unseating: what they do, and that the placement stays told twice alike. -/
theorem S2.put {b : BX2} (h : S2 b) {v w : Int → Int} {k : Int} (hv : nz 24 v) (hw : nz 8 w) : S2 (sX2_coversBusy (sX2_starts (sX2_standing b v) w) k) := by
  obtain ⟨a1, a2, a3, a4, a5, a6, a7, a8, b1, b2, b3, b4, b5, b6, b7, b8, b9, b10⟩ := h
  exact ⟨a1, a2, a3, a4, a5, a6, a7, a8, b1, b2, b3, b4, b5, b6, b7, b8, hw, hv⟩
theorem S2.put2 {b : BX2} (h : S2 b) {v w : Int → Int} (hv : nz 24 v) (hw : nz 8 w) : S2 (sX2_starts (sX2_standing b v) w) := by
  obtain ⟨a1, a2, a3, a4, a5, a6, a7, a8, b1, b2, b3, b4, b5, b6, b7, b8, b9, b10⟩ := h
  exact ⟨a1, a2, a3, a4, a5, a6, a7, a8, b1, b2, b3, b4, b5, b6, b7, b8, hw, hv⟩
theorem nz_lay {v : Int → Int} {s e w : Int} (hv : nz 24 v) (h0 : 0 ≤ s) (h1 : e ≤ 24) : nz 24 (mLay v s e w) := by
  intro i hi; unfold mLay; rw [if_neg (by omega)]; exact hv i hi
theorem s_X2_unseat {n : Nat} (hn : 100 ≤ n) {b : BX2} (hb : W2 b) {t : Int} (t0 : 0 ≤ t) (t1 : t < 8) : g_X2_unseat n b t = some (mUnseat b t) := by
  have hp := hb.s.pit
  have ht := hb.s.tra
  unfold g_X2_unseat mUnseat
  rw [s_X2_isSeated b t0 t1, oB_some]
  by_cases e1 : pX2_starts b t = -1
  · rw [zB_neg (fun h => h e1), if_pos rfl, if_pos e1]
  · have h1 := hb.st t t0 t1
    have hf := hb.s.fr t0 (by omega)
    have hk := busy_b hb
    have hm := mFor_b b t (pX2_starts b t) (by omega)
    rw [zB_pos e1, if_neg (by omega), if_neg e1, qA_ok t0 t1 (by omega), oL_def, qA_ok t0 t1 (by omega), s_X2_settle hn hb.s (-1) (by omega) (by omega) (by omega) (by omega), oB_some, qA_ok t0 t1 (by omega), oL_def]
    have hS : S2 (sX2_starts (sX2_standing b (mLay (pX2_standing b) (pX2_starts b t) (min (pX2_starts b t + pX2_fronts b t) (pX2_pitches b)) (-1))) (updZ (pX2_starts b) t (-1))) :=
      hb.s.put2 (nz_lay hb.s.nrm.2.2.2.2.2.2.2.2.2 (by omega) (by omega)) (nz_upd hb.s.nrm.2.2.2.2.2.2.2.2.1 t0 t1)
    have e2 := s_X2_coversFor hn hS (t := t) (s := pX2_starts b t) t0 (by show t < pX2_traders b; omega) (by omega) (by omega)
    have e3 : mFor (sX2_starts (sX2_standing b (mLay (pX2_standing b) (pX2_starts b t) (min (pX2_starts b t + pX2_fronts b t) (pX2_pitches b)) (-1))) (updZ (pX2_starts b) t (-1))) t (pX2_starts b t) = mFor b t (pX2_starts b t) := rfl
    rw [e3] at e2
    rw [eX2_starts_standing, e2, oB_some, eX2_coversBusy_standing, oR_ok (by omega) (by omega), oL_def]
theorem s_X2_seat {n : Nat} (hn : 100 ≤ n) {b : BX2} (hb : W2 b) {t s : Int} (t0 : 0 ≤ t) (t1 : t < pX2_traders b) (s0 : 0 ≤ s) (s1 : s ≤ 90) : g_X2_seat n b t s = some (mSeat b t s) := by
  have hp := hb.s.pit
  have ht := hb.s.tra
  have hf := hb.s.fr t0 t1
  have hk := busy_b hb
  have hm := mFor_b b t s (by omega)
  unfold g_X2_seat mSeat
  rw [qA_ok t0 (by omega) (by omega), s_X2_settle hn hb.s t (by omega) (by omega) (by omega) (by omega), oB_some, qA_ok t0 (by omega) (by omega), oL_def]
  have hS : S2 (sX2_starts (sX2_standing b (mLay (pX2_standing b) s (min (s + pX2_fronts b t) (pX2_pitches b)) t)) (updZ (pX2_starts b) t s)) :=
    hb.s.put2 (nz_lay hb.s.nrm.2.2.2.2.2.2.2.2.2 (by omega) (by omega)) (nz_upd hb.s.nrm.2.2.2.2.2.2.2.2.1 t0 (by omega))
  have e2 := s_X2_coversFor hn hS (t := t) (s := s) t0 (by show t < pX2_traders b; omega) (by omega) (by omega)
  have e3 : mFor (sX2_starts (sX2_standing b (mLay (pX2_standing b) s (min (s + pX2_fronts b t) (pX2_pitches b)) t)) (updZ (pX2_starts b) t s)) t s = mFor b t s := rfl
  rw [e3] at e2
  rw [eX2_starts_standing, e2, oB_some, eX2_coversBusy_standing, oR_ok (by omega) (by omega), oL_def]
/-! what stays as it was: all but the placement -/
def Same (b c : BX2) : Prop := pX2_pitches b = pX2_pitches c ∧ pX2_rows b = pX2_rows c ∧ pX2_rents b = pX2_rents c ∧ pX2_roofs b = pX2_roofs c ∧ pX2_traders b = pX2_traders c ∧ pX2_trades b = pX2_trades c ∧ pX2_fronts b = pX2_fronts c ∧ pX2_limits b = pX2_limits c ∧ pX2_needy b = pX2_needy c ∧ pX2_clashes b = pX2_clashes c ∧ pX2_covers b = pX2_covers c
theorem Same.rfl' (b : BX2) : Same b b := ⟨rfl, rfl, rfl, rfl, rfl, rfl, rfl, rfl, rfl, rfl, rfl⟩
theorem Same.trans {a b c : BX2} (h : Same a b) (k : Same b c) : Same a c := by
  obtain ⟨a1, a2, a3, a4, a5, a6, a7, a8, a9, a10, a11⟩ := h
  obtain ⟨b1, b2, b3, b4, b5, b6, b7, b8, b9, b10, b11⟩ := k
  exact ⟨a1.trans b1, a2.trans b2, a3.trans b3, a4.trans b4, a5.trans b5, a6.trans b6, a7.trans b7, a8.trans b8, a9.trans b9, a10.trans b10, a11.trans b11⟩
theorem Same.symm {a b : BX2} (h : Same a b) : Same b a := by
  obtain ⟨a1, a2, a3, a4, a5, a6, a7, a8, a9, a10, a11⟩ := h
  exact ⟨a1.symm, a2.symm, a3.symm, a4.symm, a5.symm, a6.symm, a7.symm, a8.symm, a9.symm, a10.symm, a11.symm⟩
theorem Same.rent {a b : BX2} (h : Same a b) (t s : Int) : mRent a t s = mRent b t s := by
  obtain ⟨a1, a2, a3, a4, a5, a6, a7, a8, a9, a10, a11⟩ := h
  unfold mRent; rw [a1, a3, a7]
theorem Same.opn {a b : BX2} (h : Same a b) (t s : Int) : mOpen a t s = mOpen b t s := by
  obtain ⟨a1, a2, a3, a4, a5, a6, a7, a8, a9, a10, a11⟩ := h
  unfold mOpen; rw [a1, a4, a7]
theorem Same.for {a b : BX2} (h : Same a b) (t s : Int) : mFor a t s = mFor b t s := by
  unfold mFor; rw [h.opn, h.2.2.2.2.2.2.2.2.1]
theorem Same.share {a b : BX2} (h : Same a b) (p q : Int) : mShare a p q ↔ mShare b p q := by
  unfold mShare; rw [h.1, h.2.1]
theorem Same.inRow {a b : BX2} (h : Same a b) (t s : Int) : mInRow a t s ↔ mInRow b t s := by
  unfold mInRow; rw [h.share, h.2.2.2.2.2.2.1]
theorem Same.clash {a b : BX2} (h : Same a b) (t s : Int) : mClash a t s ↔ mClash b t s := by
  unfold mClash; rw [h.2.2.2.2.2.1, h.2.2.2.2.2.2.2.2.2.1]
theorem mUnseat_same (b : BX2) (t : Int) : Same (mUnseat b t) b := by
  unfold mUnseat
  split
  · exact Same.rfl' b
  · exact ⟨rfl, rfl, rfl, rfl, rfl, rfl, rfl, rfl, rfl, rfl, rfl⟩
theorem mSeat_same (b : BX2) (t s : Int) : Same (mSeat b t s) b := ⟨rfl, rfl, rfl, rfl, rfl, rfl, rfl, rfl, rfl, rfl, rfl⟩
theorem mUnseat_st {b : BX2} {t : Int} (h : pX2_starts b t = -1 ∨ True) : pX2_starts (mUnseat b t) = updZ (pX2_starts b) t (-1) := by
  unfold mUnseat
  split
  · rename_i h; funext i; rw [updZ_app]; split
    · rename_i e; rw [e, h]
    · rfl
  · rfl
theorem W2_unseat {b : BX2} (h : W2 b) {t : Int} (t0 : 0 ≤ t) (t1 : t < 8) : W2 (mUnseat b t) := by
  unfold mUnseat
  split
  · exact h
  · rename_i e1
    have hp := h.s.pit
    have ht := h.s.tra
    have h1 := h.st t t0 t1
    have hf := h.s.fr t0 (by omega)
    have hmin : min (pX2_starts b t + pX2_fronts b t) (pX2_pitches b) = pX2_starts b t + pX2_fronts b t := by omega
    refine ⟨h.s.put (nz_lay h.s.nrm.2.2.2.2.2.2.2.2.2 (by omega) (by omega)) (nz_upd h.s.nrm.2.2.2.2.2.2.2.2.1 t0 t1), ?_, ?_, ?_, ?_⟩
    · intro u u0 u1
      show updZ (pX2_starts b) t (-1) u = -1 ∨ (u < pX2_traders b ∧ 0 ≤ updZ (pX2_starts b) t (-1) u ∧ updZ (pX2_starts b) t (-1) u + pX2_fronts b u ≤ pX2_pitches b)
      rw [updZ_app]
      by_cases hu : u = t
      · rw [if_pos hu]; exact .inl rfl
      · rw [if_neg hu]; exact h.st u u0 u1
    · intro p p0 p1
      show mLay (pX2_standing b) (pX2_starts b t) (min (pX2_starts b t + pX2_fronts b t) (pX2_pitches b)) (-1) p = -1 ∨
        (0 ≤ mLay (pX2_standing b) (pX2_starts b t) (min (pX2_starts b t + pX2_fronts b t) (pX2_pitches b)) (-1) p ∧ mLay (pX2_standing b) (pX2_starts b t) (min (pX2_starts b t + pX2_fronts b t) (pX2_pitches b)) (-1) p < pX2_traders b ∧ updZ (pX2_starts b) t (-1) (mLay (pX2_standing b) (pX2_starts b t) (min (pX2_starts b t + pX2_fronts b t) (pX2_pitches b)) (-1) p) ≠ -1 ∧ updZ (pX2_starts b) t (-1) (mLay (pX2_standing b) (pX2_starts b t) (min (pX2_starts b t + pX2_fronts b t) (pX2_pitches b)) (-1) p) ≤ p ∧ p < updZ (pX2_starts b) t (-1) (mLay (pX2_standing b) (pX2_starts b t) (min (pX2_starts b t + pX2_fronts b t) (pX2_pitches b)) (-1) p) + pX2_fronts b (mLay (pX2_standing b) (pX2_starts b t) (min (pX2_starts b t + pX2_fronts b t) (pX2_pitches b)) (-1) p))
      rw [hmin]
      unfold mLay
      by_cases hq : pX2_starts b t ≤ p ∧ p < pX2_starts b t + pX2_fronts b t
      · rw [if_pos hq]; exact .inl rfl
      · rw [if_neg hq]
        cases h.on p p0 p1 with
        | inl h2 => exact .inl h2
        | inr h2 =>
          have hne : pX2_standing b p ≠ t := by intro he; rw [he] at h2; omega
          rw [updZ_ne hne]
          exact .inr h2
    · intro u p u0 u1 hu h2 h3
      have hu : updZ (pX2_starts b) t (-1) u ≠ -1 := hu
      have h2 : updZ (pX2_starts b) t (-1) u ≤ p := h2
      have h3 : p < updZ (pX2_starts b) t (-1) u + pX2_fronts b u := h3
      have u1 : u < pX2_traders b := u1
      show mLay (pX2_standing b) (pX2_starts b t) (min (pX2_starts b t + pX2_fronts b t) (pX2_pitches b)) (-1) p = u
      have hne : u ≠ t := by intro he; rw [he, updZ_at] at hu; exact hu rfl
      rw [updZ_ne hne] at hu h2 h3
      have h4 := h.lie u p u0 u1 hu h2 h3
      rw [hmin]
      unfold mLay
      rw [if_neg]
      · exact h4
      · intro hq
        have h5 := h.lie t p t0 (by omega) e1 hq.1 hq.2
        exact hne (h4.symm.trans h5)
    · show pX2_coversBusy b - mFor b t (pX2_starts b t) = zr (fun u => if updZ (pX2_starts b) t (-1) u = -1 then 0 else mFor b u (updZ (pX2_starts b) t (-1) u)) 0 (pX2_traders b)
      have e2 : (fun u => if updZ (pX2_starts b) t (-1) u = -1 then 0 else mFor b u (updZ (pX2_starts b) t (-1) u)) = updZ (fun u => if pX2_starts b u = -1 then 0 else mFor b u (pX2_starts b u)) t 0 := by
        funext u
        rw [updZ_app (fun u => if pX2_starts b u = -1 then 0 else mFor b u (pX2_starts b u))]
        by_cases hu : u = t
        · rw [if_pos hu, hu, updZ_at, if_pos rfl]
        · rw [if_neg hu, updZ_ne hu]
      rw [e2, zr_upd t0 (by omega), ← h.busy]
      simp only [e1, if_false]
      omega
theorem W2_seat {b : BX2} (h : W2 b) {t s : Int} (t0 : 0 ≤ t) (t1 : t < pX2_traders b) (e1 : pX2_starts b t = -1) (s0 : 0 ≤ s) (s1 : s + pX2_fronts b t ≤ pX2_pitches b) (hfree : mFree b t s) : W2 (mSeat b t s) := by
  have hp := h.s.pit
  have ht := h.s.tra
  have hf := h.s.fr t0 t1
  have hmin : min (s + pX2_fronts b t) (pX2_pitches b) = s + pX2_fronts b t := by omega
  unfold mFree at hfree
  rw [hmin] at hfree
  unfold mSeat
  refine ⟨h.s.put (nz_lay h.s.nrm.2.2.2.2.2.2.2.2.2 (by omega) (by omega)) (nz_upd h.s.nrm.2.2.2.2.2.2.2.2.1 t0 (by omega)), ?_, ?_, ?_, ?_⟩
  · intro u u0 u1
    show updZ (pX2_starts b) t s u = -1 ∨ (u < pX2_traders b ∧ 0 ≤ updZ (pX2_starts b) t s u ∧ updZ (pX2_starts b) t s u + pX2_fronts b u ≤ pX2_pitches b)
    rw [updZ_app]
    by_cases hu : u = t
    · rw [if_pos hu, hu]; exact .inr ⟨by omega, by omega, by omega⟩
    · rw [if_neg hu]; exact h.st u u0 u1
  · intro p p0 p1
    show mLay (pX2_standing b) s (min (s + pX2_fronts b t) (pX2_pitches b)) t p = -1 ∨
      (0 ≤ mLay (pX2_standing b) s (min (s + pX2_fronts b t) (pX2_pitches b)) t p ∧ mLay (pX2_standing b) s (min (s + pX2_fronts b t) (pX2_pitches b)) t p < pX2_traders b ∧ updZ (pX2_starts b) t s (mLay (pX2_standing b) s (min (s + pX2_fronts b t) (pX2_pitches b)) t p) ≠ -1 ∧ updZ (pX2_starts b) t s (mLay (pX2_standing b) s (min (s + pX2_fronts b t) (pX2_pitches b)) t p) ≤ p ∧ p < updZ (pX2_starts b) t s (mLay (pX2_standing b) s (min (s + pX2_fronts b t) (pX2_pitches b)) t p) + pX2_fronts b (mLay (pX2_standing b) s (min (s + pX2_fronts b t) (pX2_pitches b)) t p))
    rw [hmin]
    unfold mLay
    by_cases hq : s ≤ p ∧ p < s + pX2_fronts b t
    · rw [if_pos hq, updZ_at]; exact .inr ⟨by omega, by omega, by omega, by omega, by omega⟩
    · rw [if_neg hq]
      cases h.on p p0 p1 with
      | inl h2 => exact .inl h2
      | inr h2 =>
        have hne : pX2_standing b p ≠ t := by intro he; rw [he] at h2; exact h2.2.2.1 e1
        rw [updZ_ne hne]
        exact .inr h2
  · intro u p u0 u1 hu h2 h3
    have hu : updZ (pX2_starts b) t s u ≠ -1 := hu
    have h2 : updZ (pX2_starts b) t s u ≤ p := h2
    have h3 : p < updZ (pX2_starts b) t s u + pX2_fronts b u := h3
    have u1 : u < pX2_traders b := u1
    show mLay (pX2_standing b) s (min (s + pX2_fronts b t) (pX2_pitches b)) t p = u
    rw [hmin]
    unfold mLay
    by_cases he : u = t
    · rw [he, updZ_at] at h2 h3
      rw [if_pos (by omega), he]
    · rw [updZ_ne he] at hu h2 h3
      have h4 := h.lie u p u0 u1 hu h2 h3
      rw [if_neg]
      · exact h4
      · intro hq
        have h5 := hfree p hq.1 hq.2
        omega
  · show pX2_coversBusy b + mFor b t s = zr (fun u => if updZ (pX2_starts b) t s u = -1 then 0 else mFor b u (updZ (pX2_starts b) t s u)) 0 (pX2_traders b)
    have e2 : (fun u => if updZ (pX2_starts b) t s u = -1 then 0 else mFor b u (updZ (pX2_starts b) t s u)) = updZ (fun u => if pX2_starts b u = -1 then 0 else mFor b u (pX2_starts b u)) t (mFor b t s) := by
      funext u
      rw [updZ_app (fun u => if pX2_starts b u = -1 then 0 else mFor b u (pX2_starts b u))]
      by_cases hu : u = t
      · rw [if_pos hu, hu, updZ_at, if_neg (by omega)]
      · rw [if_neg hu, updZ_ne hu]
    rw [e2, zr_upd t0 (by omega), ← h.busy]
    simp only [e1, if_true]
    omega
theorem W2.std {b : BX2} (h : W2 b) : ∀ p, 0 ≤ p → p < 24 → -1 ≤ pX2_standing b p ∧ pX2_standing b p < pX2_traders b := by
  intro p p0 p1
  have := h.s.tra
  cases h.on p p0 p1 with
  | inl h2 => omega
  | inr h2 => omega
theorem W2.kb {b : BX2} (h : W2 b) : -1000 ≤ pX2_coversBusy b ∧ pX2_coversBusy b ≤ 1000 := by
  have := busy_b h; omega
theorem w_hind {n : Nat} (hn : 100 ≤ n) {b : BX2} (hb : W2 b) {t s : Int} (t0 : 0 ≤ t) (t1 : t < pX2_traders b) (h0 : 0 ≤ s) (h1 : s ≤ 90) : g_X2_hindrance n b t s = some (mHind b t s) :=
  s_X2_hindrance hn hb.s t0 t1 hb.std hb.kb h0 h1
/-! no hindrance -/
theorem mHind_0 {b : BX2} {t s : Int} : mHind b t s = 0 ↔ (pX2_starts b t = -1 ∧ mInRow b t s ∧ mFree b t s ∧ mRent b t s ≤ pX2_limits b t ∧ pX2_coversBusy b + mFor b t s ≤ pX2_covers b ∧ ¬ mBeside b t s) := by
  unfold mHind
  by_cases e1 : pX2_starts b t = -1
  · rw [if_pos e1]
    by_cases e2 : mInRow b t s
    · rw [cif_pos e2]
      by_cases e3 : mFree b t s
      · rw [cif_pos e3]
        by_cases e4 : mRent b t s ≤ pX2_limits b t
        · rw [if_pos e4]
          by_cases e5 : pX2_coversBusy b + mFor b t s ≤ pX2_covers b
          · rw [if_pos e5]
            by_cases e6 : mBeside b t s
            · rw [cif_pos e6]; simp [e6]
            · rw [cif_neg e6]; simp [e1, e2, e3, e4, e5, e6]
          · rw [if_neg e5]; simp [e5]
        · rw [if_neg e4]; simp [e4]
      · rw [cif_neg e3]; simp [e3]
    · rw [cif_neg e2]; simp [e2]
  · rw [if_neg e1]; simp [e1]
theorem mInRow_lt {b : BX2} {t s : Int} (h : mInRow b t s) : 0 ≤ s ∧ 1 ≤ pX2_fronts b t ∧ s + pX2_fronts b t ≤ pX2_pitches b := by
  unfold mInRow mShare at h; omega
theorem W2_seat0 {b : BX2} (h : W2 b) {t s : Int} (t0 : 0 ≤ t) (t1 : t < pX2_traders b) (e : mHind b t s = 0) : W2 (mSeat b t s) := by
  obtain ⟨e1, e2, e3, _⟩ := mHind_0.1 e
  have := mInRow_lt e2
  exact W2_seat h t0 t1 e1 (by omega) (by omega) e3
theorem s_X2_seatIfPossible {n : Nat} (hn : 100 ≤ n) {b : BX2} (hb : W2 b) {t s : Int} (t0 : 0 ≤ t) (t1 : t < pX2_traders b) (h0 : 0 ≤ s) (h1 : s ≤ 90) : g_X2_seatIfPossible n b t s = some (if mHind b t s = 0 then (1, mSeat b t s) else (0, b)) := by
  unfold g_X2_seatIfPossible
  rw [w_hind hn hb t0 t1 h0 h1, oB_some]
  by_cases h : mHind b t s = 0
  · rw [if_pos h, if_pos h, s_X2_seat hn hb t0 t1 h0 h1, oB_some]
  · rw [if_neg h, if_neg h]
