/-! The changes keep the ranges; clashes as a relation; the street turned around; the ring of earlier markets. -/
def cl (b : BX2) (i j : Int) : Prop := zbit (pX2_clashes b i) j
def Sy (b : BX2) : Prop := ∀ i j, 0 ≤ i → i < 8 → 0 ≤ j → j < 8 → (cl b i j ↔ cl b j i)
theorem mPut_cl0 (b : BX2) {i j k l : Int} (i0 : 0 ≤ i) (i1 : i < 8) (j0 : 0 ≤ j) (j1 : j < 8) (l0 : 0 ≤ l) (l1 : l < 8) : cl (mPut b i j 0) k l ↔ (cl b k l ∧ ¬ ((k = i ∧ l = j) ∨ (k = j ∧ l = i))) := by
  unfold mPut
  rw [if_pos rfl]
  show zbit (updZ (updZ (pX2_clashes b) i (zAnd (pX2_clashes b i) (zXor (zShl 1 j) (-1)))) j (zAnd (updZ (pX2_clashes b) i (zAnd (pX2_clashes b i) (zXor (zShl 1 j) (-1))) j) (zXor (zShl 1 i) (-1))) k) l ↔ (zbit (pX2_clashes b k) l ∧ _)
  by_cases h1 : k = j
  · subst h1
    rw [updZ_at, zbit_clear i0 (by omega) l0 (by omega)]
    by_cases h2 : k = i
    · subst h2
      rw [updZ_at, zbit_clear i0 (by omega) l0 (by omega)]
      constructor
      · intro h; exact ⟨h.1.1, by omega⟩
      · intro h; exact ⟨⟨h.1, by omega⟩, by omega⟩
    · rw [updZ_ne h2]
      constructor
      · intro h; exact ⟨h.1, by omega⟩
      · intro h; exact ⟨h.1, by omega⟩
  · rw [updZ_ne h1]
    by_cases h2 : k = i
    · subst h2
      rw [updZ_at, zbit_clear j0 (by omega) l0 (by omega)]
      constructor
      · intro h; exact ⟨h.1, by omega⟩
      · intro h; exact ⟨h.1, by omega⟩
    · rw [updZ_ne h2]
      constructor
      · intro h; exact ⟨h, by omega⟩
      · intro h; exact h.1
theorem mPut_cl1 (b : BX2) {i j k l on : Int} (hon : on ≠ 0) (i0 : 0 ≤ i) (i1 : i < 8) (j0 : 0 ≤ j) (j1 : j < 8) (l0 : 0 ≤ l) (l1 : l < 8) : cl (mPut b i j on) k l ↔ (cl b k l ∨ (k = i ∧ l = j) ∨ (k = j ∧ l = i)) := by
  unfold mPut
  rw [if_neg hon]
  show zbit (updZ (updZ (pX2_clashes b) i (zOr (pX2_clashes b i) (zShl 1 j))) j (zOr (updZ (pX2_clashes b) i (zOr (pX2_clashes b i) (zShl 1 j)) j) (zShl 1 i)) k) l ↔ (zbit (pX2_clashes b k) l ∨ _)
  by_cases h1 : k = j
  · subst h1
    rw [updZ_at, zbit_or i0 (by omega) l0 (by omega)]
    by_cases h2 : k = i
    · subst h2
      rw [updZ_at, zbit_or i0 (by omega) l0 (by omega)]
      constructor
      · rintro ((h | h) | h)
        · exact .inl h
        · right; left; omega
        · right; left; omega
      · rintro (h | h | h)
        · exact .inl (.inl h)
        · right; omega
        · right; omega
    · rw [updZ_ne h2]
      constructor
      · rintro (h | h)
        · exact .inl h
        · right; right; omega
      · rintro (h | h | h)
        · exact .inl h
        · omega
        · right; omega
  · rw [updZ_ne h1]
    by_cases h2 : k = i
    · subst h2
      rw [updZ_at, zbit_or j0 (by omega) l0 (by omega)]
      constructor
      · rintro (h | h)
        · exact .inl h
        · right; left; omega
      · rintro (h | h | h)
        · exact .inl h
        · right; omega
        · omega
    · rw [updZ_ne h2]
      constructor
      · intro h; exact .inl h
      · rintro (h | h | h)
        · exact h
        · omega
        · omega
theorem S2.clashes {b : BX2} (h : S2 b) {v : Int → Int} (hv : ∀ i, 0 ≤ v i ∧ v i ≤ 255) (hz : nz 8 v) : S2 (sX2_clashes b v) := by
  obtain ⟨a1, a2, a3, a4, a5, a6, a7, a8, b1, b2, b3, b4, b5, b6, b7, b8, b9, b10⟩ := h
  exact ⟨a1, a2, a3, a4, a5, a6, a7, hv, b1, b2, b3, b4, b5, b6, b7, hz, b9, b10⟩
theorem S2_put {b : BX2} (h : S2 b) {i j : Int} (on : Int) (i0 : 0 ≤ i) (i1 : i < 8) (j0 : 0 ≤ j) (j1 : j < 8) : S2 (mPut b i j on) := by
  have hz := h.nrm.2.2.2.2.2.2.2.1
  have e8 : ∀ x : Int, (0 ≤ x ∧ x < 2 ^ 8) ↔ (0 ≤ x ∧ x ≤ 255) := fun x => by
    have : (2 : Int) ^ 8 = 256 := by decide
    rw [this]; omega
  unfold mPut
  split
  · have hA : ∀ x y : Int, 0 ≤ x ∧ x ≤ 255 → 0 ≤ zAnd x y ∧ zAnd x y ≤ 255 := fun x y hx => (e8 _).1 (zAnd_lt (m := 8) (by omega) hx.1 ((e8 _).2 hx).2)
    have h1 : ∀ k, 0 ≤ updZ (pX2_clashes b) i (zAnd (pX2_clashes b i) (zXor (zShl 1 j) (-1))) k ∧ updZ (pX2_clashes b) i (zAnd (pX2_clashes b i) (zXor (zShl 1 j) (-1))) k ≤ 255 := by
      intro k; rw [updZ_app]; split
      · exact hA _ _ (h.cla i)
      · exact h.cla k
    refine h.clashes ?_ (nz_upd (nz_upd hz i0 i1) j0 j1)
    intro k; rw [updZ_app]; split
    · exact hA _ _ (h1 j)
    · exact h1 k
  · have hO : ∀ x y : Int, 0 ≤ x ∧ x ≤ 255 → 0 ≤ y → y < 8 → 0 ≤ zOr x (zShl 1 y) ∧ zOr x (zShl 1 y) ≤ 255 := fun x y hx y0 y1 => by
      have h2 := zShl1_lt (m := 8) (by omega) y0 (by omega)
      exact (e8 _).1 (zOr_lt (m := 8) (by omega) hx.1 ((e8 _).2 hx).2 h2.1 h2.2)
    have h1 : ∀ k, 0 ≤ updZ (pX2_clashes b) i (zOr (pX2_clashes b i) (zShl 1 j)) k ∧ updZ (pX2_clashes b) i (zOr (pX2_clashes b i) (zShl 1 j)) k ≤ 255 := by
      intro k; rw [updZ_app]; split
      · exact hO _ _ (h.cla i) j0 j1
      · exact h.cla k
    refine h.clashes ?_ (nz_upd (nz_upd hz i0 i1) j0 j1)
    intro k; rw [updZ_app]; split
    · exact hO _ _ (h1 j) i0 i1
    · exact h1 k
/-! a market of which all but the clashes is as it was -/
theorem mPut_eqs (b : BX2) (i j on : Int) : pX2_pitches (mPut b i j on) = pX2_pitches b ∧ pX2_rows (mPut b i j on) = pX2_rows b ∧ pX2_rents (mPut b i j on) = pX2_rents b ∧ pX2_roofs (mPut b i j on) = pX2_roofs b ∧ pX2_traders (mPut b i j on) = pX2_traders b ∧ pX2_trades (mPut b i j on) = pX2_trades b ∧ pX2_fronts (mPut b i j on) = pX2_fronts b ∧ pX2_limits (mPut b i j on) = pX2_limits b ∧ pX2_needy (mPut b i j on) = pX2_needy b ∧ pX2_covers (mPut b i j on) = pX2_covers b ∧ pX2_starts (mPut b i j on) = pX2_starts b ∧ pX2_standing (mPut b i j on) = pX2_standing b ∧ pX2_coversBusy (mPut b i j on) = pX2_coversBusy b := by
  unfold mPut
  split <;> exact ⟨rfl, rfl, rfl, rfl, rfl, rfl, rfl, rfl, rfl, rfl, rfl, rfl, rfl⟩
/-! the placement's words rest on these parts alone -/
theorem Q2_of {b c : BX2} (h : Q2 b) (e1 : pX2_pitches c = pX2_pitches b) (e2 : pX2_traders c = pX2_traders b) (e3 : ∀ t, 0 ≤ t → t < pX2_traders b → pX2_fronts c t = pX2_fronts b t) (e4 : pX2_starts c = pX2_starts b) (e5 : pX2_standing c = pX2_standing b) (e6 : pX2_coversBusy c = pX2_coversBusy b) (e7 : ∀ t, 0 ≤ t → t < pX2_traders b → mFor c t (pX2_starts b t) = mFor b t (pX2_starts b t)) : Q2 c := by
  obtain ⟨h1, h2, h3, h4⟩ := h
  refine ⟨?_, ?_, ?_, ?_⟩
  · intro t t0 t1
    rw [e1, e2, e4]
    cases h1 t t0 t1 with
    | inl h => exact .inl h
    | inr h => right; rw [e3 t t0 h.1]; exact h
  · intro p p0 p1
    rw [e2, e4, e5]
    cases h2 p p0 p1 with
    | inl h => exact .inl h
    | inr h => right; rw [e3 _ h.1 h.2.1]; exact h
  · intro t p t0 t1
    rw [e4, e5]
    rw [e2] at t1
    rw [e3 t t0 t1]
    exact h3 t p t0 t1
  · rw [e6, e2, e4, h4]
    apply zr_congr
    intro i i0 i1
    show (if pX2_starts b i = -1 then 0 else mFor b i (pX2_starts b i)) = (if pX2_starts b i = -1 then 0 else mFor c i (pX2_starts b i))
    rw [e7 i i0 i1]
theorem W2_put {b : BX2} (h : W2 b) {i j : Int} (on : Int) (i0 : 0 ≤ i) (i1 : i < 8) (j0 : 0 ≤ j) (j1 : j < 8) : W2 (mPut b i j on) := by
  obtain ⟨a1, a2, a3, a4, a5, a6, a7, a8, a9, a10, a11, a12, a13⟩ := mPut_eqs b i j on
  refine ⟨S2_put h.s on i0 i1 j0 j1, Q2_of h.2 a1 a5 (fun t _ _ => by rw [a7]) a11 a12 a13 (fun t _ _ => ?_)⟩
  unfold mFor mOpen; rw [a1, a4, a7, a9]
/-! enrolling -/
theorem S2_enrol {b : BX2} (h : S2 b) {tr fr li ne : Int} (ht : pX2_traders b < 8) (h1 : 0 ≤ tr ∧ tr ≤ 7) (h2 : 1 ≤ fr ∧ fr ≤ 3) (h3 : 1 ≤ li ∧ li ≤ 9999) (h4 : ne = 0 ∨ ne = 1) : S2 (mEnrol b tr fr li ne) := by
  have h0 := h.tra
  obtain ⟨a1, a2, a3, a4, a5, a6, a7, a8, b1, b2, b3, b4, b5, b6, b7, b8, b9, b10⟩ := h
  refine ⟨a1, ?_, a3, a4, a5, ?_, ?_, a8, b1, b2, b3, nz_upd b4 h0.1 ht, nz_upd b5 h0.1 ht, nz_upd b6 h0.1 ht, nz_upd b7 h0.1 ht, b8, b9, b10⟩
  · show 0 ≤ pX2_traders b + 1 ∧ pX2_traders b + 1 ≤ 8; omega
  · intro t t0 t1
    have t1 : t < pX2_traders b + 1 := t1
    show (0 ≤ updZ (pX2_trades b) (pX2_traders b) tr t ∧ updZ (pX2_trades b) (pX2_traders b) tr t ≤ 7) ∧ (1 ≤ updZ (pX2_fronts b) (pX2_traders b) fr t ∧ updZ (pX2_fronts b) (pX2_traders b) fr t ≤ 3) ∧ (1 ≤ updZ (pX2_limits b) (pX2_traders b) li t ∧ updZ (pX2_limits b) (pX2_traders b) li t ≤ 9999)
    rw [updZ_app, updZ_app, updZ_app]
    by_cases he : t = pX2_traders b
    · rw [if_pos he, if_pos he, if_pos he]; exact ⟨h1, h2, h3⟩
    · rw [if_neg he, if_neg he, if_neg he]; exact a6 t t0 (by omega)
  · intro t
    show updZ (pX2_needy b) (pX2_traders b) ne t = 0 ∨ updZ (pX2_needy b) (pX2_traders b) ne t = 1
    rw [updZ_app]; split
    · exact h4
    · exact a7 t
theorem W2_enrol {b : BX2} (h : W2 b) {tr fr li ne : Int} (ht : pX2_traders b < 8) (h1 : 0 ≤ tr ∧ tr ≤ 7) (h2 : 1 ≤ fr ∧ fr ≤ 3) (h3 : 1 ≤ li ∧ li ≤ 9999) (h4 : ne = 0 ∨ ne = 1) : W2 (mEnrol b tr fr li ne) := by
  have h0 := h.s.tra
  have hF : ∀ t, t < pX2_traders b → pX2_fronts (mEnrol b tr fr li ne) t = pX2_fronts b t := fun t ht => updZ_ne (by omega)
  have hM : ∀ t s, t < pX2_traders b → mFor (mEnrol b tr fr li ne) t s = mFor b t s := by
    intro t s ht
    show (if updZ (pX2_needy b) (pX2_traders b) ne t = 0 then 0 else zr (fun p => if pX2_roofs b p = 0 then 1 else 0) s (min (s + updZ (pX2_fronts b) (pX2_traders b) fr t) (pX2_pitches b))) = mFor b t s
    rw [updZ_ne (by omega), updZ_ne (by omega)]
    rfl
  refine ⟨S2_enrol h.s ht h1 h2 h3 h4, ?_, ?_, ?_, ?_⟩
  · intro t t0 t1
    show pX2_starts b t = -1 ∨ (t < pX2_traders b + 1 ∧ 0 ≤ pX2_starts b t ∧ pX2_starts b t + pX2_fronts (mEnrol b tr fr li ne) t ≤ pX2_pitches b)
    cases h.st t t0 t1 with
    | inl h => exact .inl h
    | inr h => right; rw [hF t h.1]; exact ⟨by omega, h.2⟩
  · intro p p0 p1
    show pX2_standing b p = -1 ∨ (0 ≤ pX2_standing b p ∧ pX2_standing b p < pX2_traders b + 1 ∧ pX2_starts b (pX2_standing b p) ≠ -1 ∧ pX2_starts b (pX2_standing b p) ≤ p ∧ p < pX2_starts b (pX2_standing b p) + pX2_fronts (mEnrol b tr fr li ne) (pX2_standing b p))
    cases h.on p p0 p1 with
    | inl h => exact .inl h
    | inr h => right; rw [hF _ h.2.1]; exact ⟨h.1, by omega, h.2.2⟩
  · intro t p t0 t1 h2
    have t1 : t < pX2_traders b + 1 := t1
    have h2 : pX2_starts b t ≠ -1 := h2
    have h5 : t < pX2_traders b := by
      cases h.st t t0 (by omega) with
      | inl h => exact absurd h h2
      | inr h => exact h.1
    rw [hF t h5]
    exact h.lie t p t0 h5 h2
  · show pX2_coversBusy b = zr (fun t => if pX2_starts b t = -1 then 0 else mFor (mEnrol b tr fr li ne) t (pX2_starts b t)) 0 (pX2_traders b + 1)
    rw [zr_snoc h0.1, h.busy]
    have e : pX2_starts b (pX2_traders b) = -1 := by
      cases h.st _ h0.1 ht with
      | inl h => exact h
      | inr h => omega
    rw [if_pos e, Int.add_zero]
    apply zr_congr
    intro i i0 i1
    show (if pX2_starts b i = -1 then 0 else mFor b i (pX2_starts b i)) = (if pX2_starts b i = -1 then 0 else mFor (mEnrol b tr fr li ne) i (pX2_starts b i))
    rw [hM i _ i1]
theorem S2_addPitch {b : BX2} (h : S2 b) {row rent roof : Int} (hp : pX2_pitches b < 24) (h1 : 1 ≤ rent ∧ rent ≤ 999) (h2 : roof = 0 ∨ roof = 1) : S2 (mAddPitch b row rent roof) := by
  have h0 := h.pit
  obtain ⟨a1, a2, a3, a4, a5, a6, a7, a8, b1, b2, b3, b4, b5, b6, b7, b8, b9, b10⟩ := h
  refine ⟨?_, a2, a3, ?_, ?_, a6, a7, a8, nz_upd b1 h0.1 hp, nz_upd b2 h0.1 hp, nz_upd b3 h0.1 hp, b4, b5, b6, b7, b8, b9, b10⟩
  · show 0 ≤ pX2_pitches b + 1 ∧ pX2_pitches b + 1 ≤ 24; omega
  · intro t t0 t1
    have t1 : t < pX2_pitches b + 1 := t1
    show 1 ≤ updZ (pX2_rents b) (pX2_pitches b) rent t ∧ updZ (pX2_rents b) (pX2_pitches b) rent t ≤ 999
    rw [updZ_app]
    by_cases he : t = pX2_pitches b
    · rw [if_pos he]; exact h1
    · rw [if_neg he]; exact a4 t t0 (by omega)
  · intro t
    show updZ (pX2_roofs b) (pX2_pitches b) roof t = 0 ∨ updZ (pX2_roofs b) (pX2_pitches b) roof t = 1
    rw [updZ_app]; split
    · exact h2
    · exact a5 t
theorem mWipe_eqs (b : BX2) : pX2_pitches (mWipe b) = 0 ∧ pX2_rows (mWipe b) = pX2_rows b ∧ pX2_rents (mWipe b) = pX2_rents b ∧ pX2_roofs (mWipe b) = pX2_roofs b ∧ pX2_traders (mWipe b) = 0 ∧ pX2_trades (mWipe b) = pX2_trades b ∧ pX2_fronts (mWipe b) = pX2_fronts b ∧ pX2_limits (mWipe b) = pX2_limits b ∧ pX2_needy (mWipe b) = pX2_needy b ∧ pX2_clashes (mWipe b) = (fun _ => 0) ∧ pX2_covers (mWipe b) = 0 ∧ pX2_starts (mWipe b) = (fun t => if 0 ≤ t ∧ t < 8 then -1 else 0) ∧ pX2_standing (mWipe b) = (fun t => if 0 ≤ t ∧ t < 24 then -1 else 0) ∧ pX2_coversBusy (mWipe b) = 0 := by
  unfold mWipe mEmpty
  refine ⟨?_, ?_, ?_, ?_, ?_, ?_, ?_, ?_, ?_, ?_, ?_, ?_, ?_, ?_⟩ <;> simp only [eX2_pitches_pitches, eX2_pitches_rows, eX2_pitches_rents, eX2_pitches_roofs, eX2_pitches_traders, eX2_pitches_trades, eX2_pitches_fronts, eX2_pitches_limits, eX2_pitches_needy, eX2_pitches_clashes, eX2_pitches_covers, eX2_pitches_starts, eX2_pitches_standing, eX2_pitches_coversBusy, eX2_rows_pitches, eX2_rows_rows, eX2_rows_rents, eX2_rows_roofs, eX2_rows_traders, eX2_rows_trades, eX2_rows_fronts, eX2_rows_limits, eX2_rows_needy, eX2_rows_clashes, eX2_rows_covers, eX2_rows_starts, eX2_rows_standing, eX2_rows_coversBusy, eX2_rents_pitches, eX2_rents_rows, eX2_rents_rents, eX2_rents_roofs, eX2_rents_traders, eX2_rents_trades, eX2_rents_fronts, eX2_rents_limits, eX2_rents_needy, eX2_rents_clashes, eX2_rents_covers, eX2_rents_starts, eX2_rents_standing, eX2_rents_coversBusy, eX2_roofs_pitches, eX2_roofs_rows, eX2_roofs_rents, eX2_roofs_roofs, eX2_roofs_traders, eX2_roofs_trades, eX2_roofs_fronts, eX2_roofs_limits, eX2_roofs_needy, eX2_roofs_clashes, eX2_roofs_covers, eX2_roofs_starts, eX2_roofs_standing, eX2_roofs_coversBusy, eX2_traders_pitches, eX2_traders_rows, eX2_traders_rents, eX2_traders_roofs, eX2_traders_traders, eX2_traders_trades, eX2_traders_fronts, eX2_traders_limits, eX2_traders_needy, eX2_traders_clashes, eX2_traders_covers, eX2_traders_starts, eX2_traders_standing, eX2_traders_coversBusy, eX2_trades_pitches, eX2_trades_rows, eX2_trades_rents, eX2_trades_roofs, eX2_trades_traders, eX2_trades_trades, eX2_trades_fronts, eX2_trades_limits, eX2_trades_needy, eX2_trades_clashes, eX2_trades_covers, eX2_trades_starts, eX2_trades_standing, eX2_trades_coversBusy, eX2_fronts_pitches, eX2_fronts_rows, eX2_fronts_rents, eX2_fronts_roofs, eX2_fronts_traders, eX2_fronts_trades, eX2_fronts_fronts, eX2_fronts_limits, eX2_fronts_needy, eX2_fronts_clashes, eX2_fronts_covers, eX2_fronts_starts, eX2_fronts_standing, eX2_fronts_coversBusy, eX2_limits_pitches, eX2_limits_rows, eX2_limits_rents, eX2_limits_roofs, eX2_limits_traders, eX2_limits_trades, eX2_limits_fronts, eX2_limits_limits, eX2_limits_needy, eX2_limits_clashes, eX2_limits_covers, eX2_limits_starts, eX2_limits_standing, eX2_limits_coversBusy, eX2_needy_pitches, eX2_needy_rows, eX2_needy_rents, eX2_needy_roofs, eX2_needy_traders, eX2_needy_trades, eX2_needy_fronts, eX2_needy_limits, eX2_needy_needy, eX2_needy_clashes, eX2_needy_covers, eX2_needy_starts, eX2_needy_standing, eX2_needy_coversBusy, eX2_clashes_pitches, eX2_clashes_rows, eX2_clashes_rents, eX2_clashes_roofs, eX2_clashes_traders, eX2_clashes_trades, eX2_clashes_fronts, eX2_clashes_limits, eX2_clashes_needy, eX2_clashes_clashes, eX2_clashes_covers, eX2_clashes_starts, eX2_clashes_standing, eX2_clashes_coversBusy, eX2_covers_pitches, eX2_covers_rows, eX2_covers_rents, eX2_covers_roofs, eX2_covers_traders, eX2_covers_trades, eX2_covers_fronts, eX2_covers_limits, eX2_covers_needy, eX2_covers_clashes, eX2_covers_covers, eX2_covers_starts, eX2_covers_standing, eX2_covers_coversBusy, eX2_starts_pitches, eX2_starts_rows, eX2_starts_rents, eX2_starts_roofs, eX2_starts_traders, eX2_starts_trades, eX2_starts_fronts, eX2_starts_limits, eX2_starts_needy, eX2_starts_clashes, eX2_starts_covers, eX2_starts_starts, eX2_starts_standing, eX2_starts_coversBusy, eX2_standing_pitches, eX2_standing_rows, eX2_standing_rents, eX2_standing_roofs, eX2_standing_traders, eX2_standing_trades, eX2_standing_fronts, eX2_standing_limits, eX2_standing_needy, eX2_standing_clashes, eX2_standing_covers, eX2_standing_starts, eX2_standing_standing, eX2_standing_coversBusy, eX2_coversBusy_pitches, eX2_coversBusy_rows, eX2_coversBusy_rents, eX2_coversBusy_roofs, eX2_coversBusy_traders, eX2_coversBusy_trades, eX2_coversBusy_fronts, eX2_coversBusy_limits, eX2_coversBusy_needy, eX2_coversBusy_clashes, eX2_coversBusy_covers, eX2_coversBusy_starts, eX2_coversBusy_standing, eX2_coversBusy_coversBusy]
theorem mWipe_W2 {b : BX2} (h : S2 b) : W2 (mWipe b) := by
  obtain ⟨a1, a2, a3, a4, a5, a6, a7, a8, b1, b2, b3, b4, b5, b6, b7, b8, b9, b10⟩ := h
  obtain ⟨e1, e2, e3, e4, e5, e6, e7, e8, e9, e10, e11, e12, e13, e14⟩ := mWipe_eqs b
  refine ⟨?_, ?_⟩
  · unfold S2
    rw [e1, e2, e3, e4, e5, e6, e7, e8, e9, e10, e11, e12, e13]
    exact ⟨⟨Int.le_refl 0, by decide⟩, ⟨Int.le_refl 0, by decide⟩, ⟨Int.le_refl 0, by decide⟩, fun p p0 p1 => by omega, a5, fun p p0 p1 => by omega, a7, fun _ => ⟨Int.le_refl 0, (by decide : (0 : Int) ≤ 255)⟩, b1, b2, b3, b4, b5, b6, b7, fun _ _ => rfl, (fun i hi => if_neg (by omega)), (fun i hi => if_neg (by omega))⟩
  · unfold Q2
    rw [e1, e5, e12, e13, e14, zr_nil (by omega)]
    exact ⟨fun t t0 t1 => .inl (if_pos ⟨t0, t1⟩), fun t t0 t1 => .inl (if_pos ⟨t0, t1⟩), fun t p t0 t1 => by omega, rfl⟩
