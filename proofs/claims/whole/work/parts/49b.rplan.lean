/-! The reference's table of best values. -/
def rix (p u h l : Int) : Int := ((p * 256 + u) * 9 + h) * 6 + l
noncomputable def barH (b : BX2) (h : Int) : Int := if h = 8 then 0 else foeV b h
theorem foeF_bit (b : BX2) (h : Int) {t : Int} (t0 : 0 ≤ t) : ∀ k : Nat, k ≤ 8 → t < 8 → (zbit (foeF b h k) t ↔ (t < k ∧ t ≠ h ∧ mClash b h t)) := by
  intro k
  induction k with
  | zero =>
    intro _ t8
    constructor
    · intro x; exact absurd x (zbit_0 t0 (by omega))
    · intro x; omega
  | succ k ih =>
    intro k8 t8
    have ih := ih (by omega) t8
    rw [foeF.eq_2]
    by_cases hc : (k : Int) ≠ h ∧ mClash b h k
    · rw [cif_pos hc, zbit_or (by omega) (by omega) t0 (by omega), ih]
      constructor
      · rintro (x | x)
        · exact ⟨by omega, x.2⟩
        · rw [x]; exact ⟨by omega, hc⟩
      · intro x
        by_cases he : t = k
        · exact .inr he
        · exact .inl ⟨by omega, x.2⟩
    · rw [cif_neg hc, ih]
      constructor
      · intro x; exact ⟨by omega, x.2⟩
      · intro x
        refine ⟨?_, x.2⟩
        by_cases he : t = k
        · rw [he] at x; exact absurd x.2 hc
        · omega
theorem foeV_bit {b : BX2} (hb : S2 b) (h : Int) {t : Int} (t0 : 0 ≤ t) (t1 : t < pX2_traders b) : zbit (foeV b h) t ↔ (t ≠ h ∧ mClash b h t) := by
  have ht := hb.tra
  unfold foeV
  rw [foeF_bit b h t0 _ (by omega) (by omega)]
  exact ⟨fun x => x.2, fun x => ⟨by omega, x⟩⟩
def hOK (b : BX2) (u h : Int) : Prop := h = 8 ∨ (0 ≤ h ∧ h < pX2_traders b ∧ zbit u h)
def BestOK (b : BX2) (c : Int) (r : BX6) (p : Int) : Prop := ∀ u h l, 0 ≤ u → u < zShl 1 (pX2_traders b) → hOK b u h → 0 ≤ l → l ≤ c → pX6_best r (rix p u h l) = opt b p u (barH b h) l
theorem s_X6_begun {b : BX2} {r : BX6} (hb : S2 b) (R : Rl b (pX6_a r)) {c t p u h l : Int} (hc5 : c ≤ 5) (t0 : 0 ≤ t) (t1 : t < pX2_traders b) (p0 : 0 ≤ p) (p1 : p < pX2_pitches b) (hL : Lk b r t p) (hu : 0 ≤ u ∧ u < zShl 1 (pX2_traders b)) (hh : hOK b u h) (l0 : 0 ≤ l) (l1 : l ≤ c) (hrow : ∀ p', p < p' → p' ≤ pX2_pitches b → BestOK b c r p') : g_X6_begun r t p u h l = some (cand b p u (barH b h) l t) := by
  have ht := hb.tra
  have hp := hb.pit
  have hf := hb.fr t0 t1
  have hr := mRent_b hb t0 t1 p0
  have hm := mFor_b b t p (by omega)
  have sb := sets_b hb
  obtain ⟨e1, e2⟩ := hL
  unfold g_X6_begun
  rw [oR_ok (by omega) (by omega), oL_def]
  by_cases c1 : zbit u t
  · rw [if_pos ((zShr1_eq1 t0 (by omega)).2 c1)]
    unfold cand; rw [cif_neg (fun x => x.1 c1)]
  · rw [if_neg (fun x => c1 ((zShr1_eq1 t0 (by omega)).1 x)), qA_ok (by omega) (by omega) (by omega), e1]
    by_cases c2 : mPos b t p
    · obtain ⟨e3, e4⟩ := e2 c2
      have hl := mInRow_lt c2.1
      rw [cif_pos c2, if_neg (by omega), qA_ok (by omega) (by omega) (by omega), e3]
      by_cases c3 : mFor b t p ≤ l
      · rw [if_pos c3]
        have hu2 := or_lt ht hu ⟨t0, t1⟩
        have hbt : zbit (zOr u (zShl 1 t)) t := (zbit_or t0 (by omega) t0 (by omega)).2 (.inr rfl)
        have hh2 : hOK b (zOr u (zShl 1 t)) (pX6_aheadBy r (24 * t + p)) := by
          rw [e4]
          by_cases hsh : mShare b (p + pX2_fronts b t - 1) (p + pX2_fronts b t)
          · rw [cif_pos hsh]; exact .inr ⟨t0, t1, hbt⟩
          · rw [cif_neg hsh]; exact .inl rfl
        have hbar : barH b (pX6_aheadBy r (24 * t + p)) = mBehind b t p := by
          rw [e4]
          unfold barH mBehind
          by_cases hsh : mShare b (p + pX2_fronts b t - 1) (p + pX2_fronts b t)
          · rw [cif_pos hsh, cif_pos hsh, if_neg (by omega)]
          · rw [cif_neg hsh, cif_neg hsh, if_pos rfl]
        have hah : 0 ≤ pX6_aheadBy r (24 * t + p) ∧ pX6_aheadBy r (24 * t + p) ≤ 8 := by
          rcases hh2 with x | x
          · omega
          · omega
        have hbst := hrow (p + pX2_fronts b t) (by omega) (by omega) (zOr u (zShl 1 t)) (pX6_aheadBy r (24 * t + p)) (l - mFor b t p) hu2.1 hu2.2 hh2 (by omega) (by omega)
        have hop := opt_r hb (p := p + pX2_fronts b t) (zOr u (zShl 1 t)) (barH b (pX6_aheadBy r (24 * t + p))) (l - mFor b t p) (by omega)
        have e61 : g_X6_begun_61 t p u l (24 * t + p) r = some (16 * mRent b t p + 1 + opt b (p + pX2_fronts b t) (zOr u (zShl 1 t)) (mBehind b t p) (l - mFor b t p)) := by
          unfold g_X6_begun_61 g_X6_at
          rw [qA_ok (by omega) (by omega) (by omega), qA_ok (by omega) (by omega) (by omega), qA_ok (by omega) (by omega) (by omega), qA_ok (by omega) (by omega) (by omega), R.fr t0 t1, oR_ok (by omega) (by omega), e3, oR_ok (by omega) (by omega), oR_ok (by omega) (by omega), oB_some, qA_ok (by omega) (by omega) (by omega), e1, cif_pos c2]
          have : pX6_best r ((((p + pX2_fronts b t) * 256 + zOr u (zShl 1 t)) * 9 + pX6_aheadBy r (24 * t + p)) * 6 + (l - mFor b t p)) = opt b (p + pX2_fronts b t) (zOr u (zShl 1 t)) (barH b (pX6_aheadBy r (24 * t + p))) (l - mFor b t p) := hbst
          rw [this, oR_ok (by omega) (by omega), hbar]
        rcases hh with h8 | ⟨h0, h1, h2⟩
        · rw [if_pos (by omega), e61]
          unfold cand
          rw [cif_pos]
          refine ⟨c1, c2, ?_, c3⟩
          unfold barH
          rw [if_pos h8]
          exact zbit_0 t0 (by omega)
        · rw [if_neg (by omega), s_X6_doClash hb R h0 h1 t0 t1, oB_some]
          have hne : t ≠ h := by intro x; rw [x] at c1; exact c1 h2
          have hbh : zbit (barH b h) t ↔ mClash b h t := by
            unfold barH
            rw [if_neg (by omega), foeV_bit hb h t0 t1]
            exact ⟨fun x => x.2, fun x => ⟨hne, x⟩⟩
          by_cases c4 : mClash b h t
          · rw [zB_pos c4, if_neg (by omega)]
            unfold cand; rw [cif_neg (fun x => x.2.2.1 (hbh.2 c4))]
          · rw [zB_neg c4, if_pos rfl, e61]
            unfold cand; rw [cif_pos ⟨c1, c2, fun x => c4 (hbh.1 x), c3⟩]
      · rw [if_neg c3]
        unfold cand; rw [cif_neg (fun x => c3 x.2.2.2)]
    · rw [cif_neg c2, if_pos rfl]
      unfold cand; rw [cif_neg (fun x => c2 x.2.1)]
theorem s_X6_free {b : BX2} {r : BX6} (hb : S2 b) {c p u l : Int} (hc5 : c ≤ 5) (p0 : 0 ≤ p) (p1 : p < pX2_pitches b) (hu : 0 ≤ u ∧ u < zShl 1 (pX2_traders b)) (l0 : 0 ≤ l) (l1 : l ≤ c) (hrow : BestOK b c r (p + 1)) : g_X6_free r p u l = some (opt b (p + 1) u 0 l) := by
  have hp := hb.pit
  have sb := sets_b hb
  unfold g_X6_free g_X6_at
  rw [oR_ok (by omega) (by omega), oR_ok (by omega) (by omega), oB_some, qA_ok (by omega) (by omega) (by omega)]
  have := hrow u 8 l hu.1 hu.2 (.inl rfl) l0 l1
  unfold barH rix at this
  rw [if_pos rfl] at this
  rw [this]
/-! only the table of best values differs -/
def Rb (r r' : BX6) : Prop := ∃ v, r' = sX6_best r v
theorem Rb.rfl' (r : BX6) : Rb r r := ⟨pX6_best r, (iX6_best r).symm⟩
theorem Rb.trans {r s t : BX6} (h : Rb r s) (k : Rb s t) : Rb r t := by
  obtain ⟨v, rfl⟩ := h
  obtain ⟨w, rfl⟩ := k
  exact ⟨w, uX6_best _ _ _⟩
theorem Rb.fr {r r' : BX6} (h : Rb r r') : Fr6 r r' := by obtain ⟨v, rfl⟩ := h; exact Fr6.best _ _
theorem Rb.eqs {r r' : BX6} (h : Rb r r') : pX6_a r' = pX6_a r ∧ pX6_rentBy r' = pX6_rentBy r ∧ pX6_bareBy r' = pX6_bareBy r ∧ pX6_aheadBy r' = pX6_aheadBy r := by
  obtain ⟨v, rfl⟩ := h
  refine ⟨?_, ?_, ?_, ?_⟩ <;> simp only [eX6_a_a, eX6_a_fresh, eX6_a_kept, eX6_a_keptMany, eX6_a_thrown, eX6_a_buffer, eX6_a_buffered, eX6_a_size, eX6_a_at, eX6_a_behind, eX6_a_kind, eX6_a_wrong, eX6_a_wrongAt, eX6_a_errorAt, eX6_a_number, eX6_a_best, eX6_a_rentBy, eX6_a_bareBy, eX6_a_aheadBy, eX6_a_isEdge, eX6_a_tried, eX6_a_stands, eX6_a_found, eX6_a_foundOn, eX6_a_moving, eX6_a_movingMany, eX6_a_foundIncome, eX6_a_foundMoves, eX6_fresh_a, eX6_fresh_fresh, eX6_fresh_kept, eX6_fresh_keptMany, eX6_fresh_thrown, eX6_fresh_buffer, eX6_fresh_buffered, eX6_fresh_size, eX6_fresh_at, eX6_fresh_behind, eX6_fresh_kind, eX6_fresh_wrong, eX6_fresh_wrongAt, eX6_fresh_errorAt, eX6_fresh_number, eX6_fresh_best, eX6_fresh_rentBy, eX6_fresh_bareBy, eX6_fresh_aheadBy, eX6_fresh_isEdge, eX6_fresh_tried, eX6_fresh_stands, eX6_fresh_found, eX6_fresh_foundOn, eX6_fresh_moving, eX6_fresh_movingMany, eX6_fresh_foundIncome, eX6_fresh_foundMoves, eX6_kept_a, eX6_kept_fresh, eX6_kept_kept, eX6_kept_keptMany, eX6_kept_thrown, eX6_kept_buffer, eX6_kept_buffered, eX6_kept_size, eX6_kept_at, eX6_kept_behind, eX6_kept_kind, eX6_kept_wrong, eX6_kept_wrongAt, eX6_kept_errorAt, eX6_kept_number, eX6_kept_best, eX6_kept_rentBy, eX6_kept_bareBy, eX6_kept_aheadBy, eX6_kept_isEdge, eX6_kept_tried, eX6_kept_stands, eX6_kept_found, eX6_kept_foundOn, eX6_kept_moving, eX6_kept_movingMany, eX6_kept_foundIncome, eX6_kept_foundMoves, eX6_keptMany_a, eX6_keptMany_fresh, eX6_keptMany_kept, eX6_keptMany_keptMany, eX6_keptMany_thrown, eX6_keptMany_buffer, eX6_keptMany_buffered, eX6_keptMany_size, eX6_keptMany_at, eX6_keptMany_behind, eX6_keptMany_kind, eX6_keptMany_wrong, eX6_keptMany_wrongAt, eX6_keptMany_errorAt, eX6_keptMany_number, eX6_keptMany_best, eX6_keptMany_rentBy, eX6_keptMany_bareBy, eX6_keptMany_aheadBy, eX6_keptMany_isEdge, eX6_keptMany_tried, eX6_keptMany_stands, eX6_keptMany_found, eX6_keptMany_foundOn, eX6_keptMany_moving, eX6_keptMany_movingMany, eX6_keptMany_foundIncome, eX6_keptMany_foundMoves, eX6_thrown_a, eX6_thrown_fresh, eX6_thrown_kept, eX6_thrown_keptMany, eX6_thrown_thrown, eX6_thrown_buffer, eX6_thrown_buffered, eX6_thrown_size, eX6_thrown_at, eX6_thrown_behind, eX6_thrown_kind, eX6_thrown_wrong, eX6_thrown_wrongAt, eX6_thrown_errorAt, eX6_thrown_number, eX6_thrown_best, eX6_thrown_rentBy, eX6_thrown_bareBy, eX6_thrown_aheadBy, eX6_thrown_isEdge, eX6_thrown_tried, eX6_thrown_stands, eX6_thrown_found, eX6_thrown_foundOn, eX6_thrown_moving, eX6_thrown_movingMany, eX6_thrown_foundIncome, eX6_thrown_foundMoves, eX6_buffer_a, eX6_buffer_fresh, eX6_buffer_kept, eX6_buffer_keptMany, eX6_buffer_thrown, eX6_buffer_buffer, eX6_buffer_buffered, eX6_buffer_size, eX6_buffer_at, eX6_buffer_behind, eX6_buffer_kind, eX6_buffer_wrong, eX6_buffer_wrongAt, eX6_buffer_errorAt, eX6_buffer_number, eX6_buffer_best, eX6_buffer_rentBy, eX6_buffer_bareBy, eX6_buffer_aheadBy, eX6_buffer_isEdge, eX6_buffer_tried, eX6_buffer_stands, eX6_buffer_found, eX6_buffer_foundOn, eX6_buffer_moving, eX6_buffer_movingMany, eX6_buffer_foundIncome, eX6_buffer_foundMoves, eX6_buffered_a, eX6_buffered_fresh, eX6_buffered_kept, eX6_buffered_keptMany, eX6_buffered_thrown, eX6_buffered_buffer, eX6_buffered_buffered, eX6_buffered_size, eX6_buffered_at, eX6_buffered_behind, eX6_buffered_kind, eX6_buffered_wrong, eX6_buffered_wrongAt, eX6_buffered_errorAt, eX6_buffered_number, eX6_buffered_best, eX6_buffered_rentBy, eX6_buffered_bareBy, eX6_buffered_aheadBy, eX6_buffered_isEdge, eX6_buffered_tried, eX6_buffered_stands, eX6_buffered_found, eX6_buffered_foundOn, eX6_buffered_moving, eX6_buffered_movingMany, eX6_buffered_foundIncome, eX6_buffered_foundMoves, eX6_size_a, eX6_size_fresh, eX6_size_kept, eX6_size_keptMany, eX6_size_thrown, eX6_size_buffer, eX6_size_buffered, eX6_size_size, eX6_size_at, eX6_size_behind, eX6_size_kind, eX6_size_wrong, eX6_size_wrongAt, eX6_size_errorAt, eX6_size_number, eX6_size_best, eX6_size_rentBy, eX6_size_bareBy, eX6_size_aheadBy, eX6_size_isEdge, eX6_size_tried, eX6_size_stands, eX6_size_found, eX6_size_foundOn, eX6_size_moving, eX6_size_movingMany, eX6_size_foundIncome, eX6_size_foundMoves, eX6_at_a, eX6_at_fresh, eX6_at_kept, eX6_at_keptMany, eX6_at_thrown, eX6_at_buffer, eX6_at_buffered, eX6_at_size, eX6_at_at, eX6_at_behind, eX6_at_kind, eX6_at_wrong, eX6_at_wrongAt, eX6_at_errorAt, eX6_at_number, eX6_at_best, eX6_at_rentBy, eX6_at_bareBy, eX6_at_aheadBy, eX6_at_isEdge, eX6_at_tried, eX6_at_stands, eX6_at_found, eX6_at_foundOn, eX6_at_moving, eX6_at_movingMany, eX6_at_foundIncome, eX6_at_foundMoves, eX6_behind_a, eX6_behind_fresh, eX6_behind_kept, eX6_behind_keptMany, eX6_behind_thrown, eX6_behind_buffer, eX6_behind_buffered, eX6_behind_size, eX6_behind_at, eX6_behind_behind, eX6_behind_kind, eX6_behind_wrong, eX6_behind_wrongAt, eX6_behind_errorAt, eX6_behind_number, eX6_behind_best, eX6_behind_rentBy, eX6_behind_bareBy, eX6_behind_aheadBy, eX6_behind_isEdge, eX6_behind_tried, eX6_behind_stands, eX6_behind_found, eX6_behind_foundOn, eX6_behind_moving, eX6_behind_movingMany, eX6_behind_foundIncome, eX6_behind_foundMoves, eX6_kind_a, eX6_kind_fresh, eX6_kind_kept, eX6_kind_keptMany, eX6_kind_thrown, eX6_kind_buffer, eX6_kind_buffered, eX6_kind_size, eX6_kind_at, eX6_kind_behind, eX6_kind_kind, eX6_kind_wrong, eX6_kind_wrongAt, eX6_kind_errorAt, eX6_kind_number, eX6_kind_best, eX6_kind_rentBy, eX6_kind_bareBy, eX6_kind_aheadBy, eX6_kind_isEdge, eX6_kind_tried, eX6_kind_stands, eX6_kind_found, eX6_kind_foundOn, eX6_kind_moving, eX6_kind_movingMany, eX6_kind_foundIncome, eX6_kind_foundMoves, eX6_wrong_a, eX6_wrong_fresh, eX6_wrong_kept, eX6_wrong_keptMany, eX6_wrong_thrown, eX6_wrong_buffer, eX6_wrong_buffered, eX6_wrong_size, eX6_wrong_at, eX6_wrong_behind, eX6_wrong_kind, eX6_wrong_wrong, eX6_wrong_wrongAt, eX6_wrong_errorAt, eX6_wrong_number, eX6_wrong_best, eX6_wrong_rentBy, eX6_wrong_bareBy, eX6_wrong_aheadBy, eX6_wrong_isEdge, eX6_wrong_tried, eX6_wrong_stands, eX6_wrong_found, eX6_wrong_foundOn, eX6_wrong_moving, eX6_wrong_movingMany, eX6_wrong_foundIncome, eX6_wrong_foundMoves, eX6_wrongAt_a, eX6_wrongAt_fresh, eX6_wrongAt_kept, eX6_wrongAt_keptMany, eX6_wrongAt_thrown, eX6_wrongAt_buffer, eX6_wrongAt_buffered, eX6_wrongAt_size, eX6_wrongAt_at, eX6_wrongAt_behind, eX6_wrongAt_kind, eX6_wrongAt_wrong, eX6_wrongAt_wrongAt, eX6_wrongAt_errorAt, eX6_wrongAt_number, eX6_wrongAt_best, eX6_wrongAt_rentBy, eX6_wrongAt_bareBy, eX6_wrongAt_aheadBy, eX6_wrongAt_isEdge, eX6_wrongAt_tried, eX6_wrongAt_stands, eX6_wrongAt_found, eX6_wrongAt_foundOn, eX6_wrongAt_moving, eX6_wrongAt_movingMany, eX6_wrongAt_foundIncome, eX6_wrongAt_foundMoves, eX6_errorAt_a, eX6_errorAt_fresh, eX6_errorAt_kept, eX6_errorAt_keptMany, eX6_errorAt_thrown, eX6_errorAt_buffer, eX6_errorAt_buffered, eX6_errorAt_size, eX6_errorAt_at, eX6_errorAt_behind, eX6_errorAt_kind, eX6_errorAt_wrong, eX6_errorAt_wrongAt, eX6_errorAt_errorAt, eX6_errorAt_number, eX6_errorAt_best, eX6_errorAt_rentBy, eX6_errorAt_bareBy, eX6_errorAt_aheadBy, eX6_errorAt_isEdge, eX6_errorAt_tried, eX6_errorAt_stands, eX6_errorAt_found, eX6_errorAt_foundOn, eX6_errorAt_moving, eX6_errorAt_movingMany, eX6_errorAt_foundIncome, eX6_errorAt_foundMoves, eX6_number_a, eX6_number_fresh, eX6_number_kept, eX6_number_keptMany, eX6_number_thrown, eX6_number_buffer, eX6_number_buffered, eX6_number_size, eX6_number_at, eX6_number_behind, eX6_number_kind, eX6_number_wrong, eX6_number_wrongAt, eX6_number_errorAt, eX6_number_number, eX6_number_best, eX6_number_rentBy, eX6_number_bareBy, eX6_number_aheadBy, eX6_number_isEdge, eX6_number_tried, eX6_number_stands, eX6_number_found, eX6_number_foundOn, eX6_number_moving, eX6_number_movingMany, eX6_number_foundIncome, eX6_number_foundMoves, eX6_best_a, eX6_best_fresh, eX6_best_kept, eX6_best_keptMany, eX6_best_thrown, eX6_best_buffer, eX6_best_buffered, eX6_best_size, eX6_best_at, eX6_best_behind, eX6_best_kind, eX6_best_wrong, eX6_best_wrongAt, eX6_best_errorAt, eX6_best_number, eX6_best_best, eX6_best_rentBy, eX6_best_bareBy, eX6_best_aheadBy, eX6_best_isEdge, eX6_best_tried, eX6_best_stands, eX6_best_found, eX6_best_foundOn, eX6_best_moving, eX6_best_movingMany, eX6_best_foundIncome, eX6_best_foundMoves, eX6_rentBy_a, eX6_rentBy_fresh, eX6_rentBy_kept, eX6_rentBy_keptMany, eX6_rentBy_thrown, eX6_rentBy_buffer, eX6_rentBy_buffered, eX6_rentBy_size, eX6_rentBy_at, eX6_rentBy_behind, eX6_rentBy_kind, eX6_rentBy_wrong, eX6_rentBy_wrongAt, eX6_rentBy_errorAt, eX6_rentBy_number, eX6_rentBy_best, eX6_rentBy_rentBy, eX6_rentBy_bareBy, eX6_rentBy_aheadBy, eX6_rentBy_isEdge, eX6_rentBy_tried, eX6_rentBy_stands, eX6_rentBy_found, eX6_rentBy_foundOn, eX6_rentBy_moving, eX6_rentBy_movingMany, eX6_rentBy_foundIncome, eX6_rentBy_foundMoves, eX6_bareBy_a, eX6_bareBy_fresh, eX6_bareBy_kept, eX6_bareBy_keptMany, eX6_bareBy_thrown, eX6_bareBy_buffer, eX6_bareBy_buffered, eX6_bareBy_size, eX6_bareBy_at, eX6_bareBy_behind, eX6_bareBy_kind, eX6_bareBy_wrong, eX6_bareBy_wrongAt, eX6_bareBy_errorAt, eX6_bareBy_number, eX6_bareBy_best, eX6_bareBy_rentBy, eX6_bareBy_bareBy, eX6_bareBy_aheadBy, eX6_bareBy_isEdge, eX6_bareBy_tried, eX6_bareBy_stands, eX6_bareBy_found, eX6_bareBy_foundOn, eX6_bareBy_moving, eX6_bareBy_movingMany, eX6_bareBy_foundIncome, eX6_bareBy_foundMoves, eX6_aheadBy_a, eX6_aheadBy_fresh, eX6_aheadBy_kept, eX6_aheadBy_keptMany, eX6_aheadBy_thrown, eX6_aheadBy_buffer, eX6_aheadBy_buffered, eX6_aheadBy_size, eX6_aheadBy_at, eX6_aheadBy_behind, eX6_aheadBy_kind, eX6_aheadBy_wrong, eX6_aheadBy_wrongAt, eX6_aheadBy_errorAt, eX6_aheadBy_number, eX6_aheadBy_best, eX6_aheadBy_rentBy, eX6_aheadBy_bareBy, eX6_aheadBy_aheadBy, eX6_aheadBy_isEdge, eX6_aheadBy_tried, eX6_aheadBy_stands, eX6_aheadBy_found, eX6_aheadBy_foundOn, eX6_aheadBy_moving, eX6_aheadBy_movingMany, eX6_aheadBy_foundIncome, eX6_aheadBy_foundMoves, eX6_isEdge_a, eX6_isEdge_fresh, eX6_isEdge_kept, eX6_isEdge_keptMany, eX6_isEdge_thrown, eX6_isEdge_buffer, eX6_isEdge_buffered, eX6_isEdge_size, eX6_isEdge_at, eX6_isEdge_behind, eX6_isEdge_kind, eX6_isEdge_wrong, eX6_isEdge_wrongAt, eX6_isEdge_errorAt, eX6_isEdge_number, eX6_isEdge_best, eX6_isEdge_rentBy, eX6_isEdge_bareBy, eX6_isEdge_aheadBy, eX6_isEdge_isEdge, eX6_isEdge_tried, eX6_isEdge_stands, eX6_isEdge_found, eX6_isEdge_foundOn, eX6_isEdge_moving, eX6_isEdge_movingMany, eX6_isEdge_foundIncome, eX6_isEdge_foundMoves, eX6_tried_a, eX6_tried_fresh, eX6_tried_kept, eX6_tried_keptMany, eX6_tried_thrown, eX6_tried_buffer, eX6_tried_buffered, eX6_tried_size, eX6_tried_at, eX6_tried_behind, eX6_tried_kind, eX6_tried_wrong, eX6_tried_wrongAt, eX6_tried_errorAt, eX6_tried_number, eX6_tried_best, eX6_tried_rentBy, eX6_tried_bareBy, eX6_tried_aheadBy, eX6_tried_isEdge, eX6_tried_tried, eX6_tried_stands, eX6_tried_found, eX6_tried_foundOn, eX6_tried_moving, eX6_tried_movingMany, eX6_tried_foundIncome, eX6_tried_foundMoves, eX6_stands_a, eX6_stands_fresh, eX6_stands_kept, eX6_stands_keptMany, eX6_stands_thrown, eX6_stands_buffer, eX6_stands_buffered, eX6_stands_size, eX6_stands_at, eX6_stands_behind, eX6_stands_kind, eX6_stands_wrong, eX6_stands_wrongAt, eX6_stands_errorAt, eX6_stands_number, eX6_stands_best, eX6_stands_rentBy, eX6_stands_bareBy, eX6_stands_aheadBy, eX6_stands_isEdge, eX6_stands_tried, eX6_stands_stands, eX6_stands_found, eX6_stands_foundOn, eX6_stands_moving, eX6_stands_movingMany, eX6_stands_foundIncome, eX6_stands_foundMoves, eX6_found_a, eX6_found_fresh, eX6_found_kept, eX6_found_keptMany, eX6_found_thrown, eX6_found_buffer, eX6_found_buffered, eX6_found_size, eX6_found_at, eX6_found_behind, eX6_found_kind, eX6_found_wrong, eX6_found_wrongAt, eX6_found_errorAt, eX6_found_number, eX6_found_best, eX6_found_rentBy, eX6_found_bareBy, eX6_found_aheadBy, eX6_found_isEdge, eX6_found_tried, eX6_found_stands, eX6_found_found, eX6_found_foundOn, eX6_found_moving, eX6_found_movingMany, eX6_found_foundIncome, eX6_found_foundMoves, eX6_foundOn_a, eX6_foundOn_fresh, eX6_foundOn_kept, eX6_foundOn_keptMany, eX6_foundOn_thrown, eX6_foundOn_buffer, eX6_foundOn_buffered, eX6_foundOn_size, eX6_foundOn_at, eX6_foundOn_behind, eX6_foundOn_kind, eX6_foundOn_wrong, eX6_foundOn_wrongAt, eX6_foundOn_errorAt, eX6_foundOn_number, eX6_foundOn_best, eX6_foundOn_rentBy, eX6_foundOn_bareBy, eX6_foundOn_aheadBy, eX6_foundOn_isEdge, eX6_foundOn_tried, eX6_foundOn_stands, eX6_foundOn_found, eX6_foundOn_foundOn, eX6_foundOn_moving, eX6_foundOn_movingMany, eX6_foundOn_foundIncome, eX6_foundOn_foundMoves, eX6_moving_a, eX6_moving_fresh, eX6_moving_kept, eX6_moving_keptMany, eX6_moving_thrown, eX6_moving_buffer, eX6_moving_buffered, eX6_moving_size, eX6_moving_at, eX6_moving_behind, eX6_moving_kind, eX6_moving_wrong, eX6_moving_wrongAt, eX6_moving_errorAt, eX6_moving_number, eX6_moving_best, eX6_moving_rentBy, eX6_moving_bareBy, eX6_moving_aheadBy, eX6_moving_isEdge, eX6_moving_tried, eX6_moving_stands, eX6_moving_found, eX6_moving_foundOn, eX6_moving_moving, eX6_moving_movingMany, eX6_moving_foundIncome, eX6_moving_foundMoves, eX6_movingMany_a, eX6_movingMany_fresh, eX6_movingMany_kept, eX6_movingMany_keptMany, eX6_movingMany_thrown, eX6_movingMany_buffer, eX6_movingMany_buffered, eX6_movingMany_size, eX6_movingMany_at, eX6_movingMany_behind, eX6_movingMany_kind, eX6_movingMany_wrong, eX6_movingMany_wrongAt, eX6_movingMany_errorAt, eX6_movingMany_number, eX6_movingMany_best, eX6_movingMany_rentBy, eX6_movingMany_bareBy, eX6_movingMany_aheadBy, eX6_movingMany_isEdge, eX6_movingMany_tried, eX6_movingMany_stands, eX6_movingMany_found, eX6_movingMany_foundOn, eX6_movingMany_moving, eX6_movingMany_movingMany, eX6_movingMany_foundIncome, eX6_movingMany_foundMoves, eX6_foundIncome_a, eX6_foundIncome_fresh, eX6_foundIncome_kept, eX6_foundIncome_keptMany, eX6_foundIncome_thrown, eX6_foundIncome_buffer, eX6_foundIncome_buffered, eX6_foundIncome_size, eX6_foundIncome_at, eX6_foundIncome_behind, eX6_foundIncome_kind, eX6_foundIncome_wrong, eX6_foundIncome_wrongAt, eX6_foundIncome_errorAt, eX6_foundIncome_number, eX6_foundIncome_best, eX6_foundIncome_rentBy, eX6_foundIncome_bareBy, eX6_foundIncome_aheadBy, eX6_foundIncome_isEdge, eX6_foundIncome_tried, eX6_foundIncome_stands, eX6_foundIncome_found, eX6_foundIncome_foundOn, eX6_foundIncome_moving, eX6_foundIncome_movingMany, eX6_foundIncome_foundIncome, eX6_foundIncome_foundMoves, eX6_foundMoves_a, eX6_foundMoves_fresh, eX6_foundMoves_kept, eX6_foundMoves_keptMany, eX6_foundMoves_thrown, eX6_foundMoves_buffer, eX6_foundMoves_buffered, eX6_foundMoves_size, eX6_foundMoves_at, eX6_foundMoves_behind, eX6_foundMoves_kind, eX6_foundMoves_wrong, eX6_foundMoves_wrongAt, eX6_foundMoves_errorAt, eX6_foundMoves_number, eX6_foundMoves_best, eX6_foundMoves_rentBy, eX6_foundMoves_bareBy, eX6_foundMoves_aheadBy, eX6_foundMoves_isEdge, eX6_foundMoves_tried, eX6_foundMoves_stands, eX6_foundMoves_found, eX6_foundMoves_foundOn, eX6_foundMoves_moving, eX6_foundMoves_movingMany, eX6_foundMoves_foundIncome, eX6_foundMoves_foundMoves]
theorem Rb.lk {b : BX2} {r r' : BX6} (h : Rb r r') {t p : Int} (k : Lk b r t p) : Lk b r' t p := by
  obtain ⟨e1, e2, e3, e4⟩ := h.eqs
  unfold Lk at k ⊢
  rw [e2, e3, e4]; exact k
theorem BestOK_of {b : BX2} {c : Int} {r r' : BX6} {p : Int} (h : BestOK b c r p) (hb : S2 b) (hc5 : c ≤ 5) (e : ∀ i, 13824 * p ≤ i → i < 13824 * (p + 1) → pX6_best r' i = pX6_best r i) : BestOK b c r' p := by
  have ht := hb.tra
  have sb := sets_b hb
  intro u h' l u0 u1 hh l0 l1
  have hr : 13824 * p ≤ rix p u h' l ∧ rix p u h' l < 13824 * (p + 1) := by
    unfold rix
    rcases hh with x | x
    · omega
    · omega
  rw [e _ hr.1 hr.2]
  exact h u h' l u0 u1 hh l0 l1
theorem s_X6_plans_156 (n : Nat) (k88 : Int → Int → Int → BX6 → Option (Int × BX6)) (k96 : Int → Int → Int → Int → BX6 → Option (Int × BX6)) (k105 : Int → Int → Int → Int → Int → BX6 → Option (Int × BX6)) (k135 : Int → Int → Int → Int → Int → Int → BX6 → Option (Int × BX6)) {b : BX2} {r : BX6} (hb : S2 b) (R : Rl b (pX6_a r)) {c p u h l S : Int} (hc5 : c ≤ 5) (p0 : 0 ≤ p) (p1 : p < pX2_pitches b) (hu : 0 ≤ u ∧ u < zShl 1 (pX2_traders b)) (hh : hOK b u h) (l0 : 0 ≤ l) (l1 : l ≤ c) (hL : ∀ t, 0 ≤ t → t < pX2_traders b → Lk b r t p) (hrow : ∀ p', p < p' → p' ≤ pX2_pitches b → BestOK b c r p') :
    ∀ (fu x : Nat), (x : Int) ≤ pX2_traders b → 0 < fu → pX2_traders b - x < fu → g_X6_plans_156 n k88 k96 k105 k135 fu c S p u h l (zmx (cand b p u (barH b h) l) (opt b (p + 1) u 0 l) x) x r = k135 c S p u h (l + 1) (sX6_best r (updZ (pX6_best r) (rix p u h l) (opt b p u (barH b h) l))) := by
  have ht := hb.tra
  have hp := hb.pit
  have sb := sets_b hb
  intro fu
  induction fu with
  | zero => intro x _ h0; omega
  | succ fu ih =>
    intro x x1 _ hf
    rw [g_X6_plans_156.eq_2, qA_ok (by omega) (by omega) (by omega), R.tra]
    by_cases hc : pX2_traders b ≤ x
    · have hbd : 0 ≤ h ∧ h ≤ 8 := by
        rcases hh with y | y
        · omega
        · omega
      unfold g_X6_at
      rw [if_pos hc, oR_ok (by omega) (by omega), oB_some, qA_ok (by omega) (by omega) (by omega), oL_def, oR_ok (by omega) (by omega), opt_step hb p1, show (pX2_traders b).toNat = x by omega]
      rfl
    · unfold g_X6_plans_198
      have ih' := ih (x + 1) (by omega) (by omega) (by omega)
      have ez : zmx (cand b p u (barH b h) l) (opt b (p + 1) u 0 l) (x + 1) = max (zmx (cand b p u (barH b h) l) (opt b (p + 1) u 0 l) x) (cand b p u (barH b h) l x) := rfl
      rw [ez, show ((x + 1 : Nat) : Int) = (x : Int) + 1 by omega] at ih'
      rw [if_neg hc, s_X6_begun hb R hc5 (by omega) (by omega) p0 p1 (hL x (by omega) (by omega)) hu hh l0 l1 hrow, oB_some, oR_ok (by omega) (by omega)]
      by_cases hle : cand b p u (barH b h) l x ≤ zmx (cand b p u (barH b h) l) (opt b (p + 1) u 0 l) x
      · rw [if_pos hle]
        rw [Int.max_eq_left hle] at ih'
        exact ih'
      · rw [if_neg hle, oR_ok (by omega) (by omega)]
        rw [Int.max_eq_right (by omega)] at ih'
        exact ih'
