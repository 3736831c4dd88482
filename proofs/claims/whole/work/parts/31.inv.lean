/-! What holds between the class and the reference from call to call. -/
def NoCl (b : BX2) : Prop := ∀ p, 0 ≤ p → p + 1 < pX2_pitches b → pX2_rows b p = pX2_rows b (p + 1) → pX2_standing b p ≠ -1 → pX2_standing b (p + 1) ≠ -1 → pX2_standing b p ≠ pX2_standing b (p + 1) → ¬ mClash b (pX2_standing b p) (pX2_standing b (p + 1))
def V2 (b : BX2) : Prop := W2 b ∧ Sy b ∧ (∀ p, 0 ≤ p → p + 1 < pX2_pitches b → pX2_rows b p ≤ pX2_rows b (p + 1)) ∧ (∀ t, 0 ≤ t → t < pX2_traders b → pX2_starts b t ≠ -1 → mInRow b t (pX2_starts b t) ∧ mRent b t (pX2_starts b t) ≤ pX2_limits b t) ∧ pX2_coversBusy b ≤ pX2_covers b ∧ NoCl b
theorem V2.w {b : BX2} (h : V2 b) : W2 b := h.1
theorem V2.s {b : BX2} (h : V2 b) : S2 b := h.1.1
def MR (b : BX2) (a : Int → Int) : Prop := V2 b ∧ Rl b a
theorem Rl_congr {b : BX2} {a c : Int → Int} (hb : S2 b) (h : Rl b a) (e : ∀ i, 0 ≤ i → i < 180 → c i = a i) : Rl b c := by
  have hp := hb.pit
  have ht := hb.tra
  obtain ⟨h1, h2, h3, h4, h5, h6, h7⟩ := h
  refine ⟨?_, ?_, ?_, ?_, ?_, ?_, ?_⟩
  · rw [e _ (by omega) (by omega)]; exact h1
  · rw [e _ (by omega) (by omega)]; exact h2
  · rw [e _ (by omega) (by omega)]; exact h3
  · intro p p0 p1; rw [e _ (by omega) (by omega), e _ (by omega) (by omega), e _ (by omega) (by omega)]; exact h4 p p0 p1
  · intro p p0 p1; rw [e _ (by omega) (by omega), e _ (by omega) (by omega), e _ (by omega) (by omega), e _ (by omega) (by omega)]; exact h5 p p0 p1
  · intro p p0 p1; rw [e _ (by omega) (by omega)]; exact h6 p p0 p1
  · intro i j i0 i1 j0 j1; rw [e _ (by omega) (by omega)]; exact h7 i j i0 i1 j0 j1
theorem MR_congr {b : BX2} {a c : Int → Int} (h : MR b a) (e : ∀ i, 0 ≤ i → i < 180 → c i = a i) : MR b c := ⟨h.1, Rl_congr h.1.s h.2 e⟩
def hIx (x j : Int) : Int := if x - j < 0 then x - j + 6 else x - j
def HR (h : BX0) (kept : Int → Int) (many : Int) : Prop := S0 h ∧ many = pX0_count h ∧ ∀ j, 0 ≤ j → j < pX0_count h → MR (pX0_kept h (hIx (pX0_newest h) j).toNat) (fun k => kept (180 * (pX0_count h - 1 - j) + k))
theorem HR_keep {h : BX0} {r : BX6} {b : BX2} (H : HR h (pX6_kept r) (pX6_keptMany r)) (M : MR b (pX6_a r)) : HR (hRem h b) (pX6_kept (kKeep r)) (pX6_keptMany (kKeep r)) := by
  obtain ⟨⟨s1, s2, s3⟩, hc, hj⟩ := H
  have e1 : pX0_kept (hRem h b) = va_up (pX0_kept h) (hNext (pX0_newest h)).toNat b := rfl
  have e2 : pX0_newest (hRem h b) = hNext (pX0_newest h) := rfl
  have e3 : pX0_count (hRem h b) = if 6 ≤ pX0_count h then 6 else pX0_count h + 1 := rfl
  have f1 : pX6_kept (kKeep r) = kPut (kBase r) (pX6_a r) (kCnt r) := rfl
  have f2 : pX6_keptMany (kKeep r) = kCnt r + 1 := rfl
  have hn : 0 ≤ hNext (pX0_newest h) ∧ hNext (pX0_newest h) ≤ 5 := by unfold hNext; split <;> omega
  have hk : kCnt r + 1 = if 6 ≤ pX0_count h then 6 else pX0_count h + 1 := by
    unfold kCnt; rw [hc]
    by_cases h6 : pX0_count h = 6
    · rw [if_pos h6, if_pos (by omega)]; rfl
    · rw [if_neg h6, if_neg (by omega)]
  refine ⟨⟨?_, ?_, ?_⟩, ?_, ?_⟩
  · intro i; rw [e1]; unfold va_up; split
    · exact M.1.s
    · exact s1 i
  · rw [e2]; exact hn
  · rw [e3]; split <;> omega
  · rw [f2, e3, hk]
  · intro j j0 j1
    rw [e3, ← hk] at j1
    rw [e1, e2, e3, f1, ← hk]
    by_cases h0 : j = 0
    · subst h0
      have : hIx (hNext (pX0_newest h)) 0 = hNext (pX0_newest h) := by unfold hIx; split <;> omega
      rw [this]
      have e4 : va_up (pX0_kept h) (hNext (pX0_newest h)).toNat b (hNext (pX0_newest h)).toNat = b := by unfold va_up; rw [if_pos rfl]
      rw [e4]
      refine MR_congr M (fun i i0 i1 => ?_)
      show kPut (kBase r) (pX6_a r) (kCnt r) (180 * (kCnt r + 1 - 1 - 0) + i) = _
      unfold kPut
      rw [if_pos (by omega)]
      exact congrArg _ (by omega)
    · have hcr : kCnt r ≤ 5 ∧ kCnt r ≤ pX0_count h := by unfold kCnt; rw [hc]; split <;> omega
      have e5 : hIx (hNext (pX0_newest h)) j = hIx (pX0_newest h) (j - 1) := by
        unfold hIx hNext; split <;> split <;> (try split) <;> omega
      have e6 : va_up (pX0_kept h) (hNext (pX0_newest h)).toNat b (hIx (hNext (pX0_newest h)) j).toNat = pX0_kept h (hIx (pX0_newest h) (j - 1)).toNat := by
        unfold va_up
        rw [if_neg, e5]
        unfold hIx; split <;> omega
      rw [e6]
      refine MR_congr (hj (j - 1) (by omega) (by omega)) (fun i i0 i1 => ?_)
      show kPut (kBase r) (pX6_a r) (kCnt r) (180 * (kCnt r + 1 - 1 - j) + i) = pX6_kept r (180 * (pX0_count h - 1 - (j - 1)) + i)
      unfold kPut
      rw [if_neg (by omega)]
      unfold kBase
      by_cases h6 : pX6_keptMany r = 6
      · have : kCnt r = 5 := by unfold kCnt; rw [if_pos h6]
        rw [if_pos h6, if_pos (by omega)]; exact congrArg _ (by omega)
      · have : kCnt r = pX0_count h := by unfold kCnt; rw [if_neg h6, hc]
        rw [if_neg h6]; exact congrArg _ (by omega)
theorem HR_back {h : BX0} {kept : Int → Int} {many : Int} (H : HR h kept many) (hc : 0 < pX0_count h) : MR (pX0_kept h (pX0_newest h).toNat) (fun k => kept (180 * (pX0_count h - 1) + k)) ∧ HR (hBack h) kept (many - 1) := by
  obtain ⟨⟨s1, s2, s3⟩, hm, hj⟩ := H
  refine ⟨?_, ⟨s1, ?_, ?_⟩, ?_, ?_⟩
  · have h0 := hj 0 (by omega) hc
    have : hIx (pX0_newest h) 0 = pX0_newest h := by unfold hIx; split <;> omega
    rw [this] at h0
    exact MR_congr h0 (fun i _ _ => congrArg _ (by omega))
  · show 0 ≤ hPrev (pX0_newest h) ∧ hPrev (pX0_newest h) ≤ 5
    unfold hPrev; split <;> omega
  · show 0 ≤ pX0_count h - 1 ∧ pX0_count h - 1 ≤ 6; omega
  · show many - 1 = pX0_count h - 1; omega
  · intro j j0 j1
    have j1 : j < pX0_count h - 1 := j1
    show MR (pX0_kept h (hIx (hPrev (pX0_newest h)) j).toNat) (fun k => kept (180 * (pX0_count h - 1 - 1 - j) + k))
    have h0 := hj (j + 1) (by omega) (by omega)
    have : hIx (hPrev (pX0_newest h)) j = hIx (pX0_newest h) (j + 1) := by
      unfold hIx hPrev; split <;> split <;> (try split) <;> omega
    rw [this]
    exact MR_congr h0 (fun i _ _ => congrArg _ (by omega))
def TX (x : BX5) (m : BX6) : Prop := pX5_textLength x = pX6_buffered m ∧ 0 ≤ pX5_textLength x ∧ pX5_textLength x ≤ 600 ∧ ∀ i, 0 ≤ i → i < pX5_textLength x → pX5_text x i = pX6_buffer m i ∧ 0 ≤ pX5_text x i ∧ pX5_text x i ≤ 255
def PX (x : BX5) : Prop := P3 (pX5_planner x) ∧ P3 (pX5_trialPlanner x) ∧ (pX5_planned x = 0 ∨ (pX5_planned x = 1 ∧ Pq (pX5_planner x) ∧ Same (pX3_street (pX5_planner x)) (pX5_market x)))
def IX (x : BX5) : Prop := W2 (pX1_street (pX5_insertion x)) ∧ W2 (pX1_found (pX5_insertion x))
def Inv (x : BX5) (m : BX6) : Prop := MR (pX5_market x) (pX6_a m) ∧ HR (pX5_history x) (pX6_kept m) (pX6_keptMany m) ∧ W2 (pX5_draft x) ∧ TX x m ∧ pX5_errorAt x = pX6_errorAt m ∧ PX x ∧ IX x
theorem Inv.mr {x : BX5} {m : BX6} (h : Inv x m) : MR (pX5_market x) (pX6_a m) := h.1
theorem Inv.v {x : BX5} {m : BX6} (h : Inv x m) : V2 (pX5_market x) := h.1.1
theorem Inv.w {x : BX5} {m : BX6} (h : Inv x m) : W2 (pX5_market x) := h.1.1.1
theorem Inv.s {x : BX5} {m : BX6} (h : Inv x m) : S2 (pX5_market x) := h.1.1.1.1
theorem Inv.r {x : BX5} {m : BX6} (h : Inv x m) : Rl (pX5_market x) (pX6_a m) := h.1.2
theorem Inv.h {x : BX5} {m : BX6} (h : Inv x m) : HR (pX5_history x) (pX6_kept m) (pX6_keptMany m) := h.2.1
theorem Inv.many {x : BX5} {m : BX6} (h : Inv x m) : 0 ≤ pX6_keptMany m ∧ pX6_keptMany m ≤ 6 := by
  have h1 := h.h.2.1
  have h2 := h.h.1.2.2
  omega
/-! only thrown (or other scratch) differs -/
theorem Inv_m {x : BX5} {m m' : BX6} (I : Inv x m) (f1 : pX6_a m' = pX6_a m) (f2 : pX6_kept m' = pX6_kept m) (f3 : pX6_keptMany m' = pX6_keptMany m) (f4 : pX6_buffer m' = pX6_buffer m) (f5 : pX6_buffered m' = pX6_buffered m) (f6 : pX6_errorAt m' = pX6_errorAt m) : Inv x m' := by
  obtain ⟨h1, h2, h3, h4, h5, h6⟩ := I
  refine ⟨?_, ?_, h3, ?_, ?_, h6⟩
  · rw [f1]; exact h1
  · rw [f2, f3]; exact h2
  · unfold TX; rw [f4, f5]; exact h4
  · rw [f6]; exact h5
theorem Inv_t {x : BX5} {m : BX6} (I : Inv x m) (t : Int) : Inv x (sX6_thrown m t) :=
  Inv_m I (eX6_a_thrown _ _) (eX6_kept_thrown _ _) (eX6_keptMany_thrown _ _) (eX6_buffer_thrown _ _) (eX6_buffered_thrown _ _) (eX6_errorAt_thrown _ _)
/-! a change -/
theorem Inv_ch {x x' : BX5} {m m' : BX6} (I : Inv x m) (M : MR (pX5_market x') (pX6_a m')) (e2 : pX5_history x' = hRem (pX5_history x) (pX5_market x)) (e3 : pX5_text x' = pX5_text x) (e4 : pX5_textLength x' = pX5_textLength x) (e5 : pX5_errorAt x' = pX5_errorAt x) (e6 : W2 (pX5_draft x')) (e7 : PX x') (e8 : IX x')
    (f2 : pX6_kept m' = pX6_kept (kKeep m)) (f3 : pX6_keptMany m' = pX6_keptMany (kKeep m)) (f4 : pX6_buffer m' = pX6_buffer m) (f5 : pX6_buffered m' = pX6_buffered m) (f6 : pX6_errorAt m' = pX6_errorAt m) : Inv x' m' := by
  refine ⟨M, ?_, e6, ?_, ?_, e7, e8⟩
  · rw [e2, f2, f3]; exact HR_keep I.h I.mr
  · unfold TX; rw [e3, e4, f4, f5]; exact I.2.2.2.1
  · rw [e5, f6]; exact I.2.2.2.2.1
/-! what the law compares -/
def ok1 (e1 cd : Nat) (v w th : Int) : Prop := (cd = 0 ∧ th = 0 ∧ v = w) ∨ (cd = e1 ∧ th = 1)
def ok2 (e1 e2 cd : Nat) (v w th : Int) : Prop := (cd = 0 ∧ th = 0 ∧ v = w) ∨ (cd = e1 ∧ th = 1) ∨ (cd = e2 ∧ th = 2)
def ok3 (e1 e2 e3 cd : Nat) (v w th : Int) : Prop := (cd = 0 ∧ th = 0 ∧ v = w) ∨ (cd = e1 ∧ th = 1) ∨ (cd = e2 ∧ th = 2) ∨ (cd = e3 ∧ th = 3)
theorem kKeep_t (m : BX6) (t : Int) : pX6_kept (kKeep (sX6_thrown m t)) = pX6_kept (kKeep m) ∧ pX6_keptMany (kKeep (sX6_thrown m t)) = pX6_keptMany (kKeep m) ∧ pX6_a (kKeep (sX6_thrown m t)) = pX6_a m ∧ pX6_buffer (kKeep (sX6_thrown m t)) = pX6_buffer m ∧ pX6_buffered (kKeep (sX6_thrown m t)) = pX6_buffered m ∧ pX6_errorAt (kKeep (sX6_thrown m t)) = pX6_errorAt m ∧ pX6_thrown (kKeep (sX6_thrown m t)) = t := by
  unfold kKeep kBase kCnt
  refine ⟨?_, ?_, ?_, ?_, ?_, ?_, ?_⟩ <;> simp only [eX6_a_a, eX6_a_fresh, eX6_a_kept, eX6_a_keptMany, eX6_a_thrown, eX6_a_buffer, eX6_a_buffered, eX6_a_size, eX6_a_at, eX6_a_behind, eX6_a_kind, eX6_a_wrong, eX6_a_wrongAt, eX6_a_errorAt, eX6_a_number, eX6_a_best, eX6_a_rentBy, eX6_a_bareBy, eX6_a_aheadBy, eX6_a_isEdge, eX6_a_tried, eX6_a_stands, eX6_a_found, eX6_a_foundOn, eX6_a_moving, eX6_a_movingMany, eX6_a_foundIncome, eX6_a_foundMoves, eX6_fresh_a, eX6_fresh_fresh, eX6_fresh_kept, eX6_fresh_keptMany, eX6_fresh_thrown, eX6_fresh_buffer, eX6_fresh_buffered, eX6_fresh_size, eX6_fresh_at, eX6_fresh_behind, eX6_fresh_kind, eX6_fresh_wrong, eX6_fresh_wrongAt, eX6_fresh_errorAt, eX6_fresh_number, eX6_fresh_best, eX6_fresh_rentBy, eX6_fresh_bareBy, eX6_fresh_aheadBy, eX6_fresh_isEdge, eX6_fresh_tried, eX6_fresh_stands, eX6_fresh_found, eX6_fresh_foundOn, eX6_fresh_moving, eX6_fresh_movingMany, eX6_fresh_foundIncome, eX6_fresh_foundMoves, eX6_kept_a, eX6_kept_fresh, eX6_kept_kept, eX6_kept_keptMany, eX6_kept_thrown, eX6_kept_buffer, eX6_kept_buffered, eX6_kept_size, eX6_kept_at, eX6_kept_behind, eX6_kept_kind, eX6_kept_wrong, eX6_kept_wrongAt, eX6_kept_errorAt, eX6_kept_number, eX6_kept_best, eX6_kept_rentBy, eX6_kept_bareBy, eX6_kept_aheadBy, eX6_kept_isEdge, eX6_kept_tried, eX6_kept_stands, eX6_kept_found, eX6_kept_foundOn, eX6_kept_moving, eX6_kept_movingMany, eX6_kept_foundIncome, eX6_kept_foundMoves, eX6_keptMany_a, eX6_keptMany_fresh, eX6_keptMany_kept, eX6_keptMany_keptMany, eX6_keptMany_thrown, eX6_keptMany_buffer, eX6_keptMany_buffered, eX6_keptMany_size, eX6_keptMany_at, eX6_keptMany_behind, eX6_keptMany_kind, eX6_keptMany_wrong, eX6_keptMany_wrongAt, eX6_keptMany_errorAt, eX6_keptMany_number, eX6_keptMany_best, eX6_keptMany_rentBy, eX6_keptMany_bareBy, eX6_keptMany_aheadBy, eX6_keptMany_isEdge, eX6_keptMany_tried, eX6_keptMany_stands, eX6_keptMany_found, eX6_keptMany_foundOn, eX6_keptMany_moving, eX6_keptMany_movingMany, eX6_keptMany_foundIncome, eX6_keptMany_foundMoves, eX6_thrown_a, eX6_thrown_fresh, eX6_thrown_kept, eX6_thrown_keptMany, eX6_thrown_thrown, eX6_thrown_buffer, eX6_thrown_buffered, eX6_thrown_size, eX6_thrown_at, eX6_thrown_behind, eX6_thrown_kind, eX6_thrown_wrong, eX6_thrown_wrongAt, eX6_thrown_errorAt, eX6_thrown_number, eX6_thrown_best, eX6_thrown_rentBy, eX6_thrown_bareBy, eX6_thrown_aheadBy, eX6_thrown_isEdge, eX6_thrown_tried, eX6_thrown_stands, eX6_thrown_found, eX6_thrown_foundOn, eX6_thrown_moving, eX6_thrown_movingMany, eX6_thrown_foundIncome, eX6_thrown_foundMoves, eX6_buffer_a, eX6_buffer_fresh, eX6_buffer_kept, eX6_buffer_keptMany, eX6_buffer_thrown, eX6_buffer_buffer, eX6_buffer_buffered, eX6_buffer_size, eX6_buffer_at, eX6_buffer_behind, eX6_buffer_kind, eX6_buffer_wrong, eX6_buffer_wrongAt, eX6_buffer_errorAt, eX6_buffer_number, eX6_buffer_best, eX6_buffer_rentBy, eX6_buffer_bareBy, eX6_buffer_aheadBy, eX6_buffer_isEdge, eX6_buffer_tried, eX6_buffer_stands, eX6_buffer_found, eX6_buffer_foundOn, eX6_buffer_moving, eX6_buffer_movingMany, eX6_buffer_foundIncome, eX6_buffer_foundMoves, eX6_buffered_a, eX6_buffered_fresh, eX6_buffered_kept, eX6_buffered_keptMany, eX6_buffered_thrown, eX6_buffered_buffer, eX6_buffered_buffered, eX6_buffered_size, eX6_buffered_at, eX6_buffered_behind, eX6_buffered_kind, eX6_buffered_wrong, eX6_buffered_wrongAt, eX6_buffered_errorAt, eX6_buffered_number, eX6_buffered_best, eX6_buffered_rentBy, eX6_buffered_bareBy, eX6_buffered_aheadBy, eX6_buffered_isEdge, eX6_buffered_tried, eX6_buffered_stands, eX6_buffered_found, eX6_buffered_foundOn, eX6_buffered_moving, eX6_buffered_movingMany, eX6_buffered_foundIncome, eX6_buffered_foundMoves, eX6_size_a, eX6_size_fresh, eX6_size_kept, eX6_size_keptMany, eX6_size_thrown, eX6_size_buffer, eX6_size_buffered, eX6_size_size, eX6_size_at, eX6_size_behind, eX6_size_kind, eX6_size_wrong, eX6_size_wrongAt, eX6_size_errorAt, eX6_size_number, eX6_size_best, eX6_size_rentBy, eX6_size_bareBy, eX6_size_aheadBy, eX6_size_isEdge, eX6_size_tried, eX6_size_stands, eX6_size_found, eX6_size_foundOn, eX6_size_moving, eX6_size_movingMany, eX6_size_foundIncome, eX6_size_foundMoves, eX6_at_a, eX6_at_fresh, eX6_at_kept, eX6_at_keptMany, eX6_at_thrown, eX6_at_buffer, eX6_at_buffered, eX6_at_size, eX6_at_at, eX6_at_behind, eX6_at_kind, eX6_at_wrong, eX6_at_wrongAt, eX6_at_errorAt, eX6_at_number, eX6_at_best, eX6_at_rentBy, eX6_at_bareBy, eX6_at_aheadBy, eX6_at_isEdge, eX6_at_tried, eX6_at_stands, eX6_at_found, eX6_at_foundOn, eX6_at_moving, eX6_at_movingMany, eX6_at_foundIncome, eX6_at_foundMoves, eX6_behind_a, eX6_behind_fresh, eX6_behind_kept, eX6_behind_keptMany, eX6_behind_thrown, eX6_behind_buffer, eX6_behind_buffered, eX6_behind_size, eX6_behind_at, eX6_behind_behind, eX6_behind_kind, eX6_behind_wrong, eX6_behind_wrongAt, eX6_behind_errorAt, eX6_behind_number, eX6_behind_best, eX6_behind_rentBy, eX6_behind_bareBy, eX6_behind_aheadBy, eX6_behind_isEdge, eX6_behind_tried, eX6_behind_stands, eX6_behind_found, eX6_behind_foundOn, eX6_behind_moving, eX6_behind_movingMany, eX6_behind_foundIncome, eX6_behind_foundMoves, eX6_kind_a, eX6_kind_fresh, eX6_kind_kept, eX6_kind_keptMany, eX6_kind_thrown, eX6_kind_buffer, eX6_kind_buffered, eX6_kind_size, eX6_kind_at, eX6_kind_behind, eX6_kind_kind, eX6_kind_wrong, eX6_kind_wrongAt, eX6_kind_errorAt, eX6_kind_number, eX6_kind_best, eX6_kind_rentBy, eX6_kind_bareBy, eX6_kind_aheadBy, eX6_kind_isEdge, eX6_kind_tried, eX6_kind_stands, eX6_kind_found, eX6_kind_foundOn, eX6_kind_moving, eX6_kind_movingMany, eX6_kind_foundIncome, eX6_kind_foundMoves, eX6_wrong_a, eX6_wrong_fresh, eX6_wrong_kept, eX6_wrong_keptMany, eX6_wrong_thrown, eX6_wrong_buffer, eX6_wrong_buffered, eX6_wrong_size, eX6_wrong_at, eX6_wrong_behind, eX6_wrong_kind, eX6_wrong_wrong, eX6_wrong_wrongAt, eX6_wrong_errorAt, eX6_wrong_number, eX6_wrong_best, eX6_wrong_rentBy, eX6_wrong_bareBy, eX6_wrong_aheadBy, eX6_wrong_isEdge, eX6_wrong_tried, eX6_wrong_stands, eX6_wrong_found, eX6_wrong_foundOn, eX6_wrong_moving, eX6_wrong_movingMany, eX6_wrong_foundIncome, eX6_wrong_foundMoves, eX6_wrongAt_a, eX6_wrongAt_fresh, eX6_wrongAt_kept, eX6_wrongAt_keptMany, eX6_wrongAt_thrown, eX6_wrongAt_buffer, eX6_wrongAt_buffered, eX6_wrongAt_size, eX6_wrongAt_at, eX6_wrongAt_behind, eX6_wrongAt_kind, eX6_wrongAt_wrong, eX6_wrongAt_wrongAt, eX6_wrongAt_errorAt, eX6_wrongAt_number, eX6_wrongAt_best, eX6_wrongAt_rentBy, eX6_wrongAt_bareBy, eX6_wrongAt_aheadBy, eX6_wrongAt_isEdge, eX6_wrongAt_tried, eX6_wrongAt_stands, eX6_wrongAt_found, eX6_wrongAt_foundOn, eX6_wrongAt_moving, eX6_wrongAt_movingMany, eX6_wrongAt_foundIncome, eX6_wrongAt_foundMoves, eX6_errorAt_a, eX6_errorAt_fresh, eX6_errorAt_kept, eX6_errorAt_keptMany, eX6_errorAt_thrown, eX6_errorAt_buffer, eX6_errorAt_buffered, eX6_errorAt_size, eX6_errorAt_at, eX6_errorAt_behind, eX6_errorAt_kind, eX6_errorAt_wrong, eX6_errorAt_wrongAt, eX6_errorAt_errorAt, eX6_errorAt_number, eX6_errorAt_best, eX6_errorAt_rentBy, eX6_errorAt_bareBy, eX6_errorAt_aheadBy, eX6_errorAt_isEdge, eX6_errorAt_tried, eX6_errorAt_stands, eX6_errorAt_found, eX6_errorAt_foundOn, eX6_errorAt_moving, eX6_errorAt_movingMany, eX6_errorAt_foundIncome, eX6_errorAt_foundMoves, eX6_number_a, eX6_number_fresh, eX6_number_kept, eX6_number_keptMany, eX6_number_thrown, eX6_number_buffer, eX6_number_buffered, eX6_number_size, eX6_number_at, eX6_number_behind, eX6_number_kind, eX6_number_wrong, eX6_number_wrongAt, eX6_number_errorAt, eX6_number_number, eX6_number_best, eX6_number_rentBy, eX6_number_bareBy, eX6_number_aheadBy, eX6_number_isEdge, eX6_number_tried, eX6_number_stands, eX6_number_found, eX6_number_foundOn, eX6_number_moving, eX6_number_movingMany, eX6_number_foundIncome, eX6_number_foundMoves, eX6_best_a, eX6_best_fresh, eX6_best_kept, eX6_best_keptMany, eX6_best_thrown, eX6_best_buffer, eX6_best_buffered, eX6_best_size, eX6_best_at, eX6_best_behind, eX6_best_kind, eX6_best_wrong, eX6_best_wrongAt, eX6_best_errorAt, eX6_best_number, eX6_best_best, eX6_best_rentBy, eX6_best_bareBy, eX6_best_aheadBy, eX6_best_isEdge, eX6_best_tried, eX6_best_stands, eX6_best_found, eX6_best_foundOn, eX6_best_moving, eX6_best_movingMany, eX6_best_foundIncome, eX6_best_foundMoves, eX6_rentBy_a, eX6_rentBy_fresh, eX6_rentBy_kept, eX6_rentBy_keptMany, eX6_rentBy_thrown, eX6_rentBy_buffer, eX6_rentBy_buffered, eX6_rentBy_size, eX6_rentBy_at, eX6_rentBy_behind, eX6_rentBy_kind, eX6_rentBy_wrong, eX6_rentBy_wrongAt, eX6_rentBy_errorAt, eX6_rentBy_number, eX6_rentBy_best, eX6_rentBy_rentBy, eX6_rentBy_bareBy, eX6_rentBy_aheadBy, eX6_rentBy_isEdge, eX6_rentBy_tried, eX6_rentBy_stands, eX6_rentBy_found, eX6_rentBy_foundOn, eX6_rentBy_moving, eX6_rentBy_movingMany, eX6_rentBy_foundIncome, eX6_rentBy_foundMoves, eX6_bareBy_a, eX6_bareBy_fresh, eX6_bareBy_kept, eX6_bareBy_keptMany, eX6_bareBy_thrown, eX6_bareBy_buffer, eX6_bareBy_buffered, eX6_bareBy_size, eX6_bareBy_at, eX6_bareBy_behind, eX6_bareBy_kind, eX6_bareBy_wrong, eX6_bareBy_wrongAt, eX6_bareBy_errorAt, eX6_bareBy_number, eX6_bareBy_best, eX6_bareBy_rentBy, eX6_bareBy_bareBy, eX6_bareBy_aheadBy, eX6_bareBy_isEdge, eX6_bareBy_tried, eX6_bareBy_stands, eX6_bareBy_found, eX6_bareBy_foundOn, eX6_bareBy_moving, eX6_bareBy_movingMany, eX6_bareBy_foundIncome, eX6_bareBy_foundMoves, eX6_aheadBy_a, eX6_aheadBy_fresh, eX6_aheadBy_kept, eX6_aheadBy_keptMany, eX6_aheadBy_thrown, eX6_aheadBy_buffer, eX6_aheadBy_buffered, eX6_aheadBy_size, eX6_aheadBy_at, eX6_aheadBy_behind, eX6_aheadBy_kind, eX6_aheadBy_wrong, eX6_aheadBy_wrongAt, eX6_aheadBy_errorAt, eX6_aheadBy_number, eX6_aheadBy_best, eX6_aheadBy_rentBy, eX6_aheadBy_bareBy, eX6_aheadBy_aheadBy, eX6_aheadBy_isEdge, eX6_aheadBy_tried, eX6_aheadBy_stands, eX6_aheadBy_found, eX6_aheadBy_foundOn, eX6_aheadBy_moving, eX6_aheadBy_movingMany, eX6_aheadBy_foundIncome, eX6_aheadBy_foundMoves, eX6_isEdge_a, eX6_isEdge_fresh, eX6_isEdge_kept, eX6_isEdge_keptMany, eX6_isEdge_thrown, eX6_isEdge_buffer, eX6_isEdge_buffered, eX6_isEdge_size, eX6_isEdge_at, eX6_isEdge_behind, eX6_isEdge_kind, eX6_isEdge_wrong, eX6_isEdge_wrongAt, eX6_isEdge_errorAt, eX6_isEdge_number, eX6_isEdge_best, eX6_isEdge_rentBy, eX6_isEdge_bareBy, eX6_isEdge_aheadBy, eX6_isEdge_isEdge, eX6_isEdge_tried, eX6_isEdge_stands, eX6_isEdge_found, eX6_isEdge_foundOn, eX6_isEdge_moving, eX6_isEdge_movingMany, eX6_isEdge_foundIncome, eX6_isEdge_foundMoves, eX6_tried_a, eX6_tried_fresh, eX6_tried_kept, eX6_tried_keptMany, eX6_tried_thrown, eX6_tried_buffer, eX6_tried_buffered, eX6_tried_size, eX6_tried_at, eX6_tried_behind, eX6_tried_kind, eX6_tried_wrong, eX6_tried_wrongAt, eX6_tried_errorAt, eX6_tried_number, eX6_tried_best, eX6_tried_rentBy, eX6_tried_bareBy, eX6_tried_aheadBy, eX6_tried_isEdge, eX6_tried_tried, eX6_tried_stands, eX6_tried_found, eX6_tried_foundOn, eX6_tried_moving, eX6_tried_movingMany, eX6_tried_foundIncome, eX6_tried_foundMoves, eX6_stands_a, eX6_stands_fresh, eX6_stands_kept, eX6_stands_keptMany, eX6_stands_thrown, eX6_stands_buffer, eX6_stands_buffered, eX6_stands_size, eX6_stands_at, eX6_stands_behind, eX6_stands_kind, eX6_stands_wrong, eX6_stands_wrongAt, eX6_stands_errorAt, eX6_stands_number, eX6_stands_best, eX6_stands_rentBy, eX6_stands_bareBy, eX6_stands_aheadBy, eX6_stands_isEdge, eX6_stands_tried, eX6_stands_stands, eX6_stands_found, eX6_stands_foundOn, eX6_stands_moving, eX6_stands_movingMany, eX6_stands_foundIncome, eX6_stands_foundMoves, eX6_found_a, eX6_found_fresh, eX6_found_kept, eX6_found_keptMany, eX6_found_thrown, eX6_found_buffer, eX6_found_buffered, eX6_found_size, eX6_found_at, eX6_found_behind, eX6_found_kind, eX6_found_wrong, eX6_found_wrongAt, eX6_found_errorAt, eX6_found_number, eX6_found_best, eX6_found_rentBy, eX6_found_bareBy, eX6_found_aheadBy, eX6_found_isEdge, eX6_found_tried, eX6_found_stands, eX6_found_found, eX6_found_foundOn, eX6_found_moving, eX6_found_movingMany, eX6_found_foundIncome, eX6_found_foundMoves, eX6_foundOn_a, eX6_foundOn_fresh, eX6_foundOn_kept, eX6_foundOn_keptMany, eX6_foundOn_thrown, eX6_foundOn_buffer, eX6_foundOn_buffered, eX6_foundOn_size, eX6_foundOn_at, eX6_foundOn_behind, eX6_foundOn_kind, eX6_foundOn_wrong, eX6_foundOn_wrongAt, eX6_foundOn_errorAt, eX6_foundOn_number, eX6_foundOn_best, eX6_foundOn_rentBy, eX6_foundOn_bareBy, eX6_foundOn_aheadBy, eX6_foundOn_isEdge, eX6_foundOn_tried, eX6_foundOn_stands, eX6_foundOn_found, eX6_foundOn_foundOn, eX6_foundOn_moving, eX6_foundOn_movingMany, eX6_foundOn_foundIncome, eX6_foundOn_foundMoves, eX6_moving_a, eX6_moving_fresh, eX6_moving_kept, eX6_moving_keptMany, eX6_moving_thrown, eX6_moving_buffer, eX6_moving_buffered, eX6_moving_size, eX6_moving_at, eX6_moving_behind, eX6_moving_kind, eX6_moving_wrong, eX6_moving_wrongAt, eX6_moving_errorAt, eX6_moving_number, eX6_moving_best, eX6_moving_rentBy, eX6_moving_bareBy, eX6_moving_aheadBy, eX6_moving_isEdge, eX6_moving_tried, eX6_moving_stands, eX6_moving_found, eX6_moving_foundOn, eX6_moving_moving, eX6_moving_movingMany, eX6_moving_foundIncome, eX6_moving_foundMoves, eX6_movingMany_a, eX6_movingMany_fresh, eX6_movingMany_kept, eX6_movingMany_keptMany, eX6_movingMany_thrown, eX6_movingMany_buffer, eX6_movingMany_buffered, eX6_movingMany_size, eX6_movingMany_at, eX6_movingMany_behind, eX6_movingMany_kind, eX6_movingMany_wrong, eX6_movingMany_wrongAt, eX6_movingMany_errorAt, eX6_movingMany_number, eX6_movingMany_best, eX6_movingMany_rentBy, eX6_movingMany_bareBy, eX6_movingMany_aheadBy, eX6_movingMany_isEdge, eX6_movingMany_tried, eX6_movingMany_stands, eX6_movingMany_found, eX6_movingMany_foundOn, eX6_movingMany_moving, eX6_movingMany_movingMany, eX6_movingMany_foundIncome, eX6_movingMany_foundMoves, eX6_foundIncome_a, eX6_foundIncome_fresh, eX6_foundIncome_kept, eX6_foundIncome_keptMany, eX6_foundIncome_thrown, eX6_foundIncome_buffer, eX6_foundIncome_buffered, eX6_foundIncome_size, eX6_foundIncome_at, eX6_foundIncome_behind, eX6_foundIncome_kind, eX6_foundIncome_wrong, eX6_foundIncome_wrongAt, eX6_foundIncome_errorAt, eX6_foundIncome_number, eX6_foundIncome_best, eX6_foundIncome_rentBy, eX6_foundIncome_bareBy, eX6_foundIncome_aheadBy, eX6_foundIncome_isEdge, eX6_foundIncome_tried, eX6_foundIncome_stands, eX6_foundIncome_found, eX6_foundIncome_foundOn, eX6_foundIncome_moving, eX6_foundIncome_movingMany, eX6_foundIncome_foundIncome, eX6_foundIncome_foundMoves, eX6_foundMoves_a, eX6_foundMoves_fresh, eX6_foundMoves_kept, eX6_foundMoves_keptMany, eX6_foundMoves_thrown, eX6_foundMoves_buffer, eX6_foundMoves_buffered, eX6_foundMoves_size, eX6_foundMoves_at, eX6_foundMoves_behind, eX6_foundMoves_kind, eX6_foundMoves_wrong, eX6_foundMoves_wrongAt, eX6_foundMoves_errorAt, eX6_foundMoves_number, eX6_foundMoves_best, eX6_foundMoves_rentBy, eX6_foundMoves_bareBy, eX6_foundMoves_aheadBy, eX6_foundMoves_isEdge, eX6_foundMoves_tried, eX6_foundMoves_stands, eX6_foundMoves_found, eX6_foundMoves_foundOn, eX6_foundMoves_moving, eX6_foundMoves_movingMany, eX6_foundMoves_foundIncome, eX6_foundMoves_foundMoves] <;> rfl
theorem g_out (x l u : Int) : g_X5_isOutside x l u = some (zB (¬ (l ≤ x ∧ x ≤ u))) := by
  unfold g_X5_isOutside g_X5_isOutside_10
  by_cases h1 : x < l
  · rw [if_pos h1, zB_pos (by omega)]
  · rw [if_neg h1]
    by_cases h2 : x ≤ u
    · rw [if_pos h2, zB_neg (by omega)]
    · rw [if_neg h2, zB_pos (by omega)]
theorem g_noTrade (x : Int) : g_X5_isNoTrade x = some (zB (¬ (0 ≤ x ∧ x < 8))) := by
  unfold g_X5_isNoTrade
  rw [g_out, oB_some, oG_ok (zB_nb _)]
  exact congrArg some (zB_congr (by omega))
theorem g_reqP (x : BX5) (p : Int) : g_X5_requirePitch x p = some (if 0 ≤ p ∧ p < pX2_pitches (pX5_market x) then 0 else 1) := by
  unfold g_X5_requirePitch
  rw [s_X2_hasPitch, oB_some]
  by_cases h : 0 ≤ p ∧ p < pX2_pitches (pX5_market x)
  · rw [zB_pos h, if_neg (by omega), if_pos h]
  · rw [zB_neg h, if_pos rfl, if_neg h]
theorem g_reqT (x : BX5) (p : Int) : g_X5_requireTrader x p = some (if 0 ≤ p ∧ p < pX2_traders (pX5_market x) then 0 else 1) := by
  unfold g_X5_requireTrader
  rw [s_X2_hasTrader, oB_some]
  by_cases h : 0 ≤ p ∧ p < pX2_traders (pX5_market x)
  · rw [zB_pos h, if_neg (by omega), if_pos h]
  · rw [zB_neg h, if_pos rfl, if_neg h]
theorem g_reqTT (i j : Int) : g_X5_requireTrades i j = some (if (0 ≤ i ∧ i < 8) ∧ (0 ≤ j ∧ j < 8) then 0 else 2) := by
  unfold g_X5_requireTrades g_X5_requireTrades_14
  rw [g_noTrade, oB_some, g_noTrade, oB_some]
  by_cases h1 : 0 ≤ i ∧ i < 8
  · rw [zB_neg (fun h => h h1), if_pos rfl]
    by_cases h2 : 0 ≤ j ∧ j < 8
    · rw [zB_neg (fun h => h h2), if_pos rfl, if_pos ⟨h1, h2⟩]
    · rw [zB_pos h2, if_neg (by omega), if_neg (fun h => h2 h.2)]
  · rw [zB_pos h1, if_neg (by omega), if_neg (fun h => h1 h.1)]
