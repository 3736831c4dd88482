/-! The market that is being read, on both sides. -/
def MF (b : BX2) (f : Int → Int) (rows : Int) : Prop := V2 b ∧ Rl b f ∧ (∀ t, 0 ≤ t → t < 8 → pX2_starts b t = -1) ∧ f 0 = rows ∧ (0 ≤ rows ∧ rows ≤ 4) ∧ (∀ p, 0 ≤ p → p < pX2_pitches b → pX2_rows b p ≤ rows)
theorem MF.on {b : BX2} {f : Int → Int} {rows : Int} (h : MF b f rows) : ∀ p, 0 ≤ p → p < 24 → pX2_standing b p = -1 := by
  intro p p0 p1
  have hT := h.1.s.tra
  rcases h.1.w.on p p0 p1 with k | ⟨k1, k2, k3, _⟩
  · exact k
  · exact absurd (h.2.2.1 _ k1 (by omega)) k3
theorem MF.busy {b : BX2} {f : Int → Int} {rows : Int} (h : MF b f rows) : pX2_coversBusy b = 0 := by
  have hT := h.1.s.tra
  rw [h.1.w.busy]
  exact zr_0 (fun t t0 t1 => by show (if pX2_starts b t = -1 then 0 else _) = _; rw [if_pos (h.2.2.1 t t0 (by omega))])
theorem MF_put {b : BX2} {f : Int → Int} {rows : Int} (h : MF b f rows) {i j : Int} (i0 : 0 ≤ i) (i1 : i ≤ 7) (j0 : 0 ≤ j) (j1 : j ≤ 7) : MF (mPut b i j 1) (aPut f i j 1) rows := by
  have hP := h.1.s.pit
  obtain ⟨q1, q2, q3, q4, q5, q6, q7, q8, q9, q10, q11, q12, q13⟩ := mPut_eqs b i j 1
  have hR := Rl_put h.2.1 h.1.s 1 i0 (by omega) j0 (by omega)
  rw [if_neg (by omega)] at hR
  refine ⟨V2_put h.1 1 i0 (by omega) j0 (by omega) (.inr ?_), hR, by rw [q11]; exact h.2.2.1, ?_, h.2.2.2.2.1, by rw [q1, q2]; exact h.2.2.2.2.2⟩
  · rintro ⟨p, p0, p1, _, p3, _⟩
    exact p3 (h.on p p0 (by omega))
  · unfold aPut
    rw [updZ_ne (by omega), updZ_ne (by omega)]; exact h.2.2.2.1
theorem MF_cov {b : BX2} {f : Int → Int} {rows : Int} (h : MF b f rows) {c : Int} (c0 : 0 ≤ c) (c1 : c ≤ 4) : MF (sX2_covers b c) (updZ f 179 c) rows := by
  have hm := MR_cov ⟨h.1, h.2.1⟩ c0 c1 (by rw [h.busy]; exact c0)
  exact ⟨hm.1, hm.2, h.2.2.1, by rw [updZ_ne (by omega)]; exact h.2.2.2.1, h.2.2.2.2.1, h.2.2.2.2.2⟩
def fEnr (f : Int → Int) (t tr fr li ne : Int) : Int → Int := updZ (updZ (updZ (updZ (updZ f (75 + t) tr) (83 + t) fr) (91 + t) li) (99 + t) ne) 74 (t + 1)
theorem MF_enr {b : BX2} {f : Int → Int} {rows : Int} (h : MF b f rows) {tr fr li ne : Int} (ht : pX2_traders b < 8) (h1 : 0 ≤ tr ∧ tr ≤ 7) (h2 : 1 ≤ fr ∧ fr ≤ 3) (h3 : 1 ≤ li ∧ li ≤ 9999) (h4 : ne = 0 ∨ ne = 1) : MF (mEnrol b tr fr li ne) (fEnr f (pX2_traders b) tr fr li ne) rows := by
  have ht0 := h.1.s.tra
  have hp := h.1.s.pit
  refine ⟨V2_enrol h.1 ht h1 h2 h3 h4, ?_, h.2.2.1, ?_, h.2.2.2.2.1, h.2.2.2.2.2⟩
  · obtain ⟨r1, r2, r3, r4, r5, r6, r7⟩ := h.2.1
    have hz : ∀ k, k ≠ 74 → k ≠ 75 + pX2_traders b → k ≠ 83 + pX2_traders b → k ≠ 91 + pX2_traders b → k ≠ 99 + pX2_traders b → fEnr f (pX2_traders b) tr fr li ne k = f k := fun k h1 h2 h3 h4 h5 => by
      unfold fEnr
      rw [updZ_ne h1, updZ_ne h5, updZ_ne h4, updZ_ne h3, updZ_ne h2]
    refine ⟨?_, ?_, ?_, ?_, ?_, ?_, ?_⟩
    · rw [hz _ (by omega) (by omega) (by omega) (by omega) (by omega)]; exact r1
    · unfold fEnr; rw [updZ_at]; rfl
    · rw [hz _ (by omega) (by omega) (by omega) (by omega) (by omega)]; exact r3
    · intro p p0 p1
      have p1 : p < pX2_pitches b := p1
      rw [hz _ (by omega) (by omega) (by omega) (by omega) (by omega), hz _ (by omega) (by omega) (by omega) (by omega) (by omega), hz _ (by omega) (by omega) (by omega) (by omega) (by omega)]
      exact r4 p p0 p1
    · intro t t0 t1
      have t1 : t < pX2_traders b + 1 := t1
      show _ = updZ (pX2_trades b) (pX2_traders b) tr t ∧ _ = updZ (pX2_fronts b) (pX2_traders b) fr t ∧ _ = updZ (pX2_limits b) (pX2_traders b) li t ∧ _ = updZ (pX2_needy b) (pX2_traders b) ne t
      by_cases he : t = pX2_traders b
      · rw [he, updZ_at, updZ_at, updZ_at, updZ_at]
        unfold fEnr
        refine ⟨?_, ?_, ?_, ?_⟩
        · rw [updZ_ne (by omega), updZ_ne (by omega), updZ_ne (by omega), updZ_ne (by omega), updZ_at]
        · rw [updZ_ne (by omega), updZ_ne (by omega), updZ_ne (by omega), updZ_at]
        · rw [updZ_ne (by omega), updZ_ne (by omega), updZ_at]
        · rw [updZ_ne (by omega), updZ_at]
      · rw [hz _ (by omega) (by omega) (by omega) (by omega) (by omega), hz _ (by omega) (by omega) (by omega) (by omega) (by omega), hz _ (by omega) (by omega) (by omega) (by omega) (by omega), hz _ (by omega) (by omega) (by omega) (by omega) (by omega), updZ_ne he, updZ_ne he, updZ_ne he, updZ_ne he]
        exact r5 t t0 (by omega)
    · intro t t0 t1
      rw [hz _ (by omega) (by omega) (by omega) (by omega) (by omega)]; exact r6 t t0 t1
    · intro i j i0 i1 j0 j1
      rw [hz _ (by omega) (by omega) (by omega) (by omega) (by omega)]; exact r7 i j i0 i1 j0 j1
  · unfold fEnr
    rw [updZ_ne (by omega), updZ_ne (by omega), updZ_ne (by omega), updZ_ne (by omega), updZ_ne (by omega)]; exact h.2.2.2.1
def fPit (f : Int → Int) (p row rent roof : Int) : Int → Int := updZ (updZ (updZ (updZ f (2 + p) rent) (26 + p) roof) (50 + p) row) 1 (p + 1)
theorem MF_pit {b : BX2} {f : Int → Int} {rows : Int} (h : MF b f rows) {rent roof : Int} (hp : pX2_pitches b < 24) (h1 : 1 ≤ rent ∧ rent ≤ 999) (h2 : roof = 0 ∨ roof = 1) : MF (mAddPitch b rows rent roof) (fPit f (pX2_pitches b) rows rent roof) rows := by
  have ht0 := h.1.s.tra
  have hp0 := h.1.s.pit
  have hs := S2_addPitch h.1.s (row := rows) hp h1 h2
  have e1 : pX2_starts (mAddPitch b rows rent roof) = pX2_starts b := rfl
  have e2 : pX2_standing (mAddPitch b rows rent roof) = pX2_standing b := rfl
  have e3 : pX2_coversBusy (mAddPitch b rows rent roof) = pX2_coversBusy b := rfl
  have e4 : pX2_pitches (mAddPitch b rows rent roof) = pX2_pitches b + 1 := rfl
  have e5 : pX2_rows (mAddPitch b rows rent roof) = updZ (pX2_rows b) (pX2_pitches b) rows := rfl
  have e6 : pX2_traders (mAddPitch b rows rent roof) = pX2_traders b := rfl
  have hrows : ∀ p, 0 ≤ p → p < pX2_pitches b + 1 → updZ (pX2_rows b) (pX2_pitches b) rows p ≤ rows := by
    intro p p0 p1
    rw [updZ_app]
    by_cases he : p = pX2_pitches b
    · rw [if_pos he]; exact Int.le_refl _
    · rw [if_neg he]; exact h.2.2.2.2.2 p p0 (by omega)
  refine ⟨⟨⟨hs, ?_⟩, h.1.2.1, ?_, ?_, ?_, ?_⟩, ?_, by rw [e1]; exact h.2.2.1, ?_, h.2.2.2.2.1, by rw [e4, e5]; exact hrows⟩
  · refine ⟨fun t t0 t1 => by rw [e1]; exact .inl (h.2.2.1 t t0 t1), fun p p0 p1 => by rw [e2]; exact .inl (h.on p p0 p1), fun t p t0 t1 hne => ?_, ?_⟩
    · rw [e1] at hne
      rw [e6] at t1
      exact absurd (h.2.2.1 t t0 (by omega)) hne
    · rw [e3, h.busy]
      refine (zr_0 (fun t t0 t1 => ?_)).symm
      rw [e6] at t1
      show (if pX2_starts b t = -1 then 0 else _) = _
      rw [if_pos (h.2.2.1 t t0 (by omega))]
  · intro p p0 p1
    rw [e4] at p1
    rw [e5, updZ_ne (by omega), updZ_app]
    by_cases he : p + 1 = pX2_pitches b
    · rw [if_pos he]; exact h.2.2.2.2.2 p p0 (by omega)
    · rw [if_neg he]; exact h.1.2.2.1 p p0 (by omega)
  · intro t t0 t1 hne
    rw [e1] at hne
    rw [e6] at t1
    exact absurd (h.2.2.1 t t0 (by omega)) hne
  · rw [e3, h.busy]; exact hs.cov.1
  · intro p p0 p1 _ hne
    rw [e4] at p1
    rw [e2] at hne
    exact absurd (h.on p p0 (by omega)) hne
  · obtain ⟨r1, r2, r3, r4, r5, r6, r7⟩ := h.2.1
    have hz : ∀ k, k ≠ 1 → k ≠ 2 + pX2_pitches b → k ≠ 26 + pX2_pitches b → k ≠ 50 + pX2_pitches b → fPit f (pX2_pitches b) rows rent roof k = f k := fun k h1 h2 h3 h4 => by
      unfold fPit
      rw [updZ_ne h1, updZ_ne h4, updZ_ne h3, updZ_ne h2]
    refine ⟨?_, ?_, ?_, ?_, ?_, ?_, ?_⟩
    · unfold fPit; rw [updZ_at]; rfl
    · rw [hz _ (by omega) (by omega) (by omega) (by omega)]; exact r2
    · rw [hz _ (by omega) (by omega) (by omega) (by omega)]; exact r3
    · intro p p0 p1
      rw [e4] at p1
      show _ = updZ (pX2_rents b) (pX2_pitches b) rent p ∧ _ = updZ (pX2_roofs b) (pX2_pitches b) roof p ∧ _ = updZ (pX2_rows b) (pX2_pitches b) rows p
      by_cases he : p = pX2_pitches b
      · rw [he, updZ_at, updZ_at, updZ_at]
        unfold fPit
        refine ⟨?_, ?_, ?_⟩
        · rw [updZ_ne (by omega), updZ_ne (by omega), updZ_ne (by omega), updZ_at]
        · rw [updZ_ne (by omega), updZ_ne (by omega), updZ_at]
        · rw [updZ_ne (by omega), updZ_at]
      · rw [hz _ (by omega) (by omega) (by omega) (by omega), hz _ (by omega) (by omega) (by omega) (by omega), hz _ (by omega) (by omega) (by omega) (by omega), updZ_ne he, updZ_ne he, updZ_ne he]
        exact r4 p p0 (by omega)
    · intro t t0 t1
      rw [e6] at t1
      rw [hz _ (by omega) (by omega) (by omega) (by omega), hz _ (by omega) (by omega) (by omega) (by omega), hz _ (by omega) (by omega) (by omega) (by omega), hz _ (by omega) (by omega) (by omega) (by omega)]
      exact r5 t t0 t1
    · intro t t0 t1
      rw [hz _ (by omega) (by omega) (by omega) (by omega)]; exact r6 t t0 t1
    · intro i j i0 i1 j0 j1
      rw [hz _ (by omega) (by omega) (by omega) (by omega)]; exact r7 i j i0 i1 j0 j1
  · unfold fPit
    rw [updZ_ne (by omega), updZ_ne (by omega), updZ_ne (by omega), updZ_ne (by omega)]; exact h.2.2.2.1
/-! frames without what is being read -/
def Fz (r r' : BX6) : Prop := pX6_a r' = pX6_a r ∧ pX6_kept r' = pX6_kept r ∧ pX6_keptMany r' = pX6_keptMany r ∧ pX6_thrown r' = pX6_thrown r ∧ pX6_buffer r' = pX6_buffer r ∧ pX6_buffered r' = pX6_buffered r ∧ pX6_size r' = pX6_size r ∧ pX6_errorAt r' = pX6_errorAt r
theorem Fz.rfl' (r : BX6) : Fz r r := ⟨rfl, rfl, rfl, rfl, rfl, rfl, rfl, rfl⟩
theorem Fz.trans {r s t : BX6} (h : Fz r s) (k : Fz s t) : Fz r t := by
  obtain ⟨h1, h2, h3, h4, h5, h6, h7, h8⟩ := h
  obtain ⟨k1, k2, k3, k4, k5, k6, k7, k8⟩ := k
  exact ⟨k1.trans h1, k2.trans h2, k3.trans h3, k4.trans h4, k5.trans h5, k6.trans h6, k7.trans h7, k8.trans h8⟩
theorem Fq.fz {r r' : BX6} (h : Fq r r') : Fz r r' := by
  obtain ⟨h1, h2, h3, h4, h5, h6, h7, h8, h9⟩ := h
  exact ⟨h1, h2, h3, h4, h5, h6, h7, h8⟩
theorem Fz.fresh (r : BX6) (v : Int → Int) : Fz r (sX6_fresh r v) := ⟨eX6_a_fresh _ _, eX6_kept_fresh _ _, eX6_keptMany_fresh _ _, eX6_thrown_fresh _ _, eX6_buffer_fresh _ _, eX6_buffered_fresh _ _, eX6_size_fresh _ _, eX6_errorAt_fresh _ _⟩
theorem GT_fresh {v : Int → Int} {l : Int} {y : BX4} {r : BX6} (h : GT v l y r) (f : Int → Int) : GT v l y (sX6_fresh r f) := by
  obtain ⟨h1, h2, h3, h4, h5, h6, h7, h8⟩ := h
  refine ⟨h1, h2, h3, by rw [eX6_wrong_fresh]; exact h4, ⟨by rw [eX6_size_fresh]; exact h5.1, h5.2.1, by rw [eX6_buffer_fresh]; exact h5.2.2.1, h5.2.2.2⟩, by rw [eX6_at_fresh]; exact h6, ?_, by rw [eX6_number_fresh]; exact h8⟩
  unfold Tok at h7 ⊢
  rw [eX6_at_fresh, eX6_kind_fresh, eX6_behind_fresh, eX6_number_fresh]; exact h7
theorem BT_fresh {v : Int → Int} {l : Int} {y : BX4} {r : BX6} (h : BT v l y r) (f : Int → Int) : BT v l y (sX6_fresh r f) := by
  obtain ⟨h1, h2, h3, h4, h5, h6⟩ := h
  exact ⟨h1, h2, by rw [eX6_wrong_fresh]; exact h3, by rw [eX6_wrongAt_fresh]; exact h4, by rw [eX6_number_fresh]; exact h5, h6⟩
theorem GT_rows {v : Int → Int} {l : Int} {y : BX4} {r : BX6} (h : GT v l y r) (k : Int) : GT v l (sX4_rowsRead y k) r := by
  obtain ⟨h1, h2, h3, h4, h5, h6, h7, h8⟩ := h
  exact ⟨⟨by rw [eX4_text_rowsRead]; exact h1.1, by rw [eX4_length_rowsRead]; exact h1.2.1, by rw [eX4_position_rowsRead]; exact h1.2.2⟩, by rw [eX4_error_rowsRead]; exact h2, by rw [eX4_errorAt_rowsRead]; exact h3, h4, h5, by rw [eX4_position_rowsRead]; exact h6, h7, h8⟩
theorem BT_rows {v : Int → Int} {l : Int} {y : BX4} {r : BX6} (h : BT v l y r) (k : Int) : BT v l (sX4_rowsRead y k) r := by
  obtain ⟨h1, h2, h3, h4, h5, h6⟩ := h
  exact ⟨⟨by rw [eX4_text_rowsRead]; exact h1.1, by rw [eX4_length_rowsRead]; exact h1.2.1, by rw [eX4_position_rowsRead]; exact h1.2.2⟩, by rw [eX4_error_rowsRead]; exact h2, by rw [eX4_error_rowsRead]; exact h3, by rw [eX4_errorAt_rowsRead]; exact h4, h5, h6⟩
