/-! Both readers: pitches, rows, traders, statements. -/
theorem GT_BT {v : Int → Int} {l : Int} {y : BX4} {r s : BX6} (h : GT v l y r) (k : BT v l y s) : False := by
  have h1 := h.2.1
  have h2 := k.2.1
  omega
theorem cb_word {n : Nat} (hn : 1000 ≤ n) {v : Int → Int} {l : Int} {y : BX4} {r : BX6} (h : BT v l y r) {j : Nat} (hj : j < 8) : ∃ y', g_X4_takesWord n y j = some (0, y') ∧ BT v l y' r ∧ pX4_rowsRead y' = pX4_rowsRead y := by
  have h2 := h.2.1
  exact ⟨_, s_cWord_bad hn h.2.2.2.2.2 h.1 (by omega) hj, BT_skip h, eX4_rowsRead_position _ _⟩
theorem cb_num {n : Nat} (hn : 1000 ≤ n) {v : Int → Int} {l : Int} {y : BX4} {r : BX6} (h : BT v l y r) (lo hi : Int) : ∃ y', g_X4_readNumber n y lo hi = some (0, y') ∧ BT v l y' r ∧ pX4_rowsRead y' = pX4_rowsRead y := by
  have h2 := h.2.1
  exact ⟨_, s_cNumber_bad hn h.2.2.2.2.2 h.1 (by omega) lo hi, BT_skip h, eX4_rowsRead_position _ _⟩
theorem cb_need {n : Nat} (hn : 1000 ≤ n) {v : Int → Int} {l : Int} {y : BX4} {r : BX6} (h : BT v l y r) {j : Nat} (hj : j < 8) : ∃ y', g_X4_readWord n y j = some y' ∧ BT v l y' r := by
  obtain ⟨y', a1, a2, _⟩ := cb_word hn h hj
  have h2 := a2.2.1
  unfold g_X4_readWord
  rw [a1, oB2_some, if_pos rfl, s_fail, oB_some, if_neg (by omega)]
  exact ⟨y', rfl, a2⟩
theorem cb_p41 {n : Nat} (hn : 1000 ≤ n) {v : Int → Int} {l : Int} {y : BX4} {r : BX6} (h : BT v l y r) (b : BX2) (c : Int) : ∃ y', g_X4_readPitch_41 n c y b = some (y', b) ∧ BT v l y' r ∧ pX4_rowsRead y' = pX4_rowsRead y := by
  obtain ⟨y', a1, a2, a3⟩ := cb_word hn h (j := 4) (by omega)
  have h2 := a2.2.1
  unfold g_X4_readPitch_41
  rw [a1, oB2_some, if_neg (by omega)]
  exact ⟨y', rfl, a2, a3⟩
theorem p_pitch {n : Nat} (hn : 1000 ≤ n) (k32 : Int → Int → BX6 → Option BX6) {v : Int → Int} {l : Int} {y : BX4} {r : BX6} {b : BX2} {row many : Int} (h : GT v l y r) (hM : MF b (pX6_fresh r) row) (hrow : pX4_rowsRead y = row) (m0 : 0 ≤ many) (m1 : many ≤ 12) :
    ∃ y' b' r', g_X4_readPitch n y b many = some (y', b') ∧ Fz r r' ∧ pX4_rowsRead y' = row ∧ ((g_X6_readsRow_52 n k32 row many r = k32 row (many + 1) r' ∧ GT v l y' r' ∧ MF b' (pX6_fresh r') row ∧ pX4_position y ≤ pX4_position y' ∧ many < 12) ∨ (g_X6_readsRow_52 n k32 row many r = some r' ∧ BT v l y' r' ∧ b' = b)) := by
  have hs := GT_skip h
  have ha := h.at0
  have hl := h.2.2.2.2.1.2.1
  have hw := h.2.2.2.1
  have hn8 := h.2.2.2.2.2.2.2
  have hP := hM.1.s.pit
  have hf1 : pX6_fresh r 1 = pX2_pitches b := hM.2.1.pit
  have hro := hM.2.2.2.2.1
  obtain ⟨c, y1, w, r1, a1, a2, a3, a4, a5⟩ := p_num hn hs.1 (lo := 1) (hi := 999) (by omega) (by omega)
  rw [eX4_rowsRead_position, hrow] at a4
  unfold g_X4_readPitch g_X4_readPitch_34 g_X6_readsRow_52 g_X6_readsRow_94 g_X6_readsRow_100
  rw [s_skip hn hl h.1, oB_some, ← h.2.2.2.2.2.1, a1, oB2_some, hs.2, qA_ok (by omega) (by omega) (by omega), oL_def, hf1, s_is 9 hw, oB_some, a2, oB2_some, s_X6_isIn, oB_some]
  rcases a5 with ⟨b1, b2, b3, b4, b5, b6, b7⟩ | ⟨b1, b2⟩
  · have hw1 := b1.2.2.2.1
    rw [zB_pos b6.1, if_neg (c := (1 : Int) = 0) (by omega), zB_pos b6.2, if_neg (c := (1 : Int) = 0) (by omega)]
    by_cases htm : 12 ≤ many ∨ 24 ≤ pX2_pitches b
    · have hB := b7 (-4) (by omega) (by omega)
      obtain ⟨y3, q1, q2, q3⟩ := cb_p41 hn hB b c
      obtain ⟨_, _, q5, _⟩ := b_num hn hB 1 999
      have hww : pX6_wrong (rFl r (-4)) = -4 := by unfold rFl; rw [eX6_wrong_wrongAt, eX6_wrong_wrong]
      have e1 : (if 12 ≤ many then oB (g_X4_fail y1 (-4) (pX6_at r)) (fun b_29 => g_X4_readPitch_41 n c b_29 b) else if pX2_pitches b < 24 then g_X4_readPitch_41 n c y1 b else oB (g_X4_fail y1 (-4) (pX6_at r)) (fun b_29 => g_X4_readPitch_41 n c b_29 b)) = some (y3, b) := by
        have e2 : oB (g_X4_fail y1 (-4) (pX6_at r)) (fun b_29 => g_X4_readPitch_41 n c b_29 b) = some (y3, b) := by
          rw [s_fail, oB_some, b1.2.1, if_pos rfl]; exact q1
        by_cases h12 : 12 ≤ many
        · rw [if_pos h12]; exact e2
        · rw [if_neg h12, if_neg (by omega)]; exact e2
      have q3' : pX4_rowsRead y3 = row := by
        rw [q3]; unfold yFail; rw [eX4_rowsRead_errorAt, eX4_rowsRead_error]; exact a4
      rw [e1]
      refine ⟨y3, b, rFl r (-4), rfl, (rFl_fq r _).fz, q3', .inr ⟨?_, q2, rfl⟩⟩
      rw [s_rFails, oB_some, if_pos hw, q5, oB2_some, hww, if_neg (c := (-4 : Int) = 0) (by omega)]
      by_cases h12 : many = 12
      · rw [if_pos h12]
      · rw [if_neg h12, if_pos (by omega)]
    · have hfr1 : pX6_fresh r1 = pX6_fresh r := a3.2.2.2.2.2.2.2.2
      obtain ⟨y2, r3, p1, p2, p3, p4, p5, p6⟩ := p_word hn (GT_fresh b1 (updZ (pX6_fresh r1) (2 + pX2_pitches b) w)) (j := 4) (by omega)
      have hk : ((cmp.getD 4 0 : Nat) : Int) = 7 := by decide
      rw [hk] at p1 p2
      have hf3 : pX6_fresh r3 = updZ (pX6_fresh r) (2 + pX2_pitches b) w := by rw [p4.2.2.2.2.2.2.2.2, eX6_fresh_fresh, hfr1]
      rw [if_neg (by omega), if_pos (by omega), if_neg (by omega), if_neg (by omega), hw1, if_pos rfl, qA_ok (by omega) (by omega) (by omega), oL_def, p2, oB2_some]
      unfold g_X4_readPitch_41
      rw [p1, oB2_some, p3.2.1, if_pos rfl, p5, a4]
      have hz01 := zB_01 (pX6_kind (sX6_fresh r1 (updZ (pX6_fresh r1) (2 + pX2_pitches b) w)) = 7)
      generalize zB (pX6_kind (sX6_fresh r1 (updZ (pX6_fresh r1) (2 + pX2_pitches b) w)) = 7) = z at hz01
      rw [s_X2_addPitch hM.1.s hz01 (by omega), oB_some]
      have h150 : ∀ zz, zz = z → oR (26 + pX2_pitches b) (g_X6_readsRow_150 n k32 (26 + pX2_pitches b) zz row many (pX2_pitches b) r3) = k32 row (many + 1) (sX6_fresh r3 (fPit (pX6_fresh r) (pX2_pitches b) row w z)) := by
        intro zz hzz
        unfold g_X6_readsRow_150
        rw [hzz, oR_ok (by omega) (by omega), qA_ok (by omega) (by omega) (by omega), oL_def, qA_ok (by omega) (by omega) (by omega), oL_def, qA_ok (by omega) (by omega) (by omega), qA_ok (by omega) (by omega) (by omega), hf3, updZ_ne (v := updZ (updZ (pX6_fresh r) (2 + pX2_pitches b) w) (26 + pX2_pitches b) z) (by omega), updZ_ne (v := updZ (pX6_fresh r) (2 + pX2_pitches b) w) (by omega), updZ_ne (v := pX6_fresh r) (by omega), hf1, oR_ok (by omega) (by omega), oL_def, oR_ok (by omega) (by omega)]
        rfl
      have hm' : MF (mAddPitch b row c z) (fPit (pX6_fresh r) (pX2_pitches b) row w z) row := by rw [← b2]; exact MF_pit hM (by omega) ⟨b3, b4⟩ hz01
      refine ⟨y2, _, sX6_fresh r3 (fPit (pX6_fresh r) (pX2_pitches b) row w z), rfl, ?_, by rw [p5]; exact a4, .inl ⟨?_, GT_fresh p3 _, by rw [eX6_fresh_fresh]; exact hm', ?_, by omega⟩⟩
      · exact (a3.fz.trans (Fz.fresh r1 _)).trans (p4.fz.trans (Fz.fresh r3 _))
      · rcases hz01 with e | e
        · rw [if_pos e]; exact h150 0 e.symm
        · rw [if_neg (by omega)]; exact h150 1 e.symm
      · rw [hs.2] at b5; omega
  · obtain ⟨y3, q1, q2, q3⟩ := cb_p41 hn b1 b c
    have he := b1.2.1
    have e2 : oB (g_X4_fail y1 (-4) (pX6_at r)) (fun b_29 => g_X4_readPitch_41 n c b_29 b) = some (y3, b) := by
      rw [s_fail, oB_some, if_neg (by omega)]; exact q1
    have e1 : (if 12 ≤ many then oB (g_X4_fail y1 (-4) (pX6_at r)) (fun b_29 => g_X4_readPitch_41 n c b_29 b) else if pX2_pitches b < 24 then g_X4_readPitch_41 n c y1 b else oB (g_X4_fail y1 (-4) (pX6_at r)) (fun b_29 => g_X4_readPitch_41 n c b_29 b)) = some (y3, b) := by
      by_cases h12 : 12 ≤ many
      · rw [if_pos h12]; exact e2
      · rw [if_neg h12]
        by_cases h24 : pX2_pitches b < 24
        · rw [if_pos h24]; exact q1
        · rw [if_neg h24]; exact e2
    have hw1 : ¬ pX6_wrong r1 = 0 := by have := b1.2.2.1; omega
    rw [e1]
    refine ⟨y3, b, r1, rfl, a3.fz, by rw [q3]; exact a4, .inr ⟨?_, q2, rfl⟩⟩
    rw [if_neg hw1]
    by_cases h9 : pX6_kind r = 9
    · rw [zB_pos h9, if_neg (by omega), zB_neg (fun x => b2 ⟨h9, x⟩), if_pos rfl]
    · rw [zB_neg h9, if_pos rfl]
theorem s_cAt {n : Nat} (hn : 1000 ≤ n) {v : Int → Int} {l : Int} {y : BX4} {r : BX6} (h : GT v l y r) : g_X4_isAtDigit n y = some (zB (pX6_kind r = 9), sX4_position y (pX6_at r)) := by
  have hs := GT_skip h
  have ha := h.at0
  have hp := h.1.2.2
  have hl := h.2.2.2.2.1.2.1
  unfold g_X4_isAtDigit
  rw [s_skip hn hl h.1, oB_some, ← h.2.2.2.2.2.1, hs.1.2.1, if_pos rfl, hs.2, s_cDigit hl hs.1.1 (by omega), oB_some, zB_congr (Tok_dig h.2.2.2.2.2.2.1).symm]
  by_cases hk : pX6_kind r = 9
  · rw [zB_pos hk, if_neg (by omega)]
  · rw [zB_neg hk, if_pos rfl]
theorem Rl_zero {b : BX2} {a : Int → Int} (R : Rl b a) (x : Int) : Rl b (updZ a 0 x) := by
  obtain ⟨r1, r2, r3, r4, r5, r6, r7⟩ := R
  refine ⟨?_, ?_, ?_, fun p p0 p1 => ?_, fun t t0 t1 => ?_, fun t t0 t1 => ?_, fun i j i0 i1 j0 j1 => ?_⟩
  · rw [updZ_ne (by omega)]; exact r1
  · rw [updZ_ne (by omega)]; exact r2
  · rw [updZ_ne (by omega)]; exact r3
  · rw [updZ_ne (by omega), updZ_ne (by omega), updZ_ne (by omega)]; exact r4 p p0 p1
  · rw [updZ_ne (by omega), updZ_ne (by omega), updZ_ne (by omega), updZ_ne (by omega)]; exact r5 t t0 t1
  · rw [updZ_ne (by omega)]; exact r6 t t0 t1
  · rw [updZ_ne (by omega)]; exact r7 i j i0 i1 j0 j1
theorem cb_row24 {n : Nat} (hn : 1000 ≤ n) {v : Int → Int} {l : Int} {y : BX4} {r : BX6} (h : BT v l y r) (b : BX2) (hr : 0 ≤ pX4_rowsRead y ∧ pX4_rowsRead y ≤ 4) {fu : Nat} (hf : 0 < fu) (k : Int) : ∃ y', g_X4_readRow_24 n fu k y b = some (y', b) ∧ BT v l y' r := by
  have h2 := h.2.1
  cases fu with
  | zero => omega
  | succ fu =>
    rw [g_X4_readRow_24.eq_2]
    unfold g_X4_readRow_49 g_X4_isAtDigit
    by_cases hk : 12 < k
    · rw [if_pos hk, oR_ok (by omega) (by omega), oL_def]
      exact ⟨_, rfl, BT_rows h _⟩
    · rw [if_neg hk, s_skip hn h.2.2.2.2.2 h.1, oB_some, eX4_error_position, if_neg (by omega), oB2_some, if_pos rfl, eX4_rowsRead_position, oR_ok (by omega) (by omega), oL_def]
      exact ⟨_, rfl, BT_rows (BT_skip h) _⟩
theorem p_row24 {n : Nat} (hn : 1000 ≤ n) {v : Int → Int} {l : Int} {row : Int} (hrow4 : row < 4) : ∀ (fu fv : Nat) (many : Int) (y : BX4) (r : BX6) (b : BX2), 1 ≤ many → many ≤ 12 → 13 - many < fu → 13 - many < fv → GT v l y r → MF b (pX6_fresh r) row → pX4_rowsRead y = row →
    ∃ y' b' r', g_X4_readRow_24 n fu many y b = some (y', b') ∧ g_X6_readsRow_32 n fv row many r = some r' ∧ Fz r r' ∧ ((GT v l y' r' ∧ MF b' (pX6_fresh r') (row + 1) ∧ pX4_rowsRead y' = row + 1 ∧ pX4_position y ≤ pX4_position y') ∨ (BT v l y' r' ∧ W2 b')) := by
  intro fu
  induction fu with
  | zero => intro fv many y r b _ _ h; omega
  | succ fu ih =>
    intro fv many y r b m0 m1 hfu hfv h hM hrow
    cases fv with
    | zero => omega
    | succ fv =>
      have hs := GT_skip h
      have ha := h.at0
      have hro := hM.2.2.2.2.1
      have hrow' : pX4_rowsRead (sX4_position y (pX6_at r)) = row := by rw [eX4_rowsRead_position]; exact hrow
      rw [g_X4_readRow_24.eq_2, if_neg (by omega), s_cAt hn h, oB2_some, g_X6_readsRow_32.eq_2, if_pos h.2.2.2.1, if_neg (c := many = 0) (by omega)]
      by_cases hk : pX6_kind r = 9
      · obtain ⟨y1, b1, r1, q1, q2, q3, q4⟩ := p_pitch hn (g_X6_readsRow_32 n fv) hs.1 hM hrow' (many := many) (by omega) m1
        rw [zB_pos hk, if_neg (by omega), q1, oB2_some, oR_ok (by omega) (by omega), if_pos hk]
        rcases q4 with ⟨p1, p2, p3, p4, p5⟩ | ⟨p1, p2, p3⟩
        · obtain ⟨y2, b2, r2, i1, i2, i3, i4⟩ := ih fv (many + 1) y1 r1 b1 (by omega) (by omega) (by omega) (by omega) p2 p3 q3
          rw [p1, i1, i2]
          refine ⟨y2, b2, r2, rfl, rfl, q2.trans i3, ?_⟩
          rcases i4 with ⟨j1, j2, j3, j4⟩ | i4
          · rw [hs.2] at p4
            exact .inl ⟨j1, j2, j3, by omega⟩
          · exact .inr i4
        · obtain ⟨y2, i1, i2⟩ := cb_row24 hn p2 b1 (by rw [q3]; exact hro) (fu := fu) (by omega) (many + 1)
          rw [p1, i1]
          exact ⟨y2, b1, r1, rfl, rfl, q2, .inr ⟨i2, by rw [p3]; exact hM.1.w⟩⟩
      · unfold g_X4_readRow_49 g_X6_readsRow_177
        rw [zB_neg hk, if_pos rfl, if_neg hk, hrow', oR_ok (by omega) (by omega), oL_def, qA_ok (by omega) (by omega) (by omega), qA_ok (by omega) (by omega) (by omega), hM.2.2.2.1, oR_ok (by omega) (by omega), oL_def]
        refine ⟨_, _, _, rfl, rfl, Fz.fresh r _, .inl ⟨GT_fresh (GT_rows hs.1 _) _, ?_, eX4_rowsRead_rowsRead _ _, by rw [eX4_position_rowsRead, hs.2]; exact ha.1⟩⟩
        rw [eX6_fresh_fresh]
        obtain ⟨f1, f2, f3, f4, f5, f6⟩ := hM
        have hP := f1.s.pit
        have hT := f1.s.tra
        exact ⟨f1, Rl_zero f2 _, f3, updZ_at _ _ _, by omega, fun p p0 p1 => by have := f6 p p0 p1; omega⟩
