/-! Both readers step by step: good, or both in the same error. -/
def Fq (r r' : BX6) : Prop := pX6_a r' = pX6_a r ∧ pX6_kept r' = pX6_kept r ∧ pX6_keptMany r' = pX6_keptMany r ∧ pX6_thrown r' = pX6_thrown r ∧ pX6_buffer r' = pX6_buffer r ∧ pX6_buffered r' = pX6_buffered r ∧ pX6_size r' = pX6_size r ∧ pX6_errorAt r' = pX6_errorAt r ∧ pX6_fresh r' = pX6_fresh r
theorem Fq.rfl' (r : BX6) : Fq r r := ⟨rfl, rfl, rfl, rfl, rfl, rfl, rfl, rfl, rfl⟩
theorem Fq.trans {r s t : BX6} (h : Fq r s) (k : Fq s t) : Fq r t := by
  obtain ⟨h1, h2, h3, h4, h5, h6, h7, h8, h9⟩ := h
  obtain ⟨k1, k2, k3, k4, k5, k6, k7, k8, k9⟩ := k
  exact ⟨k1.trans h1, k2.trans h2, k3.trans h3, k4.trans h4, k5.trans h5, k6.trans h6, k7.trans h7, k8.trans h8, k9.trans h9⟩
theorem Fn.fq {r r' : BX6} (h : Fn r r') : Fq r r' := by
  obtain ⟨h1, h2, h3, h4, h5, h6, h7, h8, h9, h10, h11⟩ := h
  exact ⟨h1, h2, h3, h4, h5, h6, h7, h10, h11⟩
def rFl (r : BX6) (c : Int) : BX6 := sX6_wrongAt (sX6_wrong r c) (pX6_at r)
theorem rFl_fq (r : BX6) (c : Int) : Fq r (rFl r c) := by
  unfold rFl
  exact ⟨by rw [eX6_a_wrongAt, eX6_a_wrong], by rw [eX6_kept_wrongAt, eX6_kept_wrong], by rw [eX6_keptMany_wrongAt, eX6_keptMany_wrong], by rw [eX6_thrown_wrongAt, eX6_thrown_wrong], by rw [eX6_buffer_wrongAt, eX6_buffer_wrong], by rw [eX6_buffered_wrongAt, eX6_buffered_wrong], by rw [eX6_size_wrongAt, eX6_size_wrong], by rw [eX6_errorAt_wrongAt, eX6_errorAt_wrong], by rw [eX6_fresh_wrongAt, eX6_fresh_wrong]⟩
theorem s_rFails (r : BX6) (c : Int) : g_X6_fails r c = some (if pX6_wrong r = 0 then rFl r c else r) := by
  unfold g_X6_fails rFl
  by_cases h : pX6_wrong r = 0
  · rw [if_pos h, if_pos h]
  · rw [if_neg h, if_neg h]
def GT (v : Int → Int) (l : Int) (y : BX4) (r : BX6) : Prop := Yt v l y ∧ pX4_error y = 0 ∧ pX4_errorAt y = -1 ∧ pX6_wrong r = 0 ∧ Bf v l r ∧ pX6_at r = run (Spc v) l (pX4_position y) ∧ Tok v l r ∧ (0 ≤ pX6_number r ∧ pX6_number r ≤ 999999)
def BT (v : Int → Int) (l : Int) (y : BX4) (r : BX6) : Prop := Yt v l y ∧ (-4 ≤ pX4_error y ∧ pX4_error y ≤ -2) ∧ pX4_error y = pX6_wrong r ∧ pX4_errorAt y = pX6_wrongAt r ∧ (0 ≤ pX6_number r ∧ pX6_number r ≤ 999999) ∧ (0 ≤ l ∧ l ≤ 600)
theorem GT.at0 {v : Int → Int} {l : Int} {y : BX4} {r : BX6} (h : GT v l y r) : pX4_position y ≤ pX6_at r ∧ pX6_at r ≤ l := by
  rw [h.2.2.2.2.2.1]; exact (run_p h.1.2.2.2).1
theorem GT_fail {v : Int → Int} {l : Int} {y : BX4} {r : BX6} (h : GT v l y r) {p c : Int} (p0 : 0 ≤ p) (p1 : p ≤ l) (c0 : -4 ≤ c) (c1 : c ≤ -2) : BT v l (yFail (sX4_position y p) c (pX6_at r)) (rFl r c) := by
  obtain ⟨h1, h2, h3, h4, h5, h6, h7, h8⟩ := h
  unfold yFail rFl
  refine ⟨⟨?_, ?_, ?_⟩, ?_, ?_, ?_, ?_, h5.2.1⟩
  · rw [eX4_text_errorAt, eX4_text_error, eX4_text_position]; exact h1.1
  · rw [eX4_length_errorAt, eX4_length_error, eX4_length_position]; exact h1.2.1
  · rw [eX4_position_errorAt, eX4_position_error, eX4_position_position]; exact ⟨p0, p1⟩
  · rw [eX4_error_errorAt, eX4_error_error]; omega
  · rw [eX4_error_errorAt, eX4_error_error, eX6_wrong_wrongAt, eX6_wrong_wrong]
  · rw [eX4_errorAt_errorAt, eX6_wrongAt_wrongAt]
  · rw [eX6_number_wrongAt, eX6_number_wrong]; exact h8
theorem yFail_rows (y : BX4) (p c a : Int) : pX4_rowsRead (yFail (sX4_position y p) c a) = pX4_rowsRead y := by
  unfold yFail; rw [eX4_rowsRead_errorAt, eX4_rowsRead_error, eX4_rowsRead_position]
theorem BT_pos {v : Int → Int} {l : Int} {y : BX4} {r : BX6} (h : BT v l y r) {p : Int} (p0 : 0 ≤ p) (p1 : p ≤ l) : BT v l (sX4_position y p) r := by
  obtain ⟨h1, h2, h3, h4, h5⟩ := h
  exact ⟨Yt_pos h1 p0 p1, by rw [eX4_error_position]; exact h2, by rw [eX4_error_position]; exact h3, by rw [eX4_errorAt_position]; exact h4, h5⟩
theorem BT_skip {v : Int → Int} {l : Int} {y : BX4} {r : BX6} (h : BT v l y r) : BT v l (sX4_position y (run (Spc v) l (pX4_position y))) r := by
  have h1 := h.1.2.2
  have h2 := (run_p (P := Spc v) (l := l) (p := pX4_position y) h1.2).1
  exact BT_pos h (by omega) h2.2
/-! the class has passed over the spaces -/
theorem GT_skip {v : Int → Int} {l : Int} {y : BX4} {r : BX6} (h : GT v l y r) : GT v l (sX4_position y (pX6_at r)) r ∧ pX4_position (sX4_position y (pX6_at r)) = pX6_at r := by
  have ha := h.at0
  obtain ⟨h1, h2, h3, h4, h5, h6, h7, h8⟩ := h
  have hp := h1.2.2
  refine ⟨⟨Yt_pos h1 (by omega) ha.2, by rw [eX4_error_position]; exact h2, by rw [eX4_errorAt_position]; exact h3, h4, h5, ?_, h7, h8⟩, eX4_position_position _ _⟩
  rw [eX4_position_position]
  have := run_run (P := Spc v) (l := l) (p := pX4_position y) hp.2
  rw [← h6] at this
  exact this.symm
/-! both have taken the token -/
theorem GT_next {n : Nat} (hn : 1000 ≤ n) {v : Int → Int} {l : Int} {y : BX4} {r : BX6} (h : GT v l y r) : ∃ r', g_X6_next n r = some r' ∧ GT v l (sX4_position y (pX6_behind r)) r' ∧ Fq r r' := by
  have ha := h.at0
  obtain ⟨h1, h2, h3, h4, h5, h6, h7, h8⟩ := h
  have hp := h1.2.2
  have hb := Tok_b h7 ha.2
  obtain ⟨r', j1, j2, j3, j4, j5⟩ := s_next hn h5 (by omega) hb.2 h8.1 h8.2
  refine ⟨r', j1, ⟨Yt_pos h1 (by omega) hb.2, by rw [eX4_error_position]; exact h2, by rw [eX4_errorAt_position]; exact h3, ?_, j2.bf h5, by rw [eX4_position_position]; exact j3, j4, j5⟩, j2.fq⟩
  rw [j2.2.2.2.2.2.2.2.1]; exact h4
theorem p_took {n : Nat} (hn : 1000 ≤ n) {v : Int → Int} {l : Int} {y : BX4} {r : BX6} (h : GT v l y r) {j : Nat} (hj : j < 8) (hk : pX6_kind r = ((cmp.getD j 0 : Nat) : Int)) : ∃ y' r', g_X4_takesWord n y j = some (1, y') ∧ g_X6_next n r = some r' ∧ GT v l y' r' ∧ Fq r r' ∧ pX4_rowsRead y' = pX4_rowsRead y ∧ pX4_position y ≤ pX4_position y' ∧ (∀ c, -4 ≤ c → c ≤ -2 → BT v l (yFail y' c (pX6_at r)) (rFl r c)) := by
  have ha := h.at0
  obtain ⟨r', j1, j2, j3⟩ := GT_next hn h
  have h' := h
  obtain ⟨h1, h2, h3, h4, h5, h6, h7, h8⟩ := h
  have hp := h1.2.2
  have hb := Tok_b h7 ha.2
  have ht := Tok_word h7 ha.2 hj
  have hw := ht.1.2 hk
  have hbe := ht.2 hw
  rw [h6] at hw
  have hc := s_cWord hn h5.2.1 h1 h2 hj
  rw [zB_pos hw, cif_pos hw, ← h6, ← hbe] at hc
  refine ⟨_, r', hc, j1, j2, j3, eX4_rowsRead_position _ _, by rw [eX4_position_position]; omega, fun c c0 c1 => GT_fail h' (by omega) hb.2 c0 c1⟩
theorem p_not {n : Nat} (hn : 1000 ≤ n) {v : Int → Int} {l : Int} {y : BX4} {r : BX6} (h : GT v l y r) {j : Nat} (hj : j < 8) (hk : pX6_kind r ≠ ((cmp.getD j 0 : Nat) : Int)) : g_X4_takesWord n y j = some (0, sX4_position y (pX6_at r)) := by
  have ha := h.at0
  obtain ⟨h1, h2, h3, h4, h5, h6, h7, h8⟩ := h
  have ht := Tok_word h7 ha.2 hj
  have hw : ¬ WM v l (pX6_at r) j := fun hw => hk (ht.1.1 hw)
  rw [h6] at hw
  have hc := s_cWord hn h5.2.1 h1 h2 hj
  rw [zB_neg hw, cif_neg hw, ← h6] at hc
  exact hc
theorem s_is {r : BX6} (k : Int) (hw : pX6_wrong r = 0) : g_X6_is r k = some (zB (pX6_kind r = k)) := by
  unfold g_X6_is
  rw [if_pos hw, ite_zB]
theorem s_is_bad {r : BX6} (k : Int) (hw : pX6_wrong r ≠ 0) : g_X6_is r k = some 0 := by
  unfold g_X6_is
  rw [if_neg hw]
theorem p_word {n : Nat} (hn : 1000 ≤ n) {v : Int → Int} {l : Int} {y : BX4} {r : BX6} (h : GT v l y r) {j : Nat} (hj : j < 8) : ∃ y' r', g_X4_takesWord n y j = some (zB (pX6_kind r = ((cmp.getD j 0 : Nat) : Int)), y') ∧ g_X6_eats n r ((cmp.getD j 0 : Nat) : Int) = some (zB (pX6_kind r = ((cmp.getD j 0 : Nat) : Int)), r') ∧ GT v l y' r' ∧ Fq r r' ∧ pX4_rowsRead y' = pX4_rowsRead y ∧ pX4_position y ≤ pX4_position y' := by
  unfold g_X6_eats
  rw [s_is _ h.2.2.2.1, oB_some]
  by_cases hk : pX6_kind r = ((cmp.getD j 0 : Nat) : Int)
  · obtain ⟨y', r', a1, a2, a3, a4, a5, a6, _⟩ := p_took hn h hj hk
    rw [zB_pos hk, if_neg (by omega), a2, oB_some]
    exact ⟨y', r', a1, rfl, a3, a4, a5, a6⟩
  · have hs := GT_skip h
    rw [zB_neg hk, if_pos rfl]
    exact ⟨_, r, p_not hn h hj hk, rfl, hs.1, Fq.rfl' r, eX4_rowsRead_position _ _, by rw [hs.2]; exact h.at0.1⟩
theorem b_word {n : Nat} (hn : 1000 ≤ n) {v : Int → Int} {l : Int} {y : BX4} {r : BX6} (h : BT v l y r) {j : Nat} (hj : j < 8) : ∃ y', g_X4_takesWord n y j = some (0, y') ∧ BT v l y' r := by
  have h2 := h.2.1
  exact ⟨_, s_cWord_bad hn h.2.2.2.2.2 h.1 (by omega) hj, BT_skip h⟩
theorem b_eats {n : Nat} {v : Int → Int} {l : Int} {y : BX4} {r : BX6} (h : BT v l y r) (k : Int) : g_X6_eats n r k = some (0, r) := by
  have h2 := h.2.1
  have h3 := h.2.2.1
  unfold g_X6_eats
  rw [s_is_bad k (by omega), oB_some, if_pos rfl]
theorem p_num {n : Nat} (hn : 1000 ≤ n) {v : Int → Int} {l : Int} {y : BX4} {r : BX6} (h : GT v l y r) {lo hi : Int} (l0 : 0 ≤ lo) (h9 : hi ≤ 9999) : ∃ c y' w r', g_X4_readNumber n y lo hi = some (c, y') ∧ g_X6_takes n r lo hi = some (w, r') ∧ Fq r r' ∧ pX4_rowsRead y' = pX4_rowsRead y ∧ ((GT v l y' r' ∧ c = w ∧ lo ≤ c ∧ c ≤ hi ∧ pX4_position y ≤ pX4_position y' ∧ (pX6_kind r = 9 ∧ lo ≤ pX6_number r ∧ pX6_number r ≤ hi) ∧ ∀ c', -4 ≤ c' → c' ≤ -2 → BT v l (yFail y' c' (pX6_at r)) (rFl r c')) ∨ (BT v l y' r' ∧ ¬ (pX6_kind r = 9 ∧ lo ≤ pX6_number r ∧ pX6_number r ≤ hi))) := by
  have ha := h.at0
  have h' := h
  obtain ⟨h1, h2, h3, h4, h5, h6, h7, h8⟩ := h
  have hp := h1.2.2
  have hb := Tok_b h7 ha.2
  have hcn := s_cNumber hn h5.2.1 h5.2.2.2 h1 h2 lo hi h6
  have hdg := Tok_dig h7
  unfold g_X6_takes g_X6_takes_38
  rw [s_is 9 h4, oB_some]
  by_cases hd : pX6_kind r = 9
  · have hd2 := hdg.1 hd
    have hd3 : pX6_at r < l ∧ 48 ≤ v (pX6_at r) ∧ v (pX6_at r) ≤ 57 := hd2
    have htk : pX6_behind r = run (Dig v) l (pX6_at r) ∧ pX6_number r = numR v l (pX6_at r) := by
      rcases h7 with ⟨a1, a2, a3⟩ | ⟨a1, a2, a3, a4⟩ | ⟨a1, a2, a3, a4, a5⟩ | ⟨a1, a2, a3, a4, a5⟩
      · omega
      · have := kw_b (v := v) (p := pX6_at r) (e := pX6_behind r); omega
      · exact ⟨a3, a5⟩
      · exact absurd hd2.2 a3
    rw [if_pos hd3, ← htk.1, ← htk.2] at hcn
    rw [zB_pos hd, if_neg (by omega), s_X6_isIn, oB_some]
    by_cases hr : lo ≤ pX6_number r ∧ pX6_number r ≤ hi
    · obtain ⟨r', j1, j2, j3⟩ := GT_next hn h'
      rw [if_pos (by omega), show min (pX6_number r) 10000 = pX6_number r by omega] at hcn
      rw [zB_pos hr, if_neg (by omega), oR_ok (by omega) (by omega), oL_def, if_pos h4, j1, oB_some]
      exact ⟨_, _, _, _, hcn, rfl, j3, eX4_rowsRead_position _ _, .inl ⟨j2, rfl, hr.1, hr.2, by rw [eX4_position_position]; omega, ⟨hd, hr⟩, fun c' c0 c1 => GT_fail h' (by omega) hb.2 c0 c1⟩⟩
    · have hw : pX6_wrong (rFl r (-3)) = -3 := by unfold rFl; rw [eX6_wrong_wrongAt, eX6_wrong_wrong]
      have hnn : pX6_number (rFl r (-3)) = pX6_number r := by unfold rFl; rw [eX6_number_wrongAt, eX6_number_wrong]
      rw [if_neg (by omega)] at hcn
      rw [zB_neg hr, if_pos rfl, s_rFails, oB_some, if_pos h4, hnn, oR_ok (by omega) (by omega), oL_def, hw, if_neg (by omega)]
      exact ⟨_, _, _, _, hcn, rfl, rFl_fq r _, yFail_rows _ _ _ _, .inr ⟨GT_fail h' (by omega) hb.2 (by omega) (by omega), fun x => hr x.2⟩⟩
  · have hd3 : ¬ (pX6_at r < l ∧ 48 ≤ v (pX6_at r) ∧ v (pX6_at r) ≤ 57) := fun x => hd (hdg.2 x)
    have hw : pX6_wrong (rFl r (-2)) = -2 := by unfold rFl; rw [eX6_wrong_wrongAt, eX6_wrong_wrong]
    have hnn : pX6_number (rFl r (-2)) = pX6_number r := by unfold rFl; rw [eX6_number_wrongAt, eX6_number_wrong]
    rw [if_neg hd3] at hcn
    rw [zB_neg hd, if_pos rfl, s_rFails, oB_some, if_pos h4, hnn, oR_ok (by omega) (by omega), oL_def, hw, if_neg (by omega)]
    exact ⟨_, _, _, _, hcn, rfl, rFl_fq r _, yFail_rows _ _ _ _, .inr ⟨GT_fail h' (by omega) ha.2 (by omega) (by omega), fun x => hd x.1⟩⟩
theorem b_num {n : Nat} (hn : 1000 ≤ n) {v : Int → Int} {l : Int} {y : BX4} {r : BX6} (h : BT v l y r) (lo hi : Int) : ∃ y', g_X4_readNumber n y lo hi = some (0, y') ∧ g_X6_takes n r lo hi = some (pX6_number r, r) ∧ BT v l y' r := by
  have h2 := h.2.1
  have h3 := h.2.2.1
  have h5 := h.2.2.2.2.1
  refine ⟨_, s_cNumber_bad hn h.2.2.2.2.2 h.1 (by omega) lo hi, ?_, BT_skip h⟩
  unfold g_X6_takes g_X6_takes_38
  rw [s_is_bad 9 (by omega), oB_some, if_pos rfl, s_rFails, oB_some, if_neg (by omega), oR_ok (by omega) (by omega), oL_def, if_neg (by omega)]
def Pr (v : Int → Int) (l : Int) (y : BX4) (r : BX6) : Prop := GT v l y r ∨ BT v l y r
theorem p_need {n : Nat} (hn : 1000 ≤ n) {v : Int → Int} {l : Int} {y : BX4} {r : BX6} (h : Pr v l y r) {j : Nat} (hj : j < 8) : ∃ y' r', g_X4_readWord n y j = some y' ∧ g_X6_needs n r ((cmp.getD j 0 : Nat) : Int) = some r' ∧ Fq r r' ∧ ((GT v l y r ∧ GT v l y' r' ∧ pX4_rowsRead y' = pX4_rowsRead y ∧ pX4_position y ≤ pX4_position y') ∨ BT v l y' r') := by
  unfold g_X4_readWord g_X6_needs
  rcases h with h | h
  · obtain ⟨y', r', a1, a2, a3, a4, a5, a6⟩ := p_word hn h hj
    rw [a1, a2, oB2_some, oB2_some]
    by_cases hk : pX6_kind r = ((cmp.getD j 0 : Nat) : Int)
    · rw [zB_pos hk, if_neg (by omega), if_neg (by omega)]
      exact ⟨_, _, rfl, rfl, a4, .inl ⟨h, a3, a5, a6⟩⟩
    · rw [zB_neg hk, if_pos rfl, if_pos rfl]
      have hs := GT_skip h
      have e1 := p_not hn h hj hk
      rw [a1, zB_neg hk] at e1
      have e1 : y' = sX4_position y (pX6_at r) := congrArg Prod.snd (Option.some.inj e1)
      have e2 : r' = r := by
        have := a2
        unfold g_X6_eats at this
        rw [s_is _ h.2.2.2.1, oB_some, zB_neg hk, if_pos rfl] at this
        exact (congrArg Prod.snd (Option.some.inj this)).symm
      rw [e1, e2, s_fail, oB_some, hs.1.2.1, if_pos rfl, s_rFails, oB_some, if_pos h.2.2.2.1, hs.2]
      exact ⟨_, _, rfl, rfl, rFl_fq r _, .inr (GT_fail h (by have := h.at0; have := h.1.2.2; omega) h.at0.2 (by omega) (by omega))⟩
  · obtain ⟨y', a1, a2⟩ := b_word hn h hj
    have h2 := a2.2.1
    have h3 := a2.2.2.1
    rw [a1, b_eats h, oB2_some, oB2_some, if_pos rfl, if_pos rfl, s_fail, oB_some, if_neg (by omega), s_rFails, oB_some, if_neg (by omega)]
    exact ⟨_, _, rfl, rfl, Fq.rfl' r, .inr a2⟩
theorem p_semi {n : Nat} (hn : 1000 ≤ n) {v : Int → Int} {l : Int} {y : BX4} {r : BX6} (h : Pr v l y r) : ∃ y' r', g_X4_readSemicolon n y = some y' ∧ g_X6_needs n r 10 = some r' ∧ Fq r r' ∧ ((GT v l y r ∧ GT v l y' r' ∧ pX4_rowsRead y' = pX4_rowsRead y ∧ pX4_position y < pX4_position y') ∨ BT v l y' r') := by
  unfold g_X4_readSemicolon g_X4_readSemicolon_49 g_X6_needs
  rcases h with h | h
  · have ha := h.at0
    have hs := GT_skip h
    have hp := h.1.2.2
    have hl := h.2.2.2.2.1.2.1
    have htk := Tok_semi h.2.2.2.2.2.2.1
    rw [s_skip hn hl h.1, oB_some, ← h.2.2.2.2.2.1, hs.1.2.1, if_pos rfl, hs.2, hs.1.1.2.1, hs.1.1.1]
    unfold g_X6_eats
    rw [s_is 10 h.2.2.2.1, oB_some]
    have hfail : ∃ y' r', oB (g_X4_fail (sX4_position y (pX6_at r)) (-2) (pX6_at r)) (fun b_1 => some b_1) = some y' ∧ oB (g_X6_fails r (-2)) (fun b_35 => some b_35) = some r' ∧ Fq r r' ∧ ((GT v l y r ∧ GT v l y' r' ∧ pX4_rowsRead y' = pX4_rowsRead y ∧ pX4_position y < pX4_position y') ∨ BT v l y' r') := by
      rw [s_fail, oB_some, hs.1.2.1, if_pos rfl, s_rFails, oB_some, if_pos h.2.2.2.1]
      exact ⟨_, _, rfl, rfl, rFl_fq r _, .inr (GT_fail h (by omega) ha.2 (by omega) (by omega))⟩
    by_cases hc : l ≤ pX6_at r
    · rw [if_pos hc, zB_neg (fun x => by have := (htk.1 x).1; omega), if_pos rfl, oB2_some, if_pos rfl]
      exact hfail
    · rw [if_neg hc, qA_ok (by omega) (by omega) (by omega)]
      by_cases h59 : v (pX6_at r) = 59
      · have hk := htk.2 ⟨by omega, h59⟩
        obtain ⟨r', j1, j2, j3⟩ := GT_next hn h
        have hbe : pX6_behind r = pX6_at r + 1 := by
          rcases h.2.2.2.2.2.2.1 with ⟨a1, a2, a3⟩ | ⟨a1, a2, a3, a4⟩ | ⟨a1, a2, a3, a4, a5⟩ | ⟨a1, a2, a3, a4, a5⟩
          · omega
          · unfold Let at a2; omega
          · unfold Dig at a2; omega
          · exact a4
        rw [hbe] at j2
        rw [if_pos h59, oR_ok (by omega) (by omega), oL_def, uX4_position, zB_pos hk, if_neg (by omega), j1, oB_some, oB2_some, if_neg (by omega)]
        exact ⟨_, _, rfl, rfl, j3, .inl ⟨h, j2, eX4_rowsRead_position _ _, by rw [eX4_position_position]; omega⟩⟩
      · rw [if_neg h59, zB_neg (fun x => h59 (htk.1 x).2), if_pos rfl, oB2_some, if_pos rfl]
        exact hfail
  · have h2 := h.2.1
    have h3 := h.2.2.1
    rw [s_skip hn h.2.2.2.2.2 h.1, oB_some, eX4_error_position, if_neg (by omega), b_eats h, oB2_some, if_pos rfl, s_fail, oB_some, eX4_error_position, if_neg (by omega), s_rFails, oB_some, if_neg (by omega)]
    exact ⟨_, _, rfl, rfl, Fq.rfl' r, .inr (BT_skip h)⟩
