/-! Both readers: whole statements. -/
def Out (v : Int → Int) (l p0 : Int) (y : BX4) (b : BX2) (r : BX6) : Prop := (GT v l y r ∧ MF b (pX6_fresh r) (pX4_rowsRead y) ∧ p0 ≤ pX4_position y) ∨ (BT v l y r ∧ W2 b)
theorem p_row {n : Nat} (hn : 1000 ≤ n) {v : Int → Int} {l : Int} {y : BX4} {r : BX6} {b : BX2} (h : GT v l y r) (hM : MF b (pX6_fresh r) (pX4_rowsRead y)) (hk : pX6_kind r = 0) : ∃ y1 y' b' r', g_X4_takesWord n y 0 = some (1, y1) ∧ g_X4_readRow n y1 b (pX6_at r) = some (y', b') ∧ g_X6_readsRow n r = some r' ∧ Fz r r' ∧ Out v l (pX4_position y) y' b' r' := by
  have hro := hM.2.2.2.2.1
  obtain ⟨y1, r1, a1, a2, a3, a4, a5, a6, a7⟩ := p_took hn h (j := 0) (by omega) (by rw [hk]; decide)
  have hf0 : pX6_fresh r 0 = pX4_rowsRead y := hM.2.2.2.1
  have hfr1 : pX6_fresh r1 = pX6_fresh r := a4.2.2.2.2.2.2.2.2
  have hw := h.2.2.2.1
  refine ⟨y1, ?_⟩
  unfold g_X4_readRow g_X6_readsRow g_X6_readsRow_18
  rw [a5, qA_ok (by omega) (by omega) (by omega), oL_def, hf0]
  by_cases h4 : pX4_rowsRead y < 4
  · rw [if_pos h4, if_neg (by omega), if_pos hw, a2, oB_some]
    obtain ⟨y2, b2, r2, q1, q2, q3, q4⟩ := p_pitch hn (g_X6_readsRow_32 n (n - 1)) a3 (b := b) (row := pX4_rowsRead y) (many := 0) (by rw [hfr1]; exact hM) a5 (by omega) (by omega)
    have hn1 : g_X6_readsRow_32 n n (pX4_rowsRead y) 0 r1 = g_X6_readsRow_52 n (g_X6_readsRow_32 n (n - 1)) (pX4_rowsRead y) 0 r1 := by
      rw [show g_X6_readsRow_32 n n (pX4_rowsRead y) 0 r1 = g_X6_readsRow_32 n ((n - 1) + 1) (pX4_rowsRead y) 0 r1 by rw [show n - 1 + 1 = n by omega], g_X6_readsRow_32.eq_2, if_pos a3.2.2.2.1, if_pos rfl]
    rw [q1, oB2_some, hn1]
    rcases q4 with ⟨p1, p2, p3, p4, p5⟩ | ⟨p1, p2, p3⟩
    · obtain ⟨y3, b3, r3, i1, i2, i3, i4⟩ := p_row24 hn h4 n (n - 1) 1 y2 r2 b2 (by omega) (by omega) (by omega) (by omega) p2 p3 q3
      have p1 : g_X6_readsRow_52 n (g_X6_readsRow_32 n (n - 1)) (pX4_rowsRead y) 0 r1 = g_X6_readsRow_32 n (n - 1) (pX4_rowsRead y) 1 r2 := p1
      rw [i1, p1, i2]
      refine ⟨y3, b3, r3, a1, rfl, rfl, (a4.fz.trans q2).trans i3, ?_⟩
      rcases i4 with ⟨j1, j2, j3, j4⟩ | i4
      · exact .inl ⟨j1, by rw [j3]; exact j2, by omega⟩
      · exact .inr i4
    · obtain ⟨y3, i1, i2⟩ := cb_row24 hn p2 b2 (by rw [q3]; exact hro) (fu := n) (by omega) 1
      rw [i1, p1]
      exact ⟨y3, b2, r2, a1, rfl, rfl, a4.fz.trans q2, .inr ⟨i2, by rw [p3]; exact hM.1.w⟩⟩
  · have hB := a7 (-4) (by omega) (by omega)
    have hww : pX6_wrong (rFl r (-4)) = -4 := by unfold rFl; rw [eX6_wrong_wrongAt, eX6_wrong_wrong]
    rw [if_neg h4, s_fail, oB_some, a3.2.1, if_pos rfl, if_pos (by omega), s_rFails, oB_some, if_pos hw, hww, if_neg (by omega)]
    exact ⟨_, _, _, a1, rfl, rfl, (rFl_fq r _).fz, .inr ⟨hB, hM.1.w⟩⟩
theorem q_num {n : Nat} (hn : 1000 ≤ n) {v : Int → Int} {l : Int} {y : BX4} {r : BX6} (h : Pr v l y r) {lo hi : Int} (l0 : 0 ≤ lo) (h9 : hi ≤ 9999) : ∃ c y' w r', g_X4_readNumber n y lo hi = some (c, y') ∧ g_X6_takes n r lo hi = some (w, r') ∧ Fq r r' ∧ ((GT v l y r ∧ GT v l y' r' ∧ c = w ∧ (lo ≤ c ∧ c ≤ hi) ∧ pX4_rowsRead y' = pX4_rowsRead y ∧ pX4_position y ≤ pX4_position y') ∨ (BT v l y' r' ∧ (0 ≤ w ∧ w ≤ 999999) ∧ c = 0)) := by
  rcases h with h | h
  · obtain ⟨c, y', w, r', a1, a2, a3, a4, a5⟩ := p_num hn h l0 h9
    refine ⟨c, y', w, r', a1, a2, a3, ?_⟩
    rcases a5 with ⟨b1, b2, b3, b4, b5, b6, b7⟩ | ⟨b1, b2⟩
    · exact .inl ⟨h, b1, b2, ⟨b3, b4⟩, a4, b5⟩
    · refine .inr ⟨b1, ?_, ?_⟩
      · have h8 := h.2.2.2.2.2.2.2
        have hw := h.2.2.2.1
        unfold g_X6_takes g_X6_takes_38 at a2
        rw [s_is 9 hw, oB_some] at a2
        by_cases hk : pX6_kind r = 9
        · rw [zB_pos hk, if_neg (by omega), s_X6_isIn, oB_some, zB_neg (fun x => b2 ⟨hk, x⟩), if_pos rfl, s_rFails, oB_some, if_pos hw] at a2
          have hnn : pX6_number (rFl r (-3)) = pX6_number r := by unfold rFl; rw [eX6_number_wrongAt, eX6_number_wrong]
          have hww : pX6_wrong (rFl r (-3)) = -3 := by unfold rFl; rw [eX6_wrong_wrongAt, eX6_wrong_wrong]
          rw [hnn, oR_ok (by omega) (by omega), oL_def, hww, if_neg (by omega)] at a2
          have : pX6_number r = w := congrArg Prod.fst (Option.some.inj a2)
          omega
        · rw [zB_neg hk, if_pos rfl, s_rFails, oB_some, if_pos hw] at a2
          have hnn : pX6_number (rFl r (-2)) = pX6_number r := by unfold rFl; rw [eX6_number_wrongAt, eX6_number_wrong]
          have hww : pX6_wrong (rFl r (-2)) = -2 := by unfold rFl; rw [eX6_wrong_wrongAt, eX6_wrong_wrong]
          rw [hnn, oR_ok (by omega) (by omega), oL_def, hww, if_neg (by omega)] at a2
          have : pX6_number r = w := congrArg Prod.fst (Option.some.inj a2)
          omega
      · have hl := h.2.2.2.2.1.2.1
        have hv := h.2.2.2.2.1.2.2.2
        have hc := s_cNumber hn hl hv h.1 h.2.1 lo hi h.2.2.2.2.2.1
        rw [a1] at hc
        have hc := congrArg Prod.fst (Option.some.inj hc)
        have hdg := Tok_dig h.2.2.2.2.2.2.1
        by_cases hd : pX6_at r < l ∧ 48 ≤ v (pX6_at r) ∧ v (pX6_at r) ≤ 57
        · have hk := hdg.2 hd
          rw [if_pos hd] at hc
          by_cases hr : lo ≤ min (numR v l (pX6_at r)) 10000 ∧ min (numR v l (pX6_at r)) 10000 ≤ hi
          · exfalso
            rcases h.2.2.2.2.2.2.1 with ⟨t1, t2, t3⟩ | ⟨t1, t2, t3, t4⟩ | ⟨t1, t2, t3, t4, t5⟩ | ⟨t1, t2, t3, t4, t5⟩
            · omega
            · have := kw_b (v := v) (p := pX6_at r) (e := pX6_behind r); omega
            · exact b2 ⟨hk, by omega, by omega⟩
            · rw [t5] at hk; split at hk <;> omega
          · rw [if_neg hr] at hc; exact hc
        · rw [if_neg hd] at hc; exact hc
  · obtain ⟨y', a1, a2, a3⟩ := b_num hn h lo hi
    exact ⟨0, y', _, r, a1, a2, Fq.rfl' r, .inr ⟨a3, h.2.2.2.2.1, rfl⟩⟩
theorem cb_t16 {n : Nat} (hn : 1000 ≤ n) {v : Int → Int} {l : Int} {y : BX4} {r : BX6} (h : BT v l y r) (b : BX2) : ∃ y', g_X4_readTrader_16 n y b = some (y', b) ∧ BT v l y' r := by
  obtain ⟨y1, a1, b1, _⟩ := cb_num hn h 0 7
  obtain ⟨y2, a2, b2⟩ := cb_need hn b1 (j := 5) (by omega)
  obtain ⟨y3, a3, b3, _⟩ := cb_num hn b2 1 3
  obtain ⟨y4, a4, b4⟩ := cb_need hn b3 (j := 6) (by omega)
  obtain ⟨y5, a5, b5, _⟩ := cb_num hn b4 1 9999
  obtain ⟨y6, a6, b6, _⟩ := cb_word hn b5 (j := 7) (by omega)
  have h2 := b6.2.1
  unfold g_X4_readTrader_16
  rw [a1, oB2_some, a2, oB_some, a3, oB2_some, a4, oB_some, a5, oB2_some, a6, oB2_some, if_neg (by omega)]
  exact ⟨y6, rfl, b6⟩
theorem p_trader {n : Nat} (hn : 1000 ≤ n) {v : Int → Int} {l : Int} {y : BX4} {r : BX6} {b : BX2} (h : GT v l y r) (hM : MF b (pX6_fresh r) (pX4_rowsRead y)) (hk : pX6_kind r = 1) : ∃ y1 y' b' r', g_X4_takesWord n y 1 = some (1, y1) ∧ g_X4_readTrader n y1 b (pX6_at r) = some (y', b') ∧ g_X6_readsTrader n r = some r' ∧ Fz r r' ∧ Out v l (pX4_position y) y' b' r' := by
  obtain ⟨y1, r1, a1, a2, a3, a4, a5, a6, a7⟩ := p_took hn h (j := 1) (by omega) (by rw [hk]; decide)
  have hT := hM.1.s.tra
  have hf74 : pX6_fresh r 74 = pX2_traders b := hM.2.1.tra
  have hfr1 : pX6_fresh r1 = pX6_fresh r := a4.2.2.2.2.2.2.2.2
  have hw := h.2.2.2.1
  refine ⟨y1, ?_⟩
  unfold g_X4_readTrader g_X6_readsTrader g_X6_readsTrader_20
  rw [qA_ok (by omega) (by omega) (by omega), oL_def, hf74]
  by_cases h8 : pX2_traders b < 8
  · obtain ⟨c1, z1, w1, s1, d1, e1, f1, g1⟩ := q_num hn (.inl a3) (lo := 0) (hi := 7) (by omega) (by omega)
    have P1 : Pr v l z1 s1 := by rcases g1 with g | g; exact .inl g.2.1; exact .inr g.1
    obtain ⟨z2, s2, d2, e2, f2, g2⟩ := p_need hn P1 (j := 5) (by omega)
    have P2 : Pr v l z2 s2 := by rcases g2 with g | g; exact .inl g.2.1; exact .inr g
    obtain ⟨c3, z3, w3', s3, d3, e3, f3, g3⟩ := q_num hn P2 (lo := 1) (hi := 3) (by omega) (by omega)
    have P3 : Pr v l z3 s3 := by rcases g3 with g | g; exact .inl g.2.1; exact .inr g.1
    obtain ⟨z4, s4, d4, e4, f4, g4⟩ := p_need hn P3 (j := 6) (by omega)
    have P4 : Pr v l z4 s4 := by rcases g4 with g | g; exact .inl g.2.1; exact .inr g
    obtain ⟨c5, z5, w5, s5, d5, e5, f5, g5⟩ := q_num hn P4 (lo := 1) (hi := 9999) (by omega) (by omega)
    have hk2 : ((cmp.getD 5 0 : Nat) : Int) = 2 := by decide
    have hk3 : ((cmp.getD 6 0 : Nat) : Int) = 3 := by decide
    rw [hk2] at e2
    rw [hk3] at e4
    have hF5 : Fq r s5 := ((((a4.trans f1).trans f2).trans f3).trans f4).trans f5
    rw [if_pos h8, if_neg (by omega), if_pos hw, a2, oB_some, e1, oB2_some, e2, oB_some, e3, oB2_some, e4, oB_some, e5, oB2_some]
    unfold g_X4_readTrader_16
    rw [d1, oB2_some, d2, oB_some, d3, oB2_some, d4, oB_some, d5, oB2_some]
    rcases g5 with ⟨k1, k2, k3, k4, k5, k6⟩ | ⟨k1, _, _⟩
    · rcases g4 with ⟨m1, m2, m3, m4⟩ | m1
      · rcases g3 with ⟨o1, o2, o3, o4, o5, o6⟩ | ⟨o1, _, _⟩
        · rcases g2 with ⟨q1, q2, q3, q4⟩ | q1
          · rcases g1 with ⟨t1, t2, t3, t4, t5, t6⟩ | ⟨t1, _, _⟩
            · have hf5 : pX6_fresh s5 = pX6_fresh r := hF5.2.2.2.2.2.2.2.2
              have hw5 := k2.2.2.2.1
              rw [if_pos hw5, hf5, qA_ok (by omega) (by omega) (by omega), oL_def, qA_ok (by omega) (by omega) (by omega), oL_def, qA_ok (by omega) (by omega) (by omega), oL_def]
              obtain ⟨z6, s6, p1, p2, p3, p4, p5, p6⟩ := p_word hn (GT_fresh k2 (updZ (updZ (updZ (pX6_fresh r) (75 + pX2_traders b) w1) (83 + pX2_traders b) w3') (91 + pX2_traders b) w5)) (j := 7) (by omega)
              have hk4 : ((cmp.getD 7 0 : Nat) : Int) = 4 := by decide
              rw [hk4] at p1 p2
              have hf6 : pX6_fresh s6 = updZ (updZ (updZ (pX6_fresh r) (75 + pX2_traders b) w1) (83 + pX2_traders b) w3') (91 + pX2_traders b) w5 := by rw [p4.2.2.2.2.2.2.2.2, eX6_fresh_fresh]
              rw [p2, oB2_some, p1, oB2_some, p3.2.1, if_pos rfl]
              have hz01 := zB_01 (pX6_kind (sX6_fresh s5 (updZ (updZ (updZ (pX6_fresh r) (75 + pX2_traders b) w1) (83 + pX2_traders b) w3') (91 + pX2_traders b) w5)) = 4)
              generalize zB (pX6_kind (sX6_fresh s5 (updZ (updZ (updZ (pX6_fresh r) (75 + pX2_traders b) w1) (83 + pX2_traders b) w3') (91 + pX2_traders b) w5)) = 4) = z at hz01
              rw [s_X2_enrol hM.1.s hz01 h8, oB_some]
              have h127 : ∀ zz, zz = z → oR (99 + pX2_traders b) (g_X6_readsTrader_127 n (99 + pX2_traders b) zz s6) = some (sX6_fresh s6 (fEnr (pX6_fresh r) (pX2_traders b) w1 w3' w5 z)) := by
                intro zz hzz
                unfold g_X6_readsTrader_127
                rw [hzz, oR_ok (by omega) (by omega), qA_ok (by omega) (by omega) (by omega), oL_def, qA_ok (by omega) (by omega) (by omega), qA_ok (by omega) (by omega) (by omega), hf6, updZ_ne (v := updZ (updZ (updZ (pX6_fresh r) (75 + pX2_traders b) w1) (83 + pX2_traders b) w3') (91 + pX2_traders b) w5) (by omega), updZ_ne (v := updZ (updZ (pX6_fresh r) (75 + pX2_traders b) w1) (83 + pX2_traders b) w3') (by omega), updZ_ne (v := updZ (pX6_fresh r) (75 + pX2_traders b) w1) (by omega), updZ_ne (v := pX6_fresh r) (by omega), hf74, oR_ok (by omega) (by omega), oL_def]
                rfl
              have hR : (if z = 0 then oR (99 + pX2_traders b) (g_X6_readsTrader_127 n (99 + pX2_traders b) 0 s6) else oR (99 + pX2_traders b) (g_X6_readsTrader_127 n (99 + pX2_traders b) 1 s6)) = some (sX6_fresh s6 (fEnr (pX6_fresh r) (pX2_traders b) w1 w3' w5 z)) := by
                rcases hz01 with e | e
                · rw [if_pos e]; exact h127 0 e.symm
                · rw [if_neg (by omega)]; exact h127 1 e.symm
              rw [hR]
              have hrr : pX4_rowsRead z6 = pX4_rowsRead y := by rw [p5, k5, m3, o5, q3, t5, a5]
              refine ⟨z6, _, _, a1, rfl, rfl, ((hF5.fz.trans (Fz.fresh _ _)).trans p4.fz).trans (Fz.fresh _ _), .inl ⟨GT_fresh p3 _, ?_, by omega⟩⟩
              rw [eX6_fresh_fresh, hrr, ← t3, ← o3, ← k3]
              exact MF_enr hM h8 t4 o4 k4 hz01
            · exact (GT_BT q1 t1).elim
          · exact (GT_BT o1 q1).elim
        · exact (GT_BT m1 o1).elim
      · exact (GT_BT k1 m1).elim
    · obtain ⟨z6, p1, p2, _⟩ := cb_word hn k1 (j := 7) (by omega)
      have hb6 := p2.2.1
      have hw5 : ¬ pX6_wrong s5 = 0 := by have := k1.2.1; have := k1.2.2.1; omega
      rw [if_neg hw5, p1, oB2_some, if_neg (by omega)]
      exact ⟨z6, b, s5, a1, rfl, rfl, hF5.fz, .inr ⟨p2, hM.1.w⟩⟩
  · have hB := a7 (-4) (by omega) (by omega)
    have hww : pX6_wrong (rFl r (-4)) = -4 := by unfold rFl; rw [eX6_wrong_wrongAt, eX6_wrong_wrong]
    obtain ⟨y', q1, q2⟩ := cb_t16 hn hB b
    rw [if_neg h8, s_fail, oB_some, a3.2.1, if_pos rfl, q1, if_pos (by omega), s_rFails, oB_some, if_pos hw, hww, if_neg (by omega)]
    exact ⟨y', b, _, a1, rfl, rfl, (rFl_fq r _).fz, .inr ⟨q2, hM.1.w⟩⟩
theorem p_tail {n : Nat} (hn : 1000 ≤ n) {v : Int → Int} {l p0 : Int} {y : BX4} {r : BX6} {b : BX2} (h : Out v l p0 y b r) : ∃ y' r', g_X4_readStatement_87 n y b = some (y', b) ∧ g_X6_readsStatement_106 n r = some r' ∧ Fz r r' ∧ Out v l (p0 + 1) y' b r' := by
  unfold g_X4_readStatement_87 g_X6_readsStatement_106
  have hp : Pr v l y r := by rcases h with h | h; exact .inl h.1; exact .inr h.1
  obtain ⟨y', r', a1, a2, a3, a4⟩ := p_semi hn hp
  rw [a1, a2, oB_some, oB_some]
  refine ⟨y', r', rfl, rfl, a3.fz, ?_⟩
  rcases a4 with ⟨b1, b2, b3, b4⟩ | b1
  · rcases h with ⟨h1, h2, h3⟩ | ⟨h1, _⟩
    · refine .inl ⟨b2, ?_, by omega⟩
      rw [b3, a3.2.2.2.2.2.2.2.2]; exact h2
    · exact (GT_BT b1 h1).elim
  · refine .inr ⟨b1, ?_⟩
    rcases h with ⟨_, h2, _⟩ | ⟨_, h2⟩
    · exact h2.1.w
    · exact h2
theorem Out_fz {v : Int → Int} {l p0 : Int} {y : BX4} {r : BX6} {b : BX2} (h : Out v l p0 y b r) {q0 : Int} (hq : q0 ≤ p0) : Out v l q0 y b r := by
  rcases h with ⟨h1, h2, h3⟩ | h
  · exact .inl ⟨h1, h2, by omega⟩
  · exact .inr h
