/-! Both readers: a statement, the text. -/
theorem p_stmt {n : Nat} (hn : 1000 ≤ n) {v : Int → Int} {l : Int} {y : BX4} {r : BX6} {b : BX2} (h : GT v l y r) (hM : MF b (pX6_fresh r) (pX4_rowsRead y)) (hpos : pX4_position y = pX6_at r) : ∃ y' b' r', g_X4_readStatement n y b = some (y', b') ∧ g_X6_readsStatement n r = some r' ∧ Fz r r' ∧ Out v l (pX4_position y + 1) y' b' r' := by
  have hw := h.2.2.2.1
  have hid : sX4_position y (pX6_at r) = y := by rw [← hpos]; exact iX4_position y
  have c0 : ((cmp.getD 0 0 : Nat) : Int) = 0 := by decide
  have c1 : ((cmp.getD 1 0 : Nat) : Int) = 1 := by decide
  have c2 : ((cmp.getD 2 0 : Nat) : Int) = 5 := by decide
  have c3 : ((cmp.getD 3 0 : Nat) : Int) = 6 := by decide
  unfold g_X4_readStatement g_X6_readsStatement g_X6_readsStatement_71
  rw [s_is 0 hw, oB_some, hpos]
  by_cases k0 : pX6_kind r = 0
  · obtain ⟨y1, y2, b2, r2, q1, q2, q3, q4, q5⟩ := p_row hn h hM k0
    obtain ⟨y3, r3, t1, t2, t3, t4⟩ := p_tail hn q5
    rw [q1, oB2_some, if_neg (c := (1 : Int) = 0) (by omega), q2, oB2_some, t1, zB_pos k0, if_neg (c := (1 : Int) = 0) (by omega), q3, oB_some, t2]
    rw [← hpos]
    exact ⟨y3, b2, r3, rfl, rfl, q4.trans t3, t4⟩
  · have w0 := p_not hn h (j := 0) (by omega) (by rw [c0]; exact k0)
    rw [hid] at w0
    rw [w0, oB2_some, if_pos (c := (0 : Int) = 0) rfl, zB_neg k0, if_pos (c := (0 : Int) = 0) rfl, s_is 1 hw, oB_some]
    by_cases k1 : pX6_kind r = 1
    · obtain ⟨y1, y2, b2, r2, q1, q2, q3, q4, q5⟩ := p_trader hn h hM k1
      obtain ⟨y3, r3, t1, t2, t3, t4⟩ := p_tail hn q5
      rw [q1, oB2_some, if_neg (c := (1 : Int) = 0) (by omega), q2, oB2_some, t1, zB_pos k1, if_neg (c := (1 : Int) = 0) (by omega), q3, oB_some, t2]
      rw [← hpos]
      exact ⟨y3, b2, r3, rfl, rfl, q4.trans t3, t4⟩
    · have w1 := p_not hn h (j := 1) (by omega) (by rw [c1]; exact k1)
      rw [hid] at w1
      rw [w1, oB2_some, if_pos (c := (0 : Int) = 0) rfl, zB_neg k1, if_pos (c := (0 : Int) = 0) rfl]
      by_cases k2 : pX6_kind r = 5
      · obtain ⟨y1, r1, a1, a2, a3, a4, a5, a6⟩ := p_word hn h (j := 2) (by omega)
        rw [c2, zB_pos k2] at a1 a2
        rw [a1, a2, oB2_some, oB2_some, if_neg (c := (1 : Int) = 0) (by omega), if_neg (c := (1 : Int) = 0) (by omega)]
        obtain ⟨m1, z1, w1', s1, d1, e1, f1, g1⟩ := q_num hn (.inl a3) (lo := 0) (hi := 7) (by omega) (by omega)
        have P1 : Pr v l z1 s1 := by rcases g1 with g | g; exact .inl g.2.1; exact .inr g.1
        obtain ⟨m2, z2, w2, s2, d2, e2, f2, g2⟩ := q_num hn P1 (lo := 0) (hi := 7) (by omega) (by omega)
        have hF : Fq r s2 := (a4.trans f1).trans f2
        unfold g_X4_readClash
        rw [d1, e1, oB2_some, oB2_some, d2, e2, oB2_some, oB2_some]
        rcases g2 with ⟨u1, u2, u3, u4, u5, u6⟩ | ⟨u1, u2, u3⟩
        · rcases g1 with ⟨x1, x2, x3, x4, x5, x6⟩ | ⟨x1, _, _⟩
          · have hfr : pX6_fresh s2 = pX6_fresh r := hF.2.2.2.2.2.2.2.2
            rw [u2.2.1, if_pos (c := (0 : Int) = 0) rfl, s_X2_putClash _ _ x4.1 (by omega) u4.1 (by omega), oB_some, oB2_some, u2.2.2.2.1, if_pos (c := (0 : Int) = 0) rfl, hfr, s_X6_clashes _ _ (by omega) (by omega) (by omega) (by omega), oB_some]
            have hm := MF_put hM x4.1 x4.2 u4.1 u4.2
            have hout : Out v l (pX4_position y) z2 (mPut b m1 m2 1) (sX6_fresh s2 (aPut (pX6_fresh r) w1' w2 1)) := by
              refine .inl ⟨GT_fresh u2 _, ?_, by omega⟩
              rw [eX6_fresh_fresh, u5, x5, a5, ← x3, ← u3]; exact hm
            obtain ⟨y3, r3, t1, t2, t3, t4⟩ := p_tail hn hout
            rw [t1, t2, ← hpos]
            exact ⟨y3, _, r3, rfl, rfl, (hF.fz.trans (Fz.fresh _ _)).trans t3, t4⟩
          · exact (GT_BT u1 x1).elim
        · have he := u1.2.1
          have hw2 : ¬ pX6_wrong s2 = 0 := by have := u1.2.2.1; omega
          obtain ⟨y3, r3, t1, t2, t3, t4⟩ := p_tail hn (p0 := pX4_position y) (b := b) (.inr ⟨u1, hM.1.w⟩)
          rw [if_neg (c := pX4_error z2 = 0) (by omega), oB2_some, t1, if_neg hw2, t2, ← hpos]
          exact ⟨y3, b, r3, rfl, rfl, hF.fz.trans t3, t4⟩
      · have w2 := p_not hn h (j := 2) (by omega) (by rw [c2]; exact k2)
        rw [hid] at w2
        have e5 : g_X6_eats n r 5 = some (0, r) := by unfold g_X6_eats; rw [s_is 5 hw, oB_some, zB_neg k2, if_pos rfl]
        rw [w2, e5, oB2_some, oB2_some, if_pos (c := (0 : Int) = 0) rfl, if_pos (c := (0 : Int) = 0) rfl]
        by_cases k3 : pX6_kind r = 6
        · obtain ⟨y1, r1, a1, a2, a3, a4, a5, a6⟩ := p_word hn h (j := 3) (by omega)
          rw [c3, zB_pos k3] at a1 a2
          rw [a1, a2, oB2_some, oB2_some, if_neg (c := (1 : Int) = 0) (by omega), if_neg (c := (1 : Int) = 0) (by omega)]
          obtain ⟨m1, z1, w1', s1, d1, e1, f1, g1⟩ := q_num hn (.inl a3) (lo := 0) (hi := 4) (by omega) (by omega)
          have hF : Fq r s1 := a4.trans f1
          have hfr : pX6_fresh s1 = pX6_fresh r := hF.2.2.2.2.2.2.2.2
          rw [d1, e1, oB2_some, oB2_some, qA_ok (by omega) (by omega) (by omega), oL_def, hfr]
          have hout : Out v l (pX4_position y) z1 (sX2_covers b m1) (sX6_fresh s1 (updZ (pX6_fresh r) 179 w1')) := by
            rcases g1 with ⟨x1, x2, x3, x4, x5, x6⟩ | ⟨x1, x2, x3⟩
            · refine .inl ⟨GT_fresh x2 _, ?_, by omega⟩
              rw [eX6_fresh_fresh, x5, a5, ← x3]; exact MF_cov hM x4.1 x4.2
            · rw [x3]
              exact .inr ⟨BT_fresh x1 _, (MF_cov hM (c := 0) (by omega) (by omega)).1.w⟩
          obtain ⟨y3, r3, t1, t2, t3, t4⟩ := p_tail hn hout
          rw [t1, t2, ← hpos]
          exact ⟨y3, _, r3, rfl, rfl, (hF.fz.trans (Fz.fresh _ _)).trans t3, t4⟩
        · have w3' := p_not hn h (j := 3) (by omega) (by rw [c3]; exact k3)
          rw [hid] at w3'
          have e6 : g_X6_eats n r 6 = some (0, r) := by unfold g_X6_eats; rw [s_is 6 hw, oB_some, zB_neg k3, if_pos rfl]
          have hB := GT_fail h (p := pX4_position y) (c := -2) h.1.2.2.1 h.1.2.2.2 (by omega) (by omega)
          rw [iX4_position] at hB
          obtain ⟨y3, r3, t1, t2, t3, t4⟩ := p_tail hn (p0 := pX4_position y) (b := b) (.inr ⟨hB, hM.1.w⟩)
          rw [w3', e6, oB2_some, oB2_some, if_pos (c := (0 : Int) = 0) rfl, if_pos (c := (0 : Int) = 0) rfl, s_fail, oB_some, if_pos h.2.1, t1, s_rFails, oB_some, if_pos hw, t2, ← hpos]
          exact ⟨y3, b, r3, rfl, rfl, (rFl_fq r _).fz.trans t3, t4⟩
theorem Tok_end {v : Int → Int} {l : Int} {r : BX6} (h : Tok v l r) : pX6_kind r = 11 ↔ l ≤ pX6_at r := by
  rcases h with ⟨a1, a2, a3⟩ | ⟨a1, a2, a3, a4⟩ | ⟨a1, a2, a3, a4, a5⟩ | ⟨a1, a2, a3, a4, a5⟩
  · exact ⟨fun _ => a1, fun _ => a2⟩
  · have := kw_b (v := v) (p := pX6_at r) (e := pX6_behind r)
    exact ⟨fun h => by omega, fun h => by omega⟩
  · exact ⟨fun h => by omega, fun h => by omega⟩
  · refine ⟨fun h => ?_, fun h => by omega⟩
    rw [a5] at h
    split at h <;> omega
theorem p_loop {n : Nat} (hn : 1000 ≤ n) {v : Int → Int} {l : Int} (hl : 0 ≤ l ∧ l ≤ 600) (src : Int → Int) : ∀ (fu fv : Nat) (k : Int) (y : BX4) (r : BX6) (b : BX2), 0 ≤ k → k ≤ pX4_position y → l - pX4_position y < fu → l - pX4_position y < fv → GT v l y r → MF b (pX6_fresh r) (pX4_rowsRead y) →
    ∃ ans k' y' b' r', g_X4_read_42 n fu k y src b = some (ans, y', b') ∧ g_X6_load_98 n fv k r = g_X6_load_124 n k' r' ∧ Fz r r' ∧ ((GT v l y' r' ∧ MF b' (pX6_fresh r') (pX4_rowsRead y') ∧ ans = k' ∧ 0 ≤ ans ∧ ans ≤ 600) ∨ (BT v l y' r' ∧ W2 b' ∧ ans = pX4_error y')) := by
  intro fu
  induction fu with
  | zero => intro fv k y r b k0 k1 h1 h2 h; have := h.1.2.2; omega
  | succ fu ih =>
    intro fv k y r b k0 k1 h1 h2 h hM
    have hp := h.1.2.2
    cases fv with
    | zero => omega
    | succ fv =>
      have hs := GT_skip h
      have ha := h.at0
      have hte := Tok_end h.2.2.2.2.2.2.1
      rw [g_X4_read_42.eq_2, g_X6_load_98.eq_2, if_neg (c := (600 : Int) < k) (by omega), s_skip hn hl h.1, oB_some, ← h.2.2.2.2.2.1, hs.2, hs.1.1.2.1, if_pos h.2.2.2.1]
      by_cases hc : pX6_at r < l
      · rw [if_pos hc, if_neg (c := pX6_kind r = 11) (fun x => by have := hte.1 x; omega)]
        obtain ⟨y1, b1, r1, q1, q2, q3, q4⟩ := p_stmt hn hs.1 (b := b) (by rw [eX4_rowsRead_position]; exact hM) hs.2
        rw [q1, oB2_some, q2, oB_some, oR_ok (by omega) (by omega)]
        rcases q4 with ⟨t1, t2, t3⟩ | ⟨t1, t2⟩
        · rw [hs.2] at t3
          obtain ⟨ans, k', y', b', r', i1, i2, i3, i4⟩ := ih fv (k + 1) y1 r1 b1 (by omega) (by omega) (by omega) (by omega) t1 t2
          rw [t1.2.1, if_pos (c := (0 : Int) = 0) rfl, oR_ok (by omega) (by omega), i1, i2]
          exact ⟨ans, k', y', b', r', rfl, rfl, q3.trans i3, i4⟩
        · have he := t1.2.1
          have hw1 : ¬ pX6_wrong r1 = 0 := by have := t1.2.2.1; omega
          rw [if_neg (c := pX4_error y1 = 0) (by omega)]
          cases fv with
          | zero => omega
          | succ fv =>
            rw [g_X6_load_98.eq_2, if_neg hw1, oR_ok (by omega) (by omega)]
            exact ⟨_, _, _, _, _, rfl, rfl, q3, .inr ⟨t1, t2, rfl⟩⟩
      · rw [if_neg hc, if_pos (c := pX6_kind r = 11) (hte.2 (by omega))]
        exact ⟨_, _, _, _, _, rfl, rfl, Fz.rfl' r, .inl ⟨hs.1, by rw [eX4_rowsRead_position]; exact hM, rfl, k0, by omega⟩⟩
theorem s_load161 (n : Nat) (r : BX6) (k : Int) (a : Int → Int) : ∀ (fu : Nat) (x : Int), 0 ≤ x → x ≤ 180 → 180 - x < fu → g_X6_load_161 n fu k x (sX6_a r (fun i => if 0 ≤ i ∧ i < x then pX6_fresh r i else a i)) = some (k, sX6_a r (fun i => if 0 ≤ i ∧ i < 180 then pX6_fresh r i else a i)) := by
  intro fu
  induction fu with
  | zero => intro x _ _ h; omega
  | succ fu ih =>
    intro x x0 x1 hf
    rw [g_X6_load_161.eq_2, eX6_a_a, eX6_fresh_a]
    by_cases h : 180 ≤ x
    · rw [if_pos h, show x = 180 by omega]
    · rw [if_neg h, qA_ok (by omega) (by omega) (by omega), qA_ok (by omega) (by omega) (by omega), oL_def, oR_ok (by omega) (by omega), uX6_a]
      rw [← ih (x + 1) (by omega) (by omega) (by omega)]
      refine congrArg (fun z => g_X6_load_161 n fu k (x + 1) (sX6_a r z)) ?_
      funext i
      rw [updZ_app]
      by_cases h1 : i = x
      · rw [if_pos h1, if_pos (by omega), h1]
      · rw [if_neg h1]
        by_cases h2 : 0 ≤ i ∧ i < x
        · rw [if_pos h2, if_pos (by omega)]
        · rw [if_neg h2, if_neg (by omega)]
def fr0 (f : Int → Int) (x : Int) : Int → Int := fun i => if 0 ≤ i ∧ i < x then (if 107 ≤ i ∧ i ≤ 114 then -1 else 0) else f i
theorem s_load54 (n : Nat) (r : BX6) (f : Int → Int) : ∀ (fu : Nat) (x : Int), 0 ≤ x → x ≤ 180 → 180 - x < fu → g_X6_load_54 n fu x (sX6_fresh r (fr0 f x)) = oB (g_X6_next n (sX6_fresh r (fr0 f 180))) (fun b_111 => g_X6_load_98 n n 0 b_111) := by
  intro fu
  induction fu with
  | zero => intro x _ _ h; omega
  | succ fu ih =>
    intro x x0 x1 hf
    rw [g_X6_load_54.eq_2]
    by_cases h : 180 ≤ x
    · rw [if_pos h, show x = 180 by omega]
    · unfold g_X6_load_85
      have step : ∀ t, t = (if 107 ≤ x ∧ x ≤ 114 then (-1 : Int) else 0) → g_X6_load_54 n fu (x + 1) (sX6_fresh r (updZ (fr0 f x) x t)) = oB (g_X6_next n (sX6_fresh r (fr0 f 180))) (fun b_111 => g_X6_load_98 n n 0 b_111) := by
        intro t ht
        rw [← ih (x + 1) (by omega) (by omega) (by omega)]
        refine congrArg (fun z => g_X6_load_54 n fu (x + 1) (sX6_fresh r z)) ?_
        funext i
        rw [updZ_app]
        unfold fr0
        by_cases h1 : i = x
        · rw [if_pos h1, if_pos (c := 0 ≤ i ∧ i < x + 1) (by omega), h1, ht]
        · rw [if_neg h1]
          by_cases h2 : 0 ≤ i ∧ i < x
          · rw [if_pos h2, if_pos (c := 0 ≤ i ∧ i < x + 1) (by omega)]
          · rw [if_neg h2, if_neg (c := 0 ≤ i ∧ i < x + 1) (by omega)]
      rw [if_neg h, s_X6_isIn, oB_some, eX6_fresh_fresh]
      by_cases h1 : 107 ≤ x ∧ x ≤ 114
      · rw [zB_pos h1, if_neg (by omega), qA_ok (by omega) (by omega) (by omega), oL_def, oR_ok (by omega) (by omega), uX6_fresh]
        exact step (-1) (by rw [if_pos h1])
      · rw [zB_neg h1, if_pos rfl, qA_ok (by omega) (by omega) (by omega), oL_def, oR_ok (by omega) (by omega), uX6_fresh]
        exact step 0 (by rw [if_neg h1])
