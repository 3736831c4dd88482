/-! plan: what it leaves is what a planner holds of its street. -/
theorem s_X3_plan {n : Nat} (hn : 20000 ≤ n) {q : BX3} (hq : P3 q) {b : BX2} (hb : S2 b) (bb : Nat) (hbud : pSize b ≤ pX3_tableN q ∨ newN (pX3_tableN q) b ≤ (bb : Int)) : ∃ q', g_X3_plan n bb q b = some (0, q') ∧ Pq q' ∧ pX3_street q' = b ∧ pX3_tableN q' = newN (pX3_tableN q) b := by
  have ht := hb.tra
  have hp := hb.pit
  have sb := sets_b hb
  have kb := kinds_b hb
  have lb := lev_b hb
  have pb := pSize_b hb
  unfold g_X3_plan
  rw [s_X2_copyFrom (by omega) hq.1 hb, oB_some, oL_def]
  -- sorting
  have z1 : pX3_street (sX3_sets (sX3_street q b) (zShl 1 (pX2_traders b))) = b := by rw [eX3_street_sets, eX3_street_street]
  obtain ⟨q1, a1, a2, a3⟩ := s_X3_sortKinds (n := n) (by omega) (q := sX3_sets (sX3_street q b) (zShl 1 (pX2_traders b))) (by rw [z1]; exact hb)
  obtain ⟨r1, r2, r3, r4, r5, r6, r7, r8⟩ := a2
  rw [z1] at r1 a3
  have r3' : pX3_tableN q1 = pX3_tableN q := by rw [r3, eX3_tableN_sets, eX3_tableN_street]
  have r4' : pX3_sets q1 = zShl 1 (pX2_traders b) := by rw [r4, eX3_sets_sets]
  obtain ⟨k1, k2, k3⟩ := a3
  rw [r1] at k1 k2 k3
  rw [a1, oB_some]
  -- measuring
  obtain ⟨q2, m1, m2, m3⟩ := s_X3_measureBlocks (n := n) (by omega) (q := q1) (by rw [r1]; exact hb)
  obtain ⟨s1, s2, s3, s4, s5, s6, s7⟩ := m2
  rw [r1] at m1 m3 s1
  rw [m1, oB_some]
  have e1 : pX3_street (sX3_levels q2 (sLev b)) = b := by rw [eX3_street_levels]; exact s1
  have e2 : pX3_sets (sX3_levels q2 (sLev b)) = zShl 1 (pX2_traders b) := by rw [eX3_sets_levels, s4, r4']
  have e3 : pX3_kinds (sX3_levels q2 (sLev b)) = ((kAll b).length : Int) := by rw [eX3_kinds_levels, s5, k1]; rfl
  have e4 : pX3_levels (sX3_levels q2 (sLev b)) = sLev b := eX3_levels_levels _ _
  have e5 : pX3_tableN (sX3_levels q2 (sLev b)) = pX3_tableN q := by rw [eX3_tableN_levels, s3, r3']
  have eS : (pX2_pitches (pX3_street (sX3_levels q2 (sLev b))) + 1) * pX3_sets (sX3_levels q2 (sLev b)) * pX3_kinds (sX3_levels q2 (sLev b)) * pX3_levels (sX3_levels q2 (sLev b)) = pSize b := by rw [e1, e2, e3, e4]; rfl
  rw [eS, oR_ok (by omega) (by omega)]
  -- room
  have hN := hq.2
  obtain ⟨q4, v, w1, w2⟩ := s_X3_makeRoom (q := sX3_levels q2 (sLev b)) (s := pSize b) bb (by rw [e5]; exact hN) pb (by
    rw [e5]
    rcases hbud with h | h
    · exact .inl h
    · unfold newN at h
      by_cases h2 : pSize b ≤ pX3_tableN q
      · exact .inl h2
      · rw [if_neg h2] at h; exact .inr h)
  rw [e5] at w2
  rw [w1, oB2_some, if_pos rfl]
  have hNN : pSize b ≤ newN (pX3_tableN q) b ∧ newN (pX3_tableN q) b ≤ 345600 ∧ 1024 ≤ newN (pX3_tableN q) b := by
    unfold newN; split <;> omega
  have f1 : pX3_street q4 = b := by rw [w2, eX3_street_tableN, eX3_street_table]; exact e1
  have f2 : pX3_sets q4 = zShl 1 (pX2_traders b) := by rw [w2, eX3_sets_tableN, eX3_sets_table]; exact e2
  have f3 : pX3_kinds q4 = ((kAll b).length : Int) := by rw [w2, eX3_kinds_tableN, eX3_kinds_table]; exact e3
  have f4 : pX3_levels q4 = sLev b := by rw [w2, eX3_levels_tableN, eX3_levels_table]; exact e4
  have f5 : pX3_tableN q4 = newN (pX3_tableN q) b := by rw [w2, eX3_tableN_tableN]; rfl
  have f6 : pX3_worths q4 = pX3_worths q2 := by rw [w2, eX3_worths_tableN, eX3_worths_table, eX3_worths_levels]
  have f7 : pX3_needs q4 = pX3_needs q2 := by rw [w2, eX3_needs_tableN, eX3_needs_table, eX3_needs_levels]
  have f8 : pX3_kindsBehind q4 = pX3_kindsBehind q2 := by rw [w2, eX3_kindsBehind_tableN, eX3_kindsBehind_table, eX3_kindsBehind_levels]
  have f9 : pX3_kindOf q4 = pX3_kindOf q1 := by rw [w2, eX3_kindOf_tableN, eX3_kindOf_table, eX3_kindOf_levels, s6]
  have f10 : pX3_barred q4 = pX3_barred q1 := by rw [w2, eX3_barred_tableN, eX3_barred_table, eX3_barred_levels, s7]
  have hTq : Tq q4 := by
    unfold Tq
    rw [f1, f2, f3, f4, f5]
    exact ⟨hb, sb, kb, lb, hNN.1, hNN.2.1⟩
  have hkind : ∀ t, 0 ≤ t → t < pX2_traders b → (0 ≤ pX3_kindOf q1 t ∧ pX3_kindOf q1 t < ((kAll b).length : Int)) ∧ pX3_kindOf q1 t = ((kAll b).idxOf (foeV b t) : Int) ∧ pX3_barred q1 (pX3_kindOf q1 t) = foeV b t := by
    intro t t0 t1
    have h := k3 t.toNat (by omega)
    have et : ((t.toNat : Nat) : Int) = t := by omega
    rw [et] at h
    have hlt := List.idxOf_lt_length_iff.2 h.1
    have h2 : pX3_kindOf q1 t = ((kAll b).idxOf (foeV b t) : Int) := h.2
    have hlt2 : (kAll b).idxOf (foeV b t) < (kAll b).length := hlt
    refine ⟨by rw [h2]; omega, h2, ?_⟩
    rw [h2, k2 _ hlt2]
    exact ix_at _ _ h.1
  have hAq : Aq q4 := by
    refine ⟨hTq, by rw [f1, f2], ?_, ?_, ?_⟩
    · rw [f1]
      intro t p t0 t1 p0 p1
      have h := m3 t p t0 (by rw [s1]; exact t1) p0 (by rw [s1]; exact p1) (by omega)
      unfold Bk at h ⊢
      rw [s1, s6] at h
      rw [f1, f6, f7, f8, f9]
      exact h
    · rw [f10]
      have := k2 0 (by have := kList_len b (pX2_traders b).toNat; omega)
      rw [kList_0] at this
      exact this
    · rw [f1, f3, f9, f10]
      intro t t0 t1
      have := hkind t t0 t1
      exact ⟨this.1, this.2.2⟩
  -- the last row is 0
  rw [s_X3_cell hTq (by rw [f1]; omega) (by rw [f2]; omega) (by rw [f3]; omega), oB_some]
  have hE0 := hTq.ix (p := pX2_pitches (pX3_street q4)) (g := 0) (k := 0) (l := 0) (by rw [f1]; omega) (by rw [f2]; omega) (by rw [f3]; omega) (by rw [f4]; omega)
  unfold tix at hE0
  have hEN : ((pX2_pitches (pX3_street q4) * pX3_sets q4 + 0) * pX3_kinds q4 + 0) * pX3_levels q4 + pX3_sets q4 * pX3_kinds q4 * pX3_levels q4 = (pX2_pitches (pX3_street q4) + 1) * pX3_sets q4 * pX3_kinds q4 * pX3_levels q4 := by
    simp only [Int.add_mul, Int.add_zero, Int.one_mul]
  have hSz : (pX2_pitches (pX3_street q4) + 1) * pX3_sets q4 * pX3_kinds q4 * pX3_levels q4 = pSize b := by rw [f1, f2, f3, f4]; rfl
  have hskv : pX3_sets q4 * pX3_kinds q4 * pX3_levels q4 ≤ 256 * 9 * 6 := by
    rw [f2, f3, f4]
    have c1 : zShl 1 (pX2_traders b) * ((kAll b).length : Int) ≤ 256 * 9 := Int.mul_le_mul sb.2 kb.2 (by omega) (by omega)
    exact Int.mul_le_mul c1 lb.2 (by omega) (by omega)
  rw [s_X3_plan_73 n bb b n _ q4 hTq (by omega) (by rw [hEN, hSz, f5]; exact hNN.1) (Int.le_refl _) (by
    have : 0 ≤ pX3_sets q4 * pX3_kinds q4 * pX3_levels q4 := by rw [f2, f3, f4]; exact Int.mul_nonneg (Int.mul_nonneg (by omega) (by omega)) (by omega)
    omega) (by omega) (by omega)]
  have hR5 : Rt q4 (sX3_table q4 (fun j => if ((pX2_pitches (pX3_street q4) * pX3_sets q4 + 0) * pX3_kinds q4 + 0) * pX3_levels q4 ≤ j ∧ j < ((pX2_pitches (pX3_street q4) * pX3_sets q4 + 0) * pX3_kinds q4 + 0) * pX3_levels q4 + pX3_sets q4 * pX3_kinds q4 * pX3_levels q4 then 0 else pX3_table q4 j)) := ⟨_, rfl⟩
  obtain ⟨y1, y2, y3, y4, y5, y6, y7, y8, y9, y10⟩ := hR5.eqs
  obtain ⟨q', u1, u2, u3⟩ := s_X3_plan_116 n (by omega) bb b n (pX2_pitches (pX3_street q4) - 1) _ (hR5.aq hAq) (by rw [f1]; omega) (by rw [y1]; omega) (by rw [f1]; omega) (by
    intro p' g' c1 c2 c3 c4
    rw [y1] at c2
    rw [y3] at c4
    have hpP : p' = pX2_pitches (pX3_street q4) := by omega
    intro k l d1 d2 d3 d4
    rw [y4] at d2
    rw [y5] at d4
    rw [y1, y3, hpP, opt_end (Int.le_refl _)]
    unfold Tb
    rw [eX3_table_table, y4, y5]
    have hin := tix_b (K := pX3_kinds q4) (V := pX3_levels q4) (R := g') (k := k) (l := l) (N := pX3_sets q4) ⟨c3, c4⟩ ⟨d1, d2⟩ ⟨d3, d4⟩
    have hx : tix (pX3_kinds q4) (pX3_levels q4) (pX2_pitches (pX3_street q4) * pX3_sets q4 + g') k l = ((pX2_pitches (pX3_street q4) * pX3_sets q4 + 0) * pX3_kinds q4 + 0) * pX3_levels q4 + tix (pX3_kinds q4) (pX3_levels q4) g' k l := by
      unfold tix
      simp only [Int.add_mul, Int.add_zero]
      omega
    rw [hx, if_pos (by omega)])
  rw [y1, y3] at u3
  have hfin := hR5.trans u2
  obtain ⟨x1, x2, x3, x4, x5, x6, x7, x8, x9, x10⟩ := hfin.eqs
  refine ⟨q', u1, ?_, by rw [x1, f1], by rw [x2, f5]⟩
  unfold Pq P3
  rw [x1, x2, x3, x4, x5, x6, x7, x8, x9, x10, f1, f2, f3, f4, f5, f6, f7, f8, f9, f10]
  refine ⟨⟨hb, hNN.2.2, hNN.2.1⟩, rfl, rfl, rfl, hNN.1, ?_, ?_, ?_, ?_⟩
  · intro i hi; exact k2 i (by have : (kAll b).length = (kList b (pX2_traders b).toNat).length := rfl; omega)
  · intro t t0 t1
    have := hkind t t0 t1
    exact ⟨this.1.1, this.1.2, this.2.1⟩
  · intro t p t0 t1 p0 p1
    have h := m3 t p t0 (by rw [s1]; exact t1) p0 (by rw [s1]; exact p1) (by omega)
    unfold Bk at h
    rw [s1, s6] at h
    exact h
  · intro p g k l p0 p1 g0 g1 k0 k1' l0 l1
    have h := u3 p g p0 (by rw [f1]; exact p1) g0 (by rw [f2]; exact g1) k l k0 (by rw [x4, f3]; exact k1') l0 (by rw [x5, f4]; exact l1)
    unfold Tb tix at h
    rw [x1, x3, x4, x5, x10, f1, f2, f3, f4, f10] at h
    exact h
