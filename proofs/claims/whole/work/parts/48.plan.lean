/-! The whole table. -/
theorem RowOK_of {q q' : BX3} (h : Rt q q') {p g p' g' : Int} (hg : 0 ≤ g ∧ g < pX3_sets q) (hg' : 0 ≤ g' ∧ g' < pX3_sets q) (hne : ¬ (p' = p ∧ g' = g)) (hT : ∀ R' k' l', R' ≠ p * pX3_sets q + g → 0 ≤ k' → k' < pX3_kinds q → 0 ≤ l' → l' < pX3_levels q → Tb q' R' k' l' = Tb q R' k' l') (k : RowOK q p' g') : RowOK q' p' g' := by
  obtain ⟨f1, f2, f3, f4, f5, f6, f7, f8, f9, f10⟩ := h.eqs
  intro k' l' a b c d
  rw [f4] at b
  rw [f5] at d
  rw [f1, f3, f10, hT _ _ _ (row_ne hg' hg hne) a b c d]
  exact k k' l' a b c d
theorem s_X3_plan_123 (n : Nat) (hn : 100 ≤ n) (bb : Nat) (k116 : Int → BX3 → BX2 → Option (Nat × BX3)) (o : BX2) {p : Int} (p0 : 0 ≤ p) : ∀ (fu : Nat) (g : Int) (q : BX3), Aq q → p < pX2_pitches (pX3_street q) → 0 ≤ g → g ≤ pX3_sets q → 0 < fu → pX3_sets q - g < fu → (∀ p' g', p < p' → p' ≤ pX2_pitches (pX3_street q) → 0 ≤ g' → g' < pX3_sets q → RowOK q p' g') → (∀ g', 0 ≤ g' → g' < g → RowOK q p g') →
    ∃ q', g_X3_plan_123 n bb k116 fu p g q o = k116 (p - 1) q' o ∧ Rt q q' ∧ (∀ p' g', p ≤ p' → p' ≤ pX2_pitches (pX3_street q) → 0 ≤ g' → g' < pX3_sets q → RowOK q' p' g') := by
  intro fu
  induction fu with
  | zero => intro g q _ _ _ _ h0; omega
  | succ fu ih =>
    intro g q hq p1 g0 g1 _ hf hrow hdone
    have hs := hq.1.1
    have hp := hs.pit
    have hS := hq.1.2.1
    rw [g_X3_plan_123.eq_2]
    by_cases hc : pX3_sets q ≤ g
    · rw [if_pos hc, oR_ok (by omega) (by omega), show p + -1 = p - 1 by omega]
      refine ⟨q, rfl, Rt.rfl' q, fun p' g' a b c d => ?_⟩
      by_cases he : p' = p
      · rw [he]; exact hdone g' c (by omega)
      · exact hrow p' g' (by omega) b c d
    · obtain ⟨q1, j1, j2, j3, j4⟩ := s_X3_fill hn hq p0 p1 ⟨g0, by omega⟩ hrow
      obtain ⟨f1, f2, f3, f4, f5, f6, f7, f8, f9, f10⟩ := j2.eqs
      rw [if_neg hc, j1, oB_some, oR_ok (by omega) (by omega)]
      have := ih (g + 1) q1 (j2.aq hq) (by rw [f1]; exact p1) (by omega) (by rw [f3]; omega) (by omega) (by rw [f3]; omega) (by
        intro p' g' a b c d
        rw [f1] at b
        rw [f3] at d
        exact RowOK_of j2 ⟨g0, by omega⟩ ⟨c, d⟩ (by omega) j4 (hrow p' g' a b c d)) (by
        intro g' a b
        by_cases he : g' = g
        · rw [he]; exact j3
        · exact RowOK_of j2 ⟨g0, by omega⟩ ⟨a, by omega⟩ (by omega) j4 (hdone g' a (by omega)))
      rw [f1, f3] at this
      obtain ⟨q', l1, l2, l3⟩ := this
      exact ⟨q', l1, j2.trans l2, l3⟩
theorem s_X3_plan_116 (n : Nat) (hn : 1000 ≤ n) (bb : Nat) (o : BX2) : ∀ (fu : Nat) (p : Int) (q : BX3), Aq q → -1 ≤ p → p < pX2_pitches (pX3_street q) → p + 1 < fu → (∀ p' g', p < p' → p' ≤ pX2_pitches (pX3_street q) → 0 ≤ g' → g' < pX3_sets q → RowOK q p' g') →
    ∃ q', g_X3_plan_116 n bb fu p q o = some (0, q') ∧ Rt q q' ∧ (∀ p' g', 0 ≤ p' → p' ≤ pX2_pitches (pX3_street q) → 0 ≤ g' → g' < pX3_sets q → RowOK q' p' g') := by
  intro fu
  induction fu with
  | zero => intro p q _ h0 _ h1; omega
  | succ fu ih =>
    intro p q hq p0 p1 hf hrow
    have hS := hq.1.2.1
    rw [g_X3_plan_116.eq_2]
    by_cases hc : p < 0
    · rw [if_pos hc]
      exact ⟨q, rfl, Rt.rfl' q, fun p' g' a b c d => hrow p' g' (by omega) b c d⟩
    · obtain ⟨q1, j1, j2, j3⟩ := s_X3_plan_123 n (by omega) bb (g_X3_plan_116 n bb fu) o (by omega : 0 ≤ p) n 0 q hq p1 (by omega) (by omega) (by omega) (by omega) hrow (fun g' a b => by omega)
      obtain ⟨f1, f2, f3, f4, f5, f6, f7, f8, f9, f10⟩ := j2.eqs
      rw [if_neg hc, j1]
      have := ih (p - 1) q1 (j2.aq hq) (by omega) (by rw [f1]; omega) (by omega) (by
        intro p' g' a b c d
        rw [f1] at b
        rw [f3] at d
        exact j3 p' g' (by omega) b c d)
      rw [f1, f3] at this
      obtain ⟨q', l1, l2, l3⟩ := this
      exact ⟨q', l1, j2.trans l2, l3⟩
theorem s_X3_plan_73 (n : Nat) (bb : Nat) (o : BX2) {e : Int} : ∀ (fu : Nat) (i : Int) (q : BX3), Tq q → 0 ≤ e → e + pX3_sets q * pX3_kinds q * pX3_levels q ≤ pX3_tableN q → e ≤ i → i ≤ e + pX3_sets q * pX3_kinds q * pX3_levels q → 0 < fu → e + pX3_sets q * pX3_kinds q * pX3_levels q - i < fu →
    g_X3_plan_73 n bb fu e i q o = g_X3_plan_116 n bb n (pX2_pitches (pX3_street q) - 1) (sX3_table q (fun j => if i ≤ j ∧ j < e + pX3_sets q * pX3_kinds q * pX3_levels q then 0 else pX3_table q j)) o := by
  intro fu
  induction fu with
  | zero => intro i q _ _ _ _ _ h0; omega
  | succ fu ih =>
    intro i q hq e0 e1 i0 i1 _ hf
    have hN := hq.2.2.2.2.2
    have hp := hq.1.pit
    rw [g_X3_plan_73.eq_2, oR_ok (by omega) (by omega)]
    by_cases hc : e + pX3_sets q * pX3_kinds q * pX3_levels q ≤ i
    · rw [if_pos hc, oR_ok (by omega) (by omega), oL_def]
      have : (fun j => if i ≤ j ∧ j < e + pX3_sets q * pX3_kinds q * pX3_levels q then 0 else pX3_table q j) = pX3_table q := by
        funext j; rw [if_neg (by omega)]
      rw [this, iX3_table]
    · rw [if_neg hc, qA_ok (by omega) (by omega) (by omega), oL_def, oR_ok (by omega) (by omega)]
      have hR : Rt q (sX3_table q (updZ (pX3_table q) i 0)) := ⟨_, rfl⟩
      obtain ⟨f1, f2, f3, f4, f5, _⟩ := hR.eqs
      rw [ih (i + 1) _ (hR.tq hq) e0 (by rw [f2, f3, f4, f5]; exact e1) (by omega) (by rw [f3, f4, f5]; omega) (by omega) (by rw [f3, f4, f5]; omega), f1, f3, f4, f5, uX3_table, eX3_table_table]
      refine congrArg (fun z => g_X3_plan_116 n bb n (pX2_pitches (pX3_street q) - 1) (sX3_table q z) o) ?_
      funext j
      rw [updZ_app]
      by_cases h1 : j = i
      · rw [if_neg (by omega), if_pos h1, if_pos (by omega)]
      · rw [if_neg h1]
        by_cases h2 : i + 1 ≤ j ∧ j < e + pX3_sets q * pX3_kinds q * pX3_levels q
        · rw [if_pos h2, if_pos (by omega)]
        · rw [if_neg h2, if_neg (by omega)]
/-! the size of a market's table -/
noncomputable def pSize (b : BX2) : Int := (pX2_pitches b + 1) * zShl 1 (pX2_traders b) * ((kAll b).length : Int) * sLev b
theorem sets_b {b : BX2} (hb : S2 b) : 1 ≤ zShl 1 (pX2_traders b) ∧ zShl 1 (pX2_traders b) ≤ 256 := by
  have ht := hb.tra
  have h : pX2_traders b = 0 ∨ pX2_traders b = 1 ∨ pX2_traders b = 2 ∨ pX2_traders b = 3 ∨ pX2_traders b = 4 ∨ pX2_traders b = 5 ∨ pX2_traders b = 6 ∨ pX2_traders b = 7 ∨ pX2_traders b = 8 := by omega
  rcases h with h | h | h | h | h | h | h | h | h <;> rw [h] <;> decide
theorem kinds_b {b : BX2} (hb : S2 b) : 1 ≤ ((kAll b).length : Int) ∧ ((kAll b).length : Int) ≤ 9 := by
  have ht := hb.tra
  have := kList_len b (pX2_traders b).toNat
  unfold kAll
  omega
theorem lev_b {b : BX2} (hb : S2 b) : 1 ≤ sLev b ∧ sLev b ≤ 6 := by
  have ht := hb.tra
  have hc := hb.cov
  have := zr_bound (f := sNeed b) (a := 0) (b := pX2_traders b) (l := 0) (u := 3) ht.1 (fun i i0 i1 => sNeed_b hb i0 i1)
  unfold sLev
  omega
theorem pSize_b {b : BX2} (hb : S2 b) : 1 ≤ pSize b ∧ pSize b ≤ 345600 := by
  have hp := hb.pit
  have h1 := sets_b hb
  have h2 := kinds_b hb
  have h3 := lev_b hb
  unfold pSize
  have a1 : (pX2_pitches b + 1) * zShl 1 (pX2_traders b) ≤ 25 * 256 := Int.mul_le_mul (by omega) h1.2 (by omega) (by omega)
  have b1 : 1 * 1 ≤ (pX2_pitches b + 1) * zShl 1 (pX2_traders b) := Int.mul_le_mul (by omega) h1.1 (by omega) (by omega)
  have a2 : (pX2_pitches b + 1) * zShl 1 (pX2_traders b) * ((kAll b).length : Int) ≤ 6400 * 9 := Int.mul_le_mul (by omega) h2.2 (by omega) (by omega)
  have b2 : 1 * 1 ≤ (pX2_pitches b + 1) * zShl 1 (pX2_traders b) * ((kAll b).length : Int) := Int.mul_le_mul (by omega) h2.1 (by omega) (by omega)
  have a3 : (pX2_pitches b + 1) * zShl 1 (pX2_traders b) * ((kAll b).length : Int) * sLev b ≤ 57600 * 6 := Int.mul_le_mul (by omega) h3.2 (by omega) (by omega)
  have b3 : 1 * 1 ≤ (pX2_pitches b + 1) * zShl 1 (pX2_traders b) * ((kAll b).length : Int) * sLev b := Int.mul_le_mul (by omega) h3.1 (by omega) (by omega)
  omega
noncomputable def newN (N : Int) (b : BX2) : Int := if pSize b ≤ N then N else max (pSize b) (min (2 * N) 345600)
theorem s_X3_makeRoom {q : BX3} {s : Int} (bb : Nat) (h0 : 1024 ≤ pX3_tableN q ∧ pX3_tableN q ≤ 345600) (hs : 1 ≤ s ∧ s ≤ 345600) (hb : s ≤ pX3_tableN q ∨ max s (min (2 * pX3_tableN q) 345600) ≤ (bb : Int)) : ∃ q' v, g_X3_makeRoom bb q s = some (0, q') ∧ q' = sX3_tableN (sX3_table q v) (if s ≤ pX3_tableN q then pX3_tableN q else max s (min (2 * pX3_tableN q) 345600)) := by
  unfold g_X3_makeRoom
  rw [oR_ok (by omega) (by omega)]
  by_cases h : s ≤ pX3_tableN q
  · rw [if_pos h, if_pos h]
    exact ⟨_, pX3_table q, rfl, by rw [iX3_table, iX3_tableN]⟩
  · rw [if_neg h, if_neg h, oR_ok (by omega) (by omega), oL_def, oG_ok (by omega), oG_ok (by omega)]
    exact ⟨_, _, rfl, rfl⟩
