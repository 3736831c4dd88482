/-! The planner's table: places, and one row filled. -/
def tix (K V R k l : Int) : Int := (R * K + k) * V + l
theorem ma_inj {a b c d N : Int} (hb : 0 ≤ b ∧ b < N) (hd : 0 ≤ d ∧ d < N) (h : a * N + b = c * N + d) : a = c ∧ b = d := by
  have key : ∀ x y : Int, x < y → x * N + N ≤ y * N := by
    intro x y hxy
    have h1 : (x + 1) * N ≤ y * N := Int.mul_le_mul_of_nonneg_right (by omega) (by omega)
    rw [Int.add_mul, Int.one_mul] at h1
    exact h1
  by_cases h1 : a < c
  · have := key a c h1; omega
  · by_cases h2 : c < a
    · have := key c a h2; omega
    · have : a = c := by omega
      subst this
      exact ⟨rfl, by omega⟩
theorem tix_inj {K V R k l R' k' l' : Int} (hk : 0 ≤ k ∧ k < K) (hl : 0 ≤ l ∧ l < V) (hk' : 0 ≤ k' ∧ k' < K) (hl' : 0 ≤ l' ∧ l' < V) (h : tix K V R k l = tix K V R' k' l') : R = R' ∧ k = k' ∧ l = l' := by
  unfold tix at h
  obtain ⟨h1, h2⟩ := ma_inj hl hl' h
  obtain ⟨h3, h4⟩ := ma_inj hk hk' h1
  exact ⟨h3, h4, h2⟩
theorem tix_b {K V R k l N : Int} (hR : 0 ≤ R ∧ R < N) (hk : 0 ≤ k ∧ k < K) (hl : 0 ≤ l ∧ l < V) : 0 ≤ tix K V R k l ∧ tix K V R k l < N * K * V := by
  unfold tix
  have h1 : (R + 1) * K ≤ N * K := Int.mul_le_mul_of_nonneg_right (by omega) (by omega)
  rw [Int.add_mul, Int.one_mul] at h1
  have h2 : (R * K + k + 1) * V ≤ N * K * V := Int.mul_le_mul_of_nonneg_right (by omega) (by omega)
  rw [Int.add_mul (R * K + k), Int.one_mul] at h2
  have h3 : 0 ≤ R * K := Int.mul_nonneg (by omega) (by omega)
  have h4 : 0 ≤ (R * K + k) * V := Int.mul_nonneg (by omega) (by omega)
  omega
theorem tix_0 (K V R k l : Int) : (R * K + 0) * V + k * V + l = tix K V R k l := by
  unfold tix; rw [Int.add_zero, Int.add_mul]
/-! numbers of a planner that is being filled -/
def Tq (q : BX3) : Prop := S2 (pX3_street q) ∧ (1 ≤ pX3_sets q ∧ pX3_sets q ≤ 256) ∧ (1 ≤ pX3_kinds q ∧ pX3_kinds q ≤ 9) ∧ (1 ≤ pX3_levels q ∧ pX3_levels q ≤ 6) ∧ (pX2_pitches (pX3_street q) + 1) * pX3_sets q * pX3_kinds q * pX3_levels q ≤ pX3_tableN q ∧ pX3_tableN q ≤ 345600
theorem row_b {S p g P : Int} (hp : 0 ≤ p ∧ p ≤ P) (hg : 0 ≤ g ∧ g < S) : 0 ≤ p * S + g ∧ p * S + g < (P + 1) * S := by
  have h1 : p * S ≤ P * S := Int.mul_le_mul_of_nonneg_right (by omega) (by omega)
  have h2 : 0 ≤ p * S := Int.mul_nonneg (by omega) (by omega)
  rw [Int.add_mul, Int.one_mul]
  omega
theorem Tq.ix {q : BX3} (h : Tq q) {p g k l : Int} (hp : 0 ≤ p ∧ p ≤ pX2_pitches (pX3_street q)) (hg : 0 ≤ g ∧ g < pX3_sets q) (hk : 0 ≤ k ∧ k < pX3_kinds q) (hl : 0 ≤ l ∧ l < pX3_levels q) : 0 ≤ tix (pX3_kinds q) (pX3_levels q) (p * pX3_sets q + g) k l ∧ tix (pX3_kinds q) (pX3_levels q) (p * pX3_sets q + g) k l < pX3_tableN q := by
  have h1 := tix_b (row_b hp hg) hk hl
  have h2 := h.2.2.2.2.1
  omega
theorem s_X3_cell {q : BX3} (h : Tq q) {p g k : Int} (hp : 0 ≤ p ∧ p ≤ pX2_pitches (pX3_street q)) (hg : 0 ≤ g ∧ g < pX3_sets q) (hk : 0 ≤ k ∧ k < pX3_kinds q) : g_X3_cell q p g k = some (((p * pX3_sets q + g) * pX3_kinds q + k) * pX3_levels q) := by
  have h1 := h.ix hp hg hk (l := 0) ⟨by omega, by have := h.2.2.2.1; omega⟩
  unfold tix at h1
  have h2 := h.2.2.2.2.2
  unfold g_X3_cell
  rw [oR_ok (by omega) (by omega)]
/-! all but the table is as it was -/
def Rt (q q' : BX3) : Prop := ∃ v, q' = sX3_table q v
theorem Rt.rfl' (q : BX3) : Rt q q := ⟨pX3_table q, (iX3_table q).symm⟩
theorem Rt.trans {p q r : BX3} (h : Rt p q) (k : Rt q r) : Rt p r := by
  obtain ⟨v, rfl⟩ := h
  obtain ⟨w, rfl⟩ := k
  exact ⟨w, uX3_table _ _ _⟩
theorem Rt.eqs {q q' : BX3} (h : Rt q q') : pX3_street q' = pX3_street q ∧ pX3_tableN q' = pX3_tableN q ∧ pX3_sets q' = pX3_sets q ∧ pX3_kinds q' = pX3_kinds q ∧ pX3_levels q' = pX3_levels q ∧ pX3_worths q' = pX3_worths q ∧ pX3_needs q' = pX3_needs q ∧ pX3_kindsBehind q' = pX3_kindsBehind q ∧ pX3_kindOf q' = pX3_kindOf q ∧ pX3_barred q' = pX3_barred q := by
  obtain ⟨v, rfl⟩ := h
  refine ⟨?_, ?_, ?_, ?_, ?_, ?_, ?_, ?_, ?_, ?_⟩ <;> simp only [eX3_street_street, eX3_street_table, eX3_street_tableN, eX3_street_sets, eX3_street_kinds, eX3_street_levels, eX3_street_worths, eX3_street_needs, eX3_street_kindsBehind, eX3_street_kindOf, eX3_street_barred, eX3_table_street, eX3_table_table, eX3_table_tableN, eX3_table_sets, eX3_table_kinds, eX3_table_levels, eX3_table_worths, eX3_table_needs, eX3_table_kindsBehind, eX3_table_kindOf, eX3_table_barred, eX3_tableN_street, eX3_tableN_table, eX3_tableN_tableN, eX3_tableN_sets, eX3_tableN_kinds, eX3_tableN_levels, eX3_tableN_worths, eX3_tableN_needs, eX3_tableN_kindsBehind, eX3_tableN_kindOf, eX3_tableN_barred, eX3_sets_street, eX3_sets_table, eX3_sets_tableN, eX3_sets_sets, eX3_sets_kinds, eX3_sets_levels, eX3_sets_worths, eX3_sets_needs, eX3_sets_kindsBehind, eX3_sets_kindOf, eX3_sets_barred, eX3_kinds_street, eX3_kinds_table, eX3_kinds_tableN, eX3_kinds_sets, eX3_kinds_kinds, eX3_kinds_levels, eX3_kinds_worths, eX3_kinds_needs, eX3_kinds_kindsBehind, eX3_kinds_kindOf, eX3_kinds_barred, eX3_levels_street, eX3_levels_table, eX3_levels_tableN, eX3_levels_sets, eX3_levels_kinds, eX3_levels_levels, eX3_levels_worths, eX3_levels_needs, eX3_levels_kindsBehind, eX3_levels_kindOf, eX3_levels_barred, eX3_worths_street, eX3_worths_table, eX3_worths_tableN, eX3_worths_sets, eX3_worths_kinds, eX3_worths_levels, eX3_worths_worths, eX3_worths_needs, eX3_worths_kindsBehind, eX3_worths_kindOf, eX3_worths_barred, eX3_needs_street, eX3_needs_table, eX3_needs_tableN, eX3_needs_sets, eX3_needs_kinds, eX3_needs_levels, eX3_needs_worths, eX3_needs_needs, eX3_needs_kindsBehind, eX3_needs_kindOf, eX3_needs_barred, eX3_kindsBehind_street, eX3_kindsBehind_table, eX3_kindsBehind_tableN, eX3_kindsBehind_sets, eX3_kindsBehind_kinds, eX3_kindsBehind_levels, eX3_kindsBehind_worths, eX3_kindsBehind_needs, eX3_kindsBehind_kindsBehind, eX3_kindsBehind_kindOf, eX3_kindsBehind_barred, eX3_kindOf_street, eX3_kindOf_table, eX3_kindOf_tableN, eX3_kindOf_sets, eX3_kindOf_kinds, eX3_kindOf_levels, eX3_kindOf_worths, eX3_kindOf_needs, eX3_kindOf_kindsBehind, eX3_kindOf_kindOf, eX3_kindOf_barred, eX3_barred_street, eX3_barred_table, eX3_barred_tableN, eX3_barred_sets, eX3_barred_kinds, eX3_barred_levels, eX3_barred_worths, eX3_barred_needs, eX3_barred_kindsBehind, eX3_barred_kindOf, eX3_barred_barred]
theorem Rt.tq {q q' : BX3} (h : Rt q q') (k : Tq q) : Tq q' := by
  obtain ⟨e1, e2, e3, e4, e5, _⟩ := h.eqs
  unfold Tq; rw [e1, e2, e3, e4, e5]; exact k
/-! entries of the table, by place -/
def Tb (q : BX3) (R k l : Int) : Int := pX3_table q (tix (pX3_kinds q) (pX3_levels q) R k l)
/-! one row's first values: a copy of the row behind, kind 0 -/
theorem s_X3_fill_34 (n : Nat) (k22 : Int → Int → Int → Int → Int → BX3 → Option BX3) {p g k : Int} : ∀ (fu : Nat) (l : Int) (q : BX3), Tq q → (0 ≤ p ∧ p < pX2_pitches (pX3_street q)) → (0 ≤ g ∧ g < pX3_sets q) → (0 ≤ k ∧ k < pX3_kinds q) → 0 ≤ l → l ≤ pX3_levels q → 0 < fu → pX3_levels q - l < fu →
    ∃ q', g_X3_fill_34 n k22 fu p g (((p * pX3_sets q + g) * pX3_kinds q + 0) * pX3_levels q) ((((p + 1) * pX3_sets q + g) * pX3_kinds q + 0) * pX3_levels q) k l q = k22 p g (((p * pX3_sets q + g) * pX3_kinds q + 0) * pX3_levels q) ((((p + 1) * pX3_sets q + g) * pX3_kinds q + 0) * pX3_levels q) (k + 1) q' ∧ Rt q q' ∧
      (∀ R' k' l', 0 ≤ k' → k' < pX3_kinds q → 0 ≤ l' → l' < pX3_levels q → Tb q' R' k' l' = if R' = p * pX3_sets q + g ∧ k' = k ∧ l ≤ l' then Tb q ((p + 1) * pX3_sets q + g) 0 l' else Tb q R' k' l') := by
  intro fu
  induction fu with
  | zero => intro l q _ _ _ _ _ _ h0; omega
  | succ fu ih =>
    intro l q hq hp hg hk l0 l1 _ hf
    have hK := hq.2.2.1
    have hV := hq.2.2.2.1
    rw [g_X3_fill_34.eq_2]
    by_cases hc : pX3_levels q ≤ l
    · rw [if_pos hc, oR_ok (by omega) (by omega)]
      refine ⟨q, rfl, Rt.rfl' q, fun R' k' l' _ _ _ _ => ?_⟩
      rw [if_neg (by omega)]
    · have i1 := hq.ix (p := p + 1) (g := g) (k := 0) (l := l) (by omega) hg (by omega) (by omega)
      have i2 := hq.ix (p := p) (g := g) (k := k) (l := l) (by omega) hg hk (by omega)
      have hN := hq.2.2.2.2.2
      have e1 : (((p + 1) * pX3_sets q + g) * pX3_kinds q + 0) * pX3_levels q + l = tix (pX3_kinds q) (pX3_levels q) ((p + 1) * pX3_sets q + g) 0 l := rfl
      rw [if_neg hc, e1, tix_0, qA_ok (by omega) (by omega) (by omega), qA_ok (by omega) (by omega) (by omega), oL_def, oR_ok (by omega) (by omega)]
      have hR : Rt q (sX3_table q (updZ (pX3_table q) (tix (pX3_kinds q) (pX3_levels q) (p * pX3_sets q + g) k l) (pX3_table q (tix (pX3_kinds q) (pX3_levels q) ((p + 1) * pX3_sets q + g) 0 l)))) := ⟨_, rfl⟩
      obtain ⟨f1, f2, f3, f4, f5, _⟩ := hR.eqs
      have := ih (l + 1) _ (hR.tq hq) (by rw [f1]; exact hp) (by rw [f3]; exact hg) (by rw [f4]; exact hk) (by omega) (by rw [f5]; omega) (by omega) (by rw [f5]; omega)
      rw [f3, f4, f5] at this
      obtain ⟨q', g1, g2, g3⟩ := this
      refine ⟨q', g1, hR.trans g2, fun R' k' l' a1 a2 a3 a4 => ?_⟩
      rw [g3 R' k' l' a1 a2 a3 a4]
      have hE : ∀ R'' k'' l'', 0 ≤ k'' → k'' < pX3_kinds q → 0 ≤ l'' → l'' < pX3_levels q → Tb (sX3_table q (updZ (pX3_table q) (tix (pX3_kinds q) (pX3_levels q) (p * pX3_sets q + g) k l) (pX3_table q (tix (pX3_kinds q) (pX3_levels q) ((p + 1) * pX3_sets q + g) 0 l)))) R'' k'' l'' = if R'' = p * pX3_sets q + g ∧ k'' = k ∧ l'' = l then Tb q ((p + 1) * pX3_sets q + g) 0 l else Tb q R'' k'' l'' := by
        intro R'' k'' l'' b1 b2 b3 b4
        unfold Tb
        rw [eX3_table_table, eX3_kinds_table, eX3_levels_table, updZ_app]
        by_cases h : tix (pX3_kinds q) (pX3_levels q) R'' k'' l'' = tix (pX3_kinds q) (pX3_levels q) (p * pX3_sets q + g) k l
        · have := tix_inj ⟨b1, b2⟩ ⟨b3, b4⟩ hk ⟨l0, by omega⟩ h
          rw [if_pos h, if_pos this]
        · rw [if_neg h, if_neg]
          rintro ⟨h1, h2, h3⟩
          rw [h1, h2, h3] at h
          exact h rfl
      have hne : (p + 1) * pX3_sets q + g ≠ p * pX3_sets q + g := by
        rw [Int.add_mul, Int.one_mul]
        have := hq.2.1
        omega
      by_cases c1 : R' = p * pX3_sets q + g ∧ k' = k ∧ l + 1 ≤ l'
      · rw [if_pos c1, hE _ _ _ (by omega) (by omega) a3 a4, if_neg (fun h => hne h.1), if_pos ⟨c1.1, c1.2.1, by omega⟩]
      · rw [if_neg c1, hE _ _ _ a1 a2 a3 a4]
        by_cases c2 : R' = p * pX3_sets q + g ∧ k' = k ∧ l' = l
        · rw [if_pos c2, if_pos ⟨c2.1, c2.2.1, by omega⟩, c2.2.2]
        · rw [if_neg c2, if_neg]
          rintro ⟨h1, h2, h3⟩
          by_cases h4 : l' = l
          · exact c2 ⟨h1, h2, h4⟩
          · exact c1 ⟨h1, h2, by omega⟩
theorem s_X3_fill_22 (n : Nat) (hn : 100 ≤ n) {p g : Int} : ∀ (fu : Nat) (k : Int) (q : BX3), Tq q → (0 ≤ p ∧ p < pX2_pitches (pX3_street q)) → (0 ≤ g ∧ g < pX3_sets q) → 0 ≤ k → k ≤ pX3_kinds q → 0 < fu → pX3_kinds q - k < fu →
    ∃ q', g_X3_fill_22 n fu p g (((p * pX3_sets q + g) * pX3_kinds q + 0) * pX3_levels q) ((((p + 1) * pX3_sets q + g) * pX3_kinds q + 0) * pX3_levels q) k q = g_X3_fill_85 n n p g 0 q' ∧ Rt q q' ∧
      (∀ R' k' l', 0 ≤ k' → k' < pX3_kinds q → 0 ≤ l' → l' < pX3_levels q → Tb q' R' k' l' = if R' = p * pX3_sets q + g ∧ k ≤ k' then Tb q ((p + 1) * pX3_sets q + g) 0 l' else Tb q R' k' l') := by
  intro fu
  induction fu with
  | zero => intro k q _ _ _ _ _ h0; omega
  | succ fu ih =>
    intro k q hq hp hg k0 k1 _ hf
    have hK := hq.2.2.1
    have hV := hq.2.2.2.1
    rw [g_X3_fill_22.eq_2]
    by_cases hc : pX3_kinds q ≤ k
    · rw [if_pos hc]
      refine ⟨q, rfl, Rt.rfl' q, fun R' k' l' _ _ _ _ => ?_⟩
      rw [if_neg (by omega)]
    · rw [if_neg hc]
      obtain ⟨q1, g1, g2, g3⟩ := s_X3_fill_34 n (g_X3_fill_22 n fu) (p := p) (g := g) (k := k) n 0 q hq hp hg ⟨k0, by omega⟩ (by omega) (by omega) (by omega) (by omega)
      obtain ⟨f1, f2, f3, f4, f5, _⟩ := g2.eqs
      have := ih (k + 1) q1 (g2.tq hq) (by rw [f1]; exact hp) (by rw [f3]; exact hg) (by omega) (by rw [f4]; omega) (by omega) (by rw [f4]; omega)
      rw [f3, f4, f5] at this
      obtain ⟨q', j1, j2, j3⟩ := this
      refine ⟨q', by rw [g1, j1], g2.trans j2, fun R' k' l' a1 a2 a3 a4 => ?_⟩
      have hne : (p + 1) * pX3_sets q + g ≠ p * pX3_sets q + g := by
        rw [Int.add_mul, Int.one_mul]
        have := hq.2.1
        omega
      have eA := g3 ((p + 1) * pX3_sets q + g) 0 l' (by omega) (by omega) a3 a4
      rw [if_neg (fun h => hne h.1)] at eA
      rw [j3 R' k' l' a1 a2 a3 a4, eA, g3 R' k' l' a1 a2 a3 a4]
      by_cases c1 : R' = p * pX3_sets q + g ∧ k + 1 ≤ k'
      · rw [if_pos c1, if_pos ⟨c1.1, by omega⟩]
      · rw [if_neg c1]
        by_cases c2 : R' = p * pX3_sets q + g ∧ k' = k ∧ 0 ≤ l'
        · rw [if_pos c2, if_pos ⟨c2.1, by omega⟩]
        · rw [if_neg c2, if_neg]
          rintro ⟨h1, h2⟩
          by_cases h4 : k' = k
          · exact c2 ⟨h1, h4, a3⟩
          · exact c1 ⟨h1, by omega⟩
