/-! The reference's edges, and its best rent. -/
def EdgeC (b : BX2) (x t s : Int) : Prop := (0 ≤ t ∧ t < pX2_traders b) ∧ mInRow b t s ∧ (s ≤ x ∧ x < s + pX2_fronts b t) ∧ 1 ≤ cap b x t s
def EI (b : BX2) (x : Int) (e : Int → Int) (t s : Int) : Prop := ∀ v, 0 ≤ v → v < 1000 → (e v ≠ 0 ↔ (v = 1 ∨ ∃ t' s', EdgeC b x t' s' ∧ (t' < t ∨ (t' = t ∧ s' < s)) ∧ v = cap b x t' s'))
theorem s_le2 (n : Nat) (r : BX6) (x : Int) : ∀ (fu : Nat) (v : Int) (e : Int → Int), 0 ≤ v → v ≤ 1000 → 1000 - v < fu → (∀ i, 0 ≤ i → i < v → e i = if i = 1 then 1 else 0) → ∃ e', g_X6_laysEdges_2 n fu x v (sX6_isEdge r e) = g_X6_laysEdges_33 n n x 0 (sX6_isEdge r e') ∧ ∀ i, 0 ≤ i → i < 1000 → e' i = if i = 1 then 1 else 0 := by
  intro fu
  induction fu with
  | zero => intro v e _ _ h; omega
  | succ fu ih =>
    intro v e v0 v1 hf he
    rw [g_X6_laysEdges_2.eq_2]
    by_cases hc : 1000 ≤ v
    · rw [if_pos hc]
      exact ⟨e, rfl, fun i i0 i1 => he i i0 (by omega)⟩
    · unfold g_X6_laysEdges_24
      have step : ∀ w, w = (if v = 1 then (1 : Int) else 0) → ∃ e', g_X6_laysEdges_2 n fu x (v + 1) (sX6_isEdge (sX6_isEdge r e) (updZ e v w)) = g_X6_laysEdges_33 n n x 0 (sX6_isEdge r e') ∧ ∀ i, 0 ≤ i → i < 1000 → e' i = if i = 1 then 1 else 0 := by
        intro w hw
        rw [uX6_isEdge]
        refine ih (v + 1) _ (by omega) (by omega) (by omega) (fun i i0 i1 => ?_)
        rw [updZ_app]
        by_cases hi : i = v
        · rw [if_pos hi, hi, hw]
        · rw [if_neg hi]; exact he i i0 (by omega)
      rw [if_neg hc, qA_ok (by omega) (by omega) (by omega), oL_def, oR_ok (by omega) (by omega), eX6_isEdge_isEdge, zNb_1, zNb_0, qA_ok (by omega) (by omega) (by omega), oL_def, oR_ok (by omega) (by omega)]
      by_cases h1 : v = 1
      · rw [if_pos h1]; exact step 1 (by rw [if_pos h1])
      · rw [if_neg h1]; exact step 0 (by rw [if_neg h1])
theorem EdI_skip {b : BX2} {x t s : Int} {e : Int → Int} (h : EI b x e t s) (hn : ¬ EdgeC b x t s) : EI b x e t (s + 1) := by
  intro v v0 v1
  rw [h v v0 v1]
  constructor
  · rintro (h1 | ⟨t', s', k1, k2, k3⟩)
    · exact .inl h1
    · exact .inr ⟨t', s', k1, by omega, k3⟩
  · rintro (h1 | ⟨t', s', k1, k2, k3⟩)
    · exact .inl h1
    · refine .inr ⟨t', s', k1, ?_, k3⟩
      by_cases e : t' = t ∧ s' = s
      · rw [e.1, e.2] at k1; exact absurd k1 hn
      · omega
theorem EdI_add {b : BX2} {x t s : Int} {e : Int → Int} (h : EI b x e t s) (hE : EdgeC b x t s) : EI b x (updZ e (cap b x t s) 1) t (s + 1) := by
  intro v v0 v1
  rw [updZ_app]
  by_cases hv : v = cap b x t s
  · rw [if_pos hv]
    exact ⟨fun _ => .inr ⟨t, s, hE, by omega, hv⟩, fun _ => by omega⟩
  · rw [if_neg hv, h v v0 v1]
    constructor
    · rintro (h1 | ⟨t', s', k1, k2, k3⟩)
      · exact .inl h1
      · exact .inr ⟨t', s', k1, by omega, k3⟩
    · rintro (h1 | ⟨t', s', k1, k2, k3⟩)
      · exact .inl h1
      · refine .inr ⟨t', s', k1, ?_, k3⟩
        by_cases e : t' = t ∧ s' = s
        · rw [e.1, e.2] at k3; exact absurd k3 hv
        · omega
theorem rows_mono {b : BX2} (hm : ∀ p, 0 ≤ p → p + 1 < pX2_pitches b → pX2_rows b p ≤ pX2_rows b (p + 1)) : ∀ (d : Nat) (p q : Int), 0 ≤ p → q = p + d → q < pX2_pitches b → pX2_rows b p ≤ pX2_rows b q := by
  intro d
  induction d with
  | zero => intro p q p0 h1 h2; rw [show q = p by omega]; exact Int.le_refl _
  | succ d ih => intro p q p0 h1 h2; exact Int.le_trans (hm p p0 (by omega)) (ih (p + 1) q (by omega) (by omega) h2)
theorem row_in {b : BX2} (hm : ∀ p, 0 ≤ p → p + 1 < pX2_pitches b → pX2_rows b p ≤ pX2_rows b (p + 1)) {t s x : Int} (h : mInRow b t s) (h0 : s ≤ x) (h1 : x < s + pX2_fronts b t) : pX2_rows b s = pX2_rows b x := by
  have hl := mInRow_lt h
  unfold mInRow mShare at h
  have e1 := rows_mono hm (x - s).toNat s x (by omega) (by omega) (by omega)
  have e2 := rows_mono hm (s + pX2_fronts b t - 1 - x).toNat x (s + pX2_fronts b t - 1) (by omega) (by omega) (by omega)
  omega
theorem s_le58 (n : Nat) (hn : 1000 ≤ n) (k33 : Int → Int → BX6 → Option BX6) {b : BX2} {r : BX6} (hb : S2 b) (hm : ∀ p, 0 ≤ p → p + 1 < pX2_pitches b → pX2_rows b p ≤ pX2_rows b (p + 1)) (R : Rl b (pX6_a r)) {x t : Int} (x0 : 0 ≤ x) (x1 : x < pX2_pitches b) (t0 : 0 ≤ t) (t1 : t < pX2_traders b) :
    ∀ (fu : Nat) (s : Int) (e : Int → Int), x < s + pX2_fronts b t → s ≤ x + 1 → x + 1 - s < fu → EI b x e t s → ∃ e', g_X6_laysEdges_58 n k33 fu x t s (sX6_isEdge r e) = oR (t + 1) (k33 x (t + 1) (sX6_isEdge r e')) ∧ EI b x e' t (x + 1) := by
  have hP := hb.pit
  have hT := hb.tra
  have hf := hb.fr t0 t1
  have hli := (hb.trd t t0 t1).2.2
  have hrx := hb.rent x x0 x1
  intro fu
  induction fu with
  | zero => intro s e h0 h1 h2; omega
  | succ fu ih =>
    intro s e h0 h1 h2 E
    have R' : Rl b (pX6_a (sX6_isEdge r e)) := by rw [eX6_a_isEdge]; exact R
    rw [g_X6_laysEdges_58.eq_2]
    by_cases hc : x < s
    · rw [if_pos hc]
      refine ⟨e, rfl, ?_⟩
      rw [show x + 1 = s by omega]; exact E
    · have hskip : ∀ e', EI b x e' t (s + 1) → ∃ e'', g_X6_laysEdges_154 n k33 (g_X6_laysEdges_58 n k33 fu) x t s (sX6_isEdge r e') = oR (t + 1) (k33 x (t + 1) (sX6_isEdge r e'')) ∧ EI b x e'' t (x + 1) := by
        intro e' E'
        unfold g_X6_laysEdges_154
        rw [oR_ok (by omega) (by omega)]
        exact ih (s + 1) e' (by omega) (by omega) (by omega) E'
      have hadd : EdgeC b x t s → ∀ c, c = cap b x t s → ∃ e'', g_X6_laysEdges_152 n k33 (g_X6_laysEdges_58 n k33 fu) c x t s (sX6_isEdge r e) = oR (t + 1) (k33 x (t + 1) (sX6_isEdge r e'')) ∧ EI b x e'' t (x + 1) := by
        intro hE c hcc
        have h1c := hE.2.2.2
        have h2c : cap b x t s ≤ 999 := by unfold cap; omega
        unfold g_X6_laysEdges_152
        rw [hcc, qA_ok (by omega) (by omega) (by omega), oL_def, eX6_isEdge_isEdge, uX6_isEdge, zNb_1]
        exact hskip _ (EdI_add E hE)
      rw [if_neg hc]
      by_cases hs0 : s < 0
      · rw [if_pos hs0]
        exact hskip e (EdI_skip E (fun h => by have := (mInRow_lt h.2.1).1; omega))
      · rw [if_neg hs0, s_X6_isRoom hb R' t0 t1 (by omega) (by omega), oB_some]
        by_cases hr : mInRow b t s
        · have hl := mInRow_lt hr
          have hmr := mRent_b hb t0 t1 hl.1
          have hrw := row_in hm hr (by omega) h0
          have ec : cap b x t s = min (pX2_limits b t - (mRent b t s - pX2_rents b x)) 999 := rfl
          rw [zB_pos hr, if_neg (by omega), qA_ok (by omega) (by omega) (by omega), qA_ok (by omega) (by omega) (by omega), eX6_a_isEdge, R.row (by omega) (by omega), R.row x0 x1, if_pos hrw, qA_ok (by omega) (by omega) (by omega), R.lim t0 t1, s_X6_rentOf (by omega) hb R' t0 t1 hl.1 hl.2.2, oB_some, qA_ok (by omega) (by omega) (by omega), R.rent x0 x1, oR_ok (by omega) (by omega), oL_def]
          by_cases h3 : pX2_limits b t - mRent b t s + pX2_rents b x ≤ 0
          · rw [if_pos h3]
            exact hskip e (EdI_skip E (fun h => by have := h.2.2.2; omega))
          · have hE : EdgeC b x t s := ⟨⟨t0, t1⟩, hr, ⟨by omega, h0⟩, by omega⟩
            rw [if_neg h3]
            by_cases h4 : pX2_limits b t - mRent b t s + pX2_rents b x ≤ 999
            · rw [if_pos h4]; exact hadd hE _ (by omega)
            · rw [if_neg h4]; exact hadd hE _ (by omega)
        · rw [zB_neg hr, if_pos rfl]
          exact hskip e (EdI_skip E (fun h => hr h.2.1))
theorem s_le33 (n : Nat) (hn : 1000 ≤ n) {b : BX2} {r : BX6} (hb : S2 b) (hm : ∀ p, 0 ≤ p → p + 1 < pX2_pitches b → pX2_rows b p ≤ pX2_rows b (p + 1)) (R : Rl b (pX6_a r)) {x : Int} (x0 : 0 ≤ x) (x1 : x < pX2_pitches b) :
    ∀ (fu : Nat) (t : Int) (e : Int → Int), 0 ≤ t → t ≤ pX2_traders b → pX2_traders b - t < fu → EI b x e t (-100) → ∃ e', g_X6_laysEdges_33 n fu x t (sX6_isEdge r e) = some (sX6_isEdge r e') ∧ EI b x e' (pX2_traders b) (-100) := by
  have hP := hb.pit
  have hT := hb.tra
  intro fu
  induction fu with
  | zero => intro t e h0 h1 h2; omega
  | succ fu ih =>
    intro t e t0 t1 h2 E
    rw [g_X6_laysEdges_33.eq_2, qA_ok (by omega) (by omega) (by omega), eX6_a_isEdge, R.tra]
    by_cases hc : pX2_traders b ≤ t
    · rw [if_pos hc]
      refine ⟨e, rfl, ?_⟩
      rw [show pX2_traders b = t by omega]; exact E
    · have hf := hb.fr t0 (by omega)
      have key : ∀ (e : Int → Int) (t1 s1 t2 s2 : Int), EI b x e t1 s1 → (∀ t' s', EdgeC b x t' s' → ((t' < t1 ∨ (t' = t1 ∧ s' < s1)) ↔ (t' < t2 ∨ (t' = t2 ∧ s' < s2)))) → EI b x e t2 s2 := by
        intro e t1 s1 t2 s2 E hh v v0 v1
        rw [E v v0 v1]
        constructor
        · rintro (h1 | ⟨t', s', k1, k2, k3⟩)
          · exact .inl h1
          · exact .inr ⟨t', s', k1, (hh t' s' k1).1 k2, k3⟩
        · rintro (h1 | ⟨t', s', k1, k2, k3⟩)
          · exact .inl h1
          · exact .inr ⟨t', s', k1, (hh t' s' k1).2 k2, k3⟩
      have E1 : EI b x e t (x - pX2_fronts b t + 1) := key e t (-100) _ _ E (fun t' s' k1 => by
        have k4 := k1.2.2.1
        have k5 := mInRow_lt k1.2.1
        by_cases et : t' = t
        · rw [et] at k4; omega
        · omega)
      obtain ⟨e', i1, i2⟩ := s_le58 n hn (g_X6_laysEdges_33 n fu) hb hm R x0 x1 t0 (by omega) n (x - pX2_fronts b t + 1) e (by omega) (by omega) (by omega) E1
      rw [if_neg hc, qA_ok (by omega) (by omega) (by omega), R.fr t0 (by omega), oR_ok (by omega) (by omega), oL_def, i1, oR_ok (by omega) (by omega)]
      refine ih (t + 1) e' (by omega) (by omega) (by omega) (key e' t (x + 1) _ _ i2 (fun t' s' k1 => by
        have k4 := k1.2.2.1
        have k5 := mInRow_lt k1.2.1
        omega))
theorem s_laysEdges {n : Nat} (hn : 2000 ≤ n) {b : BX2} {r : BX6} (hb : S2 b) (hm : ∀ p, 0 ≤ p → p + 1 < pX2_pitches b → pX2_rows b p ≤ pX2_rows b (p + 1)) (R : Rl b (pX6_a r)) {x : Int} (x0 : 0 ≤ x) (x1 : x < pX2_pitches b) : ∃ e, g_X6_laysEdges n r x = some (sX6_isEdge r e) ∧ ∀ v, 0 ≤ v → v < 1000 → (e v ≠ 0 ↔ (v = 1 ∨ ∃ t s, EdgeC b x t s ∧ v = cap b x t s)) := by
  unfold g_X6_laysEdges
  have hT := hb.tra
  obtain ⟨e, i1, i2⟩ := s_le2 n r x n 0 (pX6_isEdge r) (by omega) (by omega) (by omega) (fun i i0 i1 => by omega)
  rw [iX6_isEdge] at i1
  have E0 : EI b x e 0 (-100) := by
    intro v v0 v1
    rw [i2 v v0 v1]
    constructor
    · intro h
      by_cases hv : v = 1
      · exact .inl hv
      · rw [if_neg hv] at h; exact absurd rfl h
    · rintro (h1 | ⟨t', s', k1, k2, k3⟩)
      · rw [if_pos h1]; omega
      · have k4 := k1.1
        have k5 := mInRow_lt k1.2.1
        omega
  obtain ⟨e', j1, j2⟩ := s_le33 n (by omega) hb hm R x0 x1 n 0 e (by omega) (by omega) (by omega) E0
  rw [i1, j1]
  refine ⟨e', rfl, fun v v0 v1 => ?_⟩
  rw [j2 v v0 v1]
  constructor
  · rintro (h1 | ⟨t', s', k1, k2, k3⟩)
    · exact .inl h1
    · exact .inr ⟨t', s', k1, k3⟩
  · rintro (h1 | ⟨t', s', k1, k3⟩)
    · exact .inl h1
    · exact .inr ⟨t', s', k1, by have := k1.1; omega, k3⟩
