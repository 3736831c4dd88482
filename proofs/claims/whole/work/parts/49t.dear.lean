/-! The class's dearest rent. -/
def oth (b : BX2) (x t s : Int) : Int := mRent b t s - pX2_rents b x
def cap (b : BX2) (x t s : Int) : Int := min (pX2_limits b t - oth b x t s) 999
def OkC (b : BX2) (x t s : Int) : Prop := (0 ≤ t ∧ t < pX2_traders b) ∧ mInRow b t s ∧ (s ≤ x ∧ x < s + pX2_fronts b t) ∧ mFor b t s ≤ pX2_covers b ∧ 1 ≤ cap b x t s
def WOf (b : BX2) (t s W : Int) : Prop := IsW b s (mAhead b t s) (s + pX2_fronts b t) (mBehind b t s) t (pX2_covers b - mFor b t s) W
def Cnd (b : BX2) (x r i : Int) : Prop := ∃ t s W, OkC b x t s ∧ WOf b t s W ∧ r = cap b x t s ∧ i = W / 16 + oth b x t s + cap b x t s
def DI (b : BX2) (x F m a t s : Int) : Prop := (1 ≤ a ∧ a ≤ 999) ∧ (0 ≤ m ∧ m ≤ 1000000) ∧ F / 16 ≤ m ∧ (F / 16 = m → a = 1) ∧ (m = F / 16 ∨ Cnd b x a m) ∧
  ∀ t' s' W, OkC b x t' s' → WOf b t' s' W → (t' < t ∨ (t' = t ∧ s' < s)) → (W / 16 + oth b x t' s' + cap b x t' s' ≤ m ∧ (W / 16 + oth b x t' s' + cap b x t' s' = m → a ≤ cap b x t' s'))
theorem DI_skip {b : BX2} {x F m a t s : Int} (h : DI b x F m a t s) (hn : ¬ OkC b x t s) : DI b x F m a t (s + 1) := by
  obtain ⟨h1, h2, h3, h4, h5, h6⟩ := h
  refine ⟨h1, h2, h3, h4, h5, fun t' s' W k1 k2 k3 => h6 t' s' W k1 k2 ?_⟩
  rcases k3 with k3 | ⟨k3, k4⟩
  · exact .inl k3
  · by_cases e : s' = s
    · rw [k3, e] at k1; exact absurd k1 hn
    · exact .inr ⟨k3, by omega⟩
theorem DI_keep {b : BX2} {x F m a t s W : Int} (h : DI b x F m a t s) (hO : OkC b x t s) (hW : WOf b t s W) (hk : ¬ (m < W / 16 + oth b x t s + cap b x t s ∨ (W / 16 + oth b x t s + cap b x t s = m ∧ cap b x t s < a))) : DI b x F m a t (s + 1) := by
  obtain ⟨h1, h2, h3, h4, h5, h6⟩ := h
  refine ⟨h1, h2, h3, h4, h5, fun t' s' W' k1 k2 k3 => ?_⟩
  by_cases e : t' = t ∧ s' = s
  · rw [e.1, e.2] at k2 ⊢
    have := IsW_uq hW k2
    rw [← this]
    omega
  · exact h6 t' s' W' k1 k2 (by omega)
theorem DI_take {b : BX2} {x F m a t s W : Int} (h : DI b x F m a t s) (hO : OkC b x t s) (hW : WOf b t s W) (hb : W / 16 + oth b x t s + cap b x t s ≤ 1000000) (hk : m < W / 16 + oth b x t s + cap b x t s ∨ (W / 16 + oth b x t s + cap b x t s = m ∧ cap b x t s < a)) : DI b x F (W / 16 + oth b x t s + cap b x t s) (cap b x t s) t (s + 1) := by
  obtain ⟨h1, h2, h3, h4, h5, h6⟩ := h
  have hc := hO.2.2.2.2
  have hc2 : cap b x t s ≤ 999 := by unfold cap; omega
  refine ⟨⟨hc, hc2⟩, by omega, by omega, fun e => by omega, .inr ⟨t, s, W, hO, hW, rfl, rfl⟩, fun t' s' W' k1 k2 k3 => ?_⟩
  by_cases e : t' = t ∧ s' = s
  · rw [e.1, e.2] at k2 ⊢
    have := IsW_uq hW k2
    rw [← this]
    omega
  · have := h6 t' s' W' k1 k2 (by omega)
    omega
theorem s_dr55 (n : Nat) (hn : 1000 ≤ n) (k27 : Int → Int → Int → Int → BX3 → BX3 → Option Int) {q w : BX3} {b : BX2} (hq : Pq q) (hw : Pq w) (hs : Same (pX3_street q) b) (hwb : pX3_street w = mTurn b) (hb : S2 b) {x t F : Int} (x0 : 0 ≤ x) (x1 : x < pX2_pitches b) (t0 : 0 ≤ t) (t1 : t < pX2_traders b) :
    ∀ (fu : Nat) (s m a : Int), x < s + pX2_fronts b t → s ≤ x + 1 → x + 1 - s < fu → DI b x F m a t s → ∃ m' a', g_X3_dearestRent_55 n k27 fu x m a t s q w = oR (t + 1) (k27 x m' a' (t + 1) q w) ∧ DI b x F m' a' t (x + 1) := by
  have hP := hb.pit
  have hT := hb.tra
  have hcv := hb.cov
  have hsq := hq.aq.1.1
  have eR := hs.2.2.1
  have eT := hs.2.2.2.2.1
  have eF := hs.2.2.2.2.2.2.1
  have eL := hs.2.2.2.2.2.2.2.1
  have eC := hs.2.2.2.2.2.2.2.2.2.2
  have hf := hb.fr t0 t1
  have hli := (hb.trd t t0 t1).2.2
  have hrx := hb.rent x x0 x1
  intro fu
  induction fu with
  | zero => intro s m a h0 h1 h2; omega
  | succ fu ih =>
    intro s m a h0 h1 h2 D
    rw [g_X3_dearestRent_55.eq_2]
    by_cases hc : x < s
    · rw [if_pos hc]
      refine ⟨m, a, rfl, ?_⟩
      rw [show x + 1 = s by omega]; exact D
    · have hskip : ∀ m' a', DI b x F m' a' t (s + 1) → ∃ m'' a'', g_X3_dearestRent_222 n k27 (g_X3_dearestRent_55 n k27 fu) x m' a' t s q w = oR (t + 1) (k27 x m'' a'' (t + 1) q w) ∧ DI b x F m'' a'' t (x + 1) := by
        intro m' a' D'
        unfold g_X3_dearestRent_222
        rw [oR_ok (by omega) (by omega)]
        exact ih (s + 1) m' a' (by omega) (by omega) (by omega) D'
      rw [if_neg hc, s_X2_isInOneRow hsq t0 (by omega) (by omega) (by omega), oB_some, zB_congr (hs.inRow t s)]
      by_cases hr : mInRow b t s
      · have hl := mInRow_lt hr
        have hmr := mRent_b hb t0 t1 hl.1
        have hmf := mFor_b b t s (by omega)
        have eo : mRent b t s - pX2_rents b x = oth b x t s := rfl
        have ec : min (pX2_limits b t - oth b x t s) 999 = cap b x t s := rfl
        have hob : -1000 ≤ oth b x t s ∧ oth b x t s ≤ 2997 := by rw [← eo]; omega
        have hcb : cap b x t s ≤ 999 := by rw [← ec]; omega
        rw [zB_pos hr, if_neg (by omega), s_X2_blockRent (by omega) hsq t0 (by omega) hl.1 (by omega), oB_some, hs.rent, qA_ok x0 (by omega) (by omega), eR, eo, oR_ok (by omega) (by omega), oL_def, qA_ok t0 (by omega) (by omega), eL, oR_ok (by omega) (by omega), ec, oL_def, s_X2_coversFor (by omega) hsq t0 (by omega) hl.1 (by omega), oB_some, hs.for, eC, oR_ok (by omega) (by omega), oL_def]
        by_cases h3 : cap b x t s < 1
        · rw [if_pos h3]
          exact hskip m a (DI_skip D (fun h => by have := h.2.2.2.2; omega))
        · rw [if_neg h3]
          by_cases h4 : 0 ≤ pX2_covers b - mFor b t s
          · have hO : OkC b x t s := ⟨⟨t0, t1⟩, hr, ⟨by omega, h0⟩, by omega, by omega⟩
            obtain ⟨W, w1, w2, w3⟩ := s_wa_some hn hq hw hs hwb hb t0 t1 hr h4 (by omega)
            rw [if_pos h4, qA_ok t0 (by omega) (by omega), eF, oR_ok (by omega) (by omega), oL_def, w1, oB_some, qD_ok w2.1 (by omega), oR_ok (by omega) (by omega), oL_def]
            by_cases h5 : m < W / 16 + oth b x t s + cap b x t s
            · rw [if_pos h5]
              exact hskip _ _ (DI_take D hO w3 (by omega) (.inl h5))
            · rw [if_neg h5]
              by_cases h6 : W / 16 + oth b x t s + cap b x t s = m
              · rw [if_pos h6]
                by_cases h7 : a ≤ cap b x t s
                · rw [if_pos h7]
                  exact hskip _ _ (DI_keep D hO w3 (by omega))
                · rw [if_neg h7]
                  exact hskip _ _ (DI_take D hO w3 (by omega) (.inr ⟨h6, by omega⟩))
              · rw [if_neg h6]
                exact hskip _ _ (DI_keep D hO w3 (by omega))
          · rw [if_neg h4]
            exact hskip m a (DI_skip D (fun h => by have := h.2.2.2.1; omega))
      · rw [zB_neg hr, if_pos rfl]
        exact hskip m a (DI_skip D (fun h => hr h.2.1))
theorem s_dr27 (n : Nat) (hn : 1000 ≤ n) {q w : BX3} {b : BX2} (hq : Pq q) (hw : Pq w) (hs : Same (pX3_street q) b) (hwb : pX3_street w = mTurn b) (hb : S2 b) {x F : Int} (x0 : 0 ≤ x) (x1 : x < pX2_pitches b) :
    ∀ (fu : Nat) (t m a : Int), 0 ≤ t → t ≤ pX2_traders b → pX2_traders b - t < fu → DI b x F m a t (-100) → ∃ m' a', g_X3_dearestRent_27 n fu x m a t q w = some a' ∧ DI b x F m' a' (pX2_traders b) (-100) := by
  have hP := hb.pit
  have hT := hb.tra
  have eT := hs.2.2.2.2.1
  have eF := hs.2.2.2.2.2.2.1
  intro fu
  induction fu with
  | zero => intro t m a h0 h1 h2; omega
  | succ fu ih =>
    intro t m a t0 t1 h2 D
    rw [g_X3_dearestRent_27.eq_2, eT]
    by_cases hc : pX2_traders b ≤ t
    · rw [if_pos hc]
      refine ⟨m, a, rfl, ?_⟩
      rw [show pX2_traders b = t by omega]; exact D
    · have hf := hb.fr t0 (by omega)
      have D1 : DI b x F m a t (x - pX2_fronts b t + 1) := by
        obtain ⟨h1, h2, h3, h4, h5, h6⟩ := D
        refine ⟨h1, h2, h3, h4, h5, fun t' s' W k1 k2 k3 => h6 t' s' W k1 k2 ?_⟩
        rcases k3 with k3 | ⟨k3, k4⟩
        · exact .inl k3
        · have := k1.2.2.1
          rw [k3] at this
          omega
      obtain ⟨m', a', i1, i2⟩ := s_dr55 n hn (g_X3_dearestRent_27 n fu) hq hw hs hwb hb x0 x1 t0 (by omega) (F := F) n (x - pX2_fronts b t + 1) m a (by omega) (by omega) (by omega) D1
      have D2 : DI b x F m' a' (t + 1) (-100) := by
        obtain ⟨h1, h2, h3, h4, h5, h6⟩ := i2
        refine ⟨h1, h2, h3, h4, h5, fun t' s' W k1 k2 k3 => h6 t' s' W k1 k2 ?_⟩
        have k4 := k1.2.2.1
        have k5 := mInRow_lt k1.2.1
        omega
      rw [if_neg hc, qA_ok t0 (by omega) (by omega), eF, oR_ok (by omega) (by omega), oL_def, i1, oR_ok (by omega) (by omega)]
      exact ih (t + 1) m' a' (by omega) (by omega) (by omega) D2
theorem s_dearestRent {n : Nat} (hn : 1000 ≤ n) {q w : BX3} {b : BX2} (hq : Pq q) (hw : Pq w) (hs : Same (pX3_street q) b) (hwb : pX3_street w = mTurn b) (hb : S2 b) {x : Int} (x0 : 0 ≤ x) (x1 : x < pX2_pitches b) : ∃ F m a, g_X3_dearestRent n q x w = some a ∧ IsW b x 0 (x + 1) 0 (-1) (pX2_covers b) F ∧ DI b x F m a (pX2_traders b) (-100) := by
  have hP := hb.pit
  have hT := hb.tra
  have eC := hs.2.2.2.2.2.2.2.2.2.2
  obtain ⟨F, f1, f2, f3⟩ := s_wa_none hn hq hw hs hwb hb x0 x1
  have D : DI b x F (F / 16) 1 0 (-100) := by
    refine ⟨by omega, by omega, Int.le_refl _, fun _ => rfl, .inl rfl, fun t' s' W k1 k2 k3 => ?_⟩
    have k4 := k1.1
    have k5 := mInRow_lt k1.2.1
    omega
  obtain ⟨m', a', i1, i2⟩ := s_dr27 n hn hq hw hs hwb hb x0 x1 (F := F) n 0 (F / 16) 1 (by omega) (by omega) (by omega) D
  unfold g_X3_dearestRent
  rw [oR_ok (by omega) (by omega), eC, f1, oB_some, qD_ok f2.1 (by omega), oR_ok (by omega) (by omega), oL_def, i1]
  exact ⟨F, m', a', rfl, f3, i2⟩
