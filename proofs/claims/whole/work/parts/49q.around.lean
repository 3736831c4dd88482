/-! What both sides of a block are worth together. -/
def Two (b : BX2) (st zl en zr t sp : Int) (R B : List (Int × Int)) : Prop := Rch b st zl R ∧ Chn b en zr B ∧ (whos (R ++ B)).Nodup ∧ (∀ y, y ∈ R ++ B → y.1 ≠ t) ∧ nds b R + nds b B ≤ sp
def IsW (b : BX2) (st zl en zr t sp W : Int) : Prop := (∃ R B, Two b st zl en zr t sp R B ∧ vals b R + vals b B = W) ∧ (∀ R B, Two b st zl en zr t sp R B → vals b R + vals b B ≤ W)
noncomputable def VW (b : BX2) (st zl en zr busy sp left c : Int) : Int := opt (mTurn b) (pX2_pitches b - st) (zShl 1 (pX2_traders b) - 1 - left) zl c + opt b en (zOr left busy) zr (sp - c)
theorem Pq_tab {q : BX3} (h : Pq q) {p g k c : Int} (hp : 0 ≤ p ∧ p ≤ pX2_pitches (pX3_street q)) (hg : 0 ≤ g ∧ g < pX3_sets q) (hk : 0 ≤ k ∧ k < pX3_kinds q) (hc : 0 ≤ c ∧ c ≤ pX2_covers (pX3_street q) + 1) :
    g_X3_level q c = some (min c (pX3_levels q - 1)) ∧ (0 ≤ ((p * pX3_sets q + g) * pX3_kinds q + k) * pX3_levels q + min c (pX3_levels q - 1) ∧ ((p * pX3_sets q + g) * pX3_kinds q + k) * pX3_levels q + min c (pX3_levels q - 1) < pX3_tableN q ∧ ((p * pX3_sets q + g) * pX3_kinds q + k) * pX3_levels q + min c (pX3_levels q - 1) ≤ 2147483647) ∧
    pX3_table q (((p * pX3_sets q + g) * pX3_kinds q + k) * pX3_levels q + min c (pX3_levels q - 1)) = opt (pX3_street q) p g (pX3_barred q k) c := by
  have hA := h.aq
  have hs := hA.1.1
  have hLv := hA.1.2.2.2.1
  have hN := hA.1.2.2.2.2.2
  have hP := hs.pit
  have hmin : 0 ≤ min c (pX3_levels q - 1) ∧ min c (pX3_levels q - 1) < pX3_levels q := by omega
  have hix := hA.1.ix hp hg hk hmin
  unfold tix at hix
  refine ⟨?_, ⟨hix.1, hix.2, by omega⟩, ?_⟩
  · unfold g_X3_level
    rw [oR_ok (by omega) (by omega)]
  · rw [h.2.2.2.2.2.2.2.2 p g k _ hp.1 hp.2 hg.1 hg.2 hk.1 hk.2 hmin.1 hmin.2]
    by_cases hle : c ≤ pX3_levels q - 1
    · rw [Int.min_eq_left hle]
    · have hl := leftN_le hs g
      have e3 := h.2.2.2.1
      have he : pX3_levels q - 1 = zr (sNeed (pX3_street q)) 0 (pX2_traders (pX3_street q)) := by
        rw [e3] at hle ⊢
        unfold sLev at hle ⊢
        omega
      exact opt_sat hs 24 p g _ _ _ hp.1 (by omega) (by omega) (by omega)
theorem s_wa124 (n : Nat) (k60 : Int → Int → Int → Int → Int → Int → Int → Int → BX3 → BX3 → Option Int) {q w : BX3} {b : BX2} (hq : Pq q) (hw : Pq w) (hs : Same (pX3_street q) b) (hwb : pX3_street w = mTurn b) (hb : S2 b) {st en sp busy lk rk left : Int} (hst : 0 ≤ st ∧ st ≤ pX2_pitches b) (hen : 0 ≤ en ∧ en ≤ pX2_pitches b) (hsp : sp ≤ pX2_covers b) (hlk : 0 ≤ lk ∧ lk < pX3_kinds w) (hrk : 0 ≤ rk ∧ rk < pX3_kinds q) (hl : 0 ≤ left ∧ left < zShl 1 (pX2_traders b)) (hlb : 0 ≤ zOr left busy ∧ zOr left busy < zShl 1 (pX2_traders b)) :
    ∀ (fu : Nat) (c m : Int), 0 ≤ c → c ≤ sp + 1 → sp - c + 1 < fu → 0 ≤ m → m ≤ 3000000 →
    ∃ m', g_X3_worthAround_124 n k60 fu st en sp busy lk rk m left ((((pX2_pitches b - st) * pX3_sets w + (zShl 1 (pX2_traders b) - 1 - left)) * pX3_kinds w + lk) * pX3_levels w) (((en * pX3_sets q + zOr left busy) * pX3_kinds q + rk) * pX3_levels q) c q w = oR (left + 1) (k60 st en sp busy lk rk m' (left + 1) q w) ∧ m ≤ m' ∧ m' ≤ 3000000 ∧ (∀ c', c ≤ c' → c' ≤ sp → VW b st (pX3_barred w lk) en (pX3_barred q rk) busy sp left c' ≤ m') ∧ (m' = m ∨ ∃ c', c ≤ c' ∧ c' ≤ sp ∧ m' = VW b st (pX3_barred w lk) en (pX3_barred q rk) busy sp left c') := by
  have hp := hb.pit
  have hcv := hb.cov
  have hTS := (W2_turn hb).s
  obtain ⟨e1, e2, e3, e4, e5, e6, e7, e8, e9, e10, e11⟩ := mTurn_eqs b
  have hSq : pX3_sets q = zShl 1 (pX2_traders b) := by rw [hq.2.1, hs.2.2.2.2.1]
  have hSw : pX3_sets w = zShl 1 (pX2_traders b) := by rw [hw.2.1, hwb, e5]
  intro fu
  induction fu with
  | zero => intro c m c0 h0 h1; omega
  | succ fu ih =>
    intro c m c0 c1 hf m0 m1
    rw [g_X3_worthAround_124.eq_2]
    by_cases hc : sp < c
    · rw [if_pos hc]
      exact ⟨m, rfl, Int.le_refl _, m1, fun c' h1 h2 => by omega, .inl rfl⟩
    · obtain ⟨a1, a2, a3⟩ := Pq_tab hw (p := pX2_pitches b - st) (g := zShl 1 (pX2_traders b) - 1 - left) (k := lk) (c := c) (by rw [hwb, e1]; omega) (by rw [hSw]; omega) hlk (by rw [hwb, e11]; omega)
      obtain ⟨b1, b2, b3⟩ := Pq_tab hq (p := en) (g := zOr left busy) (k := rk) (c := sp - c) (by rw [hs.1]; omega) (by rw [hSq]; omega) hrk (by rw [hs.2.2.2.2.2.2.2.2.2.2]; omega)
      rw [hwb] at a3
      rw [hs.optE] at b3
      have o1 := opt_r hTS (p := pX2_pitches b - st) (zShl 1 (pX2_traders b) - 1 - left) (pX3_barred w lk) c (by omega)
      have o2 := opt_r hb (p := en) (zOr left busy) (pX3_barred q rk) (sp - c) hen.1
      rw [if_neg hc, a1, oB_some, qA_ok a2.1 a2.2.1 a2.2.2, oR_ok (by omega) (by omega), b1, oB_some, qA_ok b2.1 b2.2.1 b2.2.2, a3, b3, oR_ok (by omega) (by omega), oL_def, oL_def, oR_ok (by omega) (by omega)]
      have hV : VW b st (pX3_barred w lk) en (pX3_barred q rk) busy sp left c = opt (mTurn b) (pX2_pitches b - st) (zShl 1 (pX2_traders b) - 1 - left) (pX3_barred w lk) c + opt b en (zOr left busy) (pX3_barred q rk) (sp - c) := rfl
      have hVb : 0 ≤ VW b st (pX3_barred w lk) en (pX3_barred q rk) busy sp left c ∧ VW b st (pX3_barred w lk) en (pX3_barred q rk) busy sp left c ≤ 2304000 := by rw [hV]; omega
      rw [← hV]
      obtain ⟨m', i1, i2, i3, i4, i5⟩ := ih (c + 1) (max m (VW b st (pX3_barred w lk) en (pX3_barred q rk) busy sp left c)) (by omega) (by omega) (by omega) (by omega) (by omega)
      refine ⟨m', i1, by omega, i3, ?_, ?_⟩
      · intro c' h1 h2
        by_cases hcc : c' = c
        · rw [hcc]; omega
        · exact i4 c' (by omega) h2
      · rcases i5 with i5 | ⟨c', j1, j2, j3⟩
        · by_cases hmx : VW b st (pX3_barred w lk) en (pX3_barred q rk) busy sp left c ≤ m
          · left; omega
          · right; exact ⟨c, Int.le_refl _, by omega, by omega⟩
        · right; exact ⟨c', by omega, j2, j3⟩
theorem s_wa60 (n : Nat) (hn : 1000 ≤ n) {q w : BX3} {b : BX2} (hq : Pq q) (hw : Pq w) (hs : Same (pX3_street q) b) (hwb : pX3_street w = mTurn b) (hb : S2 b) {st en sp busy lk rk : Int} (hst : 0 ≤ st ∧ st ≤ pX2_pitches b) (hen : 0 ≤ en ∧ en ≤ pX2_pitches b) (sp0 : 0 ≤ sp) (hsp : sp ≤ pX2_covers b) (hlk : 0 ≤ lk ∧ lk < pX3_kinds w) (hrk : 0 ≤ rk ∧ rk < pX3_kinds q) (hlb : ∀ left, 0 ≤ left → left < zShl 1 (pX2_traders b) → 0 ≤ zOr left busy ∧ zOr left busy < zShl 1 (pX2_traders b)) :
    ∀ (fu : Nat) (left m : Int), 0 ≤ left → left ≤ zShl 1 (pX2_traders b) → zShl 1 (pX2_traders b) - left < fu → 0 ≤ m → m ≤ 3000000 →
    ∃ r, g_X3_worthAround_60 n fu st en sp busy lk rk m left q w = some r ∧ m ≤ r ∧ r ≤ 3000000 ∧ (∀ left' c', left ≤ left' → left' < zShl 1 (pX2_traders b) → zAnd left' busy = 0 → 0 ≤ c' → c' ≤ sp → VW b st (pX3_barred w lk) en (pX3_barred q rk) busy sp left' c' ≤ r) ∧ (r = m ∨ ∃ left' c', left ≤ left' ∧ left' < zShl 1 (pX2_traders b) ∧ zAnd left' busy = 0 ∧ 0 ≤ c' ∧ c' ≤ sp ∧ r = VW b st (pX3_barred w lk) en (pX3_barred q rk) busy sp left' c') := by
  have hp := hb.pit
  have hcv := hb.cov
  obtain ⟨e1, e2, e3, e4, e5, e6, e7, e8, e9, e10, e11⟩ := mTurn_eqs b
  have hSb := sets_b hb
  have hSq : pX3_sets q = zShl 1 (pX2_traders b) := by rw [hq.2.1, hs.2.2.2.2.1]
  have hSw : pX3_sets w = zShl 1 (pX2_traders b) := by rw [hw.2.1, hwb, e5]
  intro fu
  induction fu with
  | zero => intro left m _ h0 h1; omega
  | succ fu ih =>
    intro left m l0 l1 hf m0 m1
    rw [g_X3_worthAround_60.eq_2, hSq]
    by_cases hc : zShl 1 (pX2_traders b) ≤ left
    · rw [if_pos hc]
      exact ⟨m, rfl, Int.le_refl _, m1, fun left' c' h1 h2 => by omega, .inl rfl⟩
    · rw [if_neg hc]
      by_cases hz : zAnd left busy = 0
      · have hcw := s_X3_cell hw.aq.1 (p := pX2_pitches b - st) (g := zShl 1 (pX2_traders b) - 1 - left) (k := lk) (by rw [hwb, e1]; omega) (by rw [hSw]; omega) hlk
        have hcq := s_X3_cell hq.aq.1 (p := en) (g := zOr left busy) (k := rk) (by rw [hs.1]; omega) (by rw [hSq]; exact hlb left l0 (by omega)) hrk
        obtain ⟨m', i1, i2, i3, i4, i5⟩ := s_wa124 n (g_X3_worthAround_60 n fu) hq hw hs hwb hb hst hen hsp hlk hrk ⟨l0, by omega⟩ (hlb left l0 (by omega)) n 0 m (by omega) (by omega) (by omega) m0 m1
        obtain ⟨r, j1, j2, j3, j4, j5⟩ := ih (left + 1) m' (by omega) (by omega) (by omega) (by omega) i3
        rw [if_pos hz, hs.1, oR_ok (by omega) (by omega), oR_ok (by omega) (by omega), hcw, oB_some, hcq, oB_some, i1, oR_ok (by omega) (by omega), j1]
        refine ⟨r, rfl, by omega, j3, ?_, ?_⟩
        · intro left' c' h1 h2 h3 h4 h5
          by_cases hll : left' = left
          · rw [hll]; have := i4 c' h4 h5; omega
          · exact j4 left' c' (by omega) h2 h3 h4 h5
        · rcases j5 with j5 | ⟨left', c', k1, k2, k3, k4, k5, k6⟩
          · rcases i5 with i5 | ⟨c', k1, k2, k3⟩
            · left; omega
            · right; exact ⟨left, c', Int.le_refl _, by omega, hz, k1, k2, by omega⟩
          · right; exact ⟨left', c', by omega, k2, k3, k4, k5, k6⟩
      · obtain ⟨r, j1, j2, j3, j4, j5⟩ := ih (left + 1) m (by omega) (by omega) (by omega) m0 m1
        unfold g_X3_worthAround_182
        rw [if_neg hz, oR_ok (by omega) (by omega), j1]
        refine ⟨r, rfl, j2, j3, ?_, ?_⟩
        · intro left' c' h1 h2 h3 h4 h5
          by_cases hll : left' = left
          · rw [hll] at h3; exact absurd h3 hz
          · exact j4 left' c' (by omega) h2 h3 h4 h5
        · rcases j5 with j5 | ⟨left', c', k1, k2, k3, k4, k5, k6⟩
          · left; exact j5
          · right; exact ⟨left', c', by omega, k2, k3, k4, k5, k6⟩
