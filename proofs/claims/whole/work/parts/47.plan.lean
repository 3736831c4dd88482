/-! The planner's plan. -/
def RowOK (q : BX3) (p g : Int) : Prop := ∀ k l, 0 ≤ k → k < pX3_kinds q → 0 ≤ l → l < pX3_levels q → Tb q (p * pX3_sets q + g) k l = opt (pX3_street q) p g (pX3_barred q k) l
theorem row_ne {S p g p' g' : Int} (hg : 0 ≤ g ∧ g < S) (hg' : 0 ≤ g' ∧ g' < S) (h : ¬ (p = p' ∧ g = g')) : p * S + g ≠ p' * S + g' := fun e => h (ma_inj hg hg' e)
theorem s_X3_tryStart {n : Nat} (hn : 100 ≤ n) {q : BX3} (h : Aq q) {t p g : Int} (t0 : 0 ≤ t) (t1 : t < pX2_traders (pX3_street q)) (p0 : 0 ≤ p) (p1 : p < pX2_pitches (pX3_street q)) (hg : 0 ≤ g ∧ g < pX3_sets q) (hpos : mPos (pX3_street q) t p) (hrow : ∀ p' g', p < p' → p' ≤ pX2_pitches (pX3_street q) → 0 ≤ g' → g' < pX3_sets q → RowOK q p' g') :
    ∃ q', g_X3_tryStart n q t p g = some q' ∧ Rt q q' ∧ (∀ R' k' l', 0 ≤ k' → k' < pX3_kinds q → 0 ≤ l' → l' < pX3_levels q → Tb q' R' k' l' = cif (R' = p * pX3_sets q + g ∧ ¬ zbit (pX3_barred q k') t ∧ mFor (pX3_street q) t p ≤ l') (max (Tb q (p * pX3_sets q + g) k' l') (16 * mRent (pX3_street q) t p + 1 + opt (pX3_street q) (p + pX2_fronts (pX3_street q) t) (zOr g (zShl 1 t)) (mBehind (pX3_street q) t p) (l' - mFor (pX3_street q) t p))) (Tb q R' k' l')) := by
  have hs := h.1.1
  have ht := hs.tra
  have hp := hs.pit
  have hf := hs.fr t0 t1
  have hK := h.1.2.2.1
  have hV := h.1.2.2.2.1
  have hl := mInRow_lt hpos.1
  have hr := mRent_b hs t0 t1 p0
  have hm := mFor_b (pX3_street q) t p (by omega)
  obtain ⟨b1, b2, b3⟩ := h.2.2.1 t p t0 t1 p0 p1
  rw [cif_pos hpos] at b1
  obtain ⟨kk1, kk2⟩ := h.2.2.2.2 t t0 t1
  have hg2 : 0 ≤ zOr g (zShl 1 t) ∧ zOr g (zShl 1 t) < pX3_sets q := by rw [h.2.1] at hg ⊢; exact or_lt ht hg ⟨t0, t1⟩
  have hkb : 0 ≤ pX3_kindsBehind q (t * 24 + p) ∧ pX3_kindsBehind q (t * 24 + p) < pX3_kinds q := by
    rw [b3]
    by_cases hsh : mShare (pX3_street q) (p + pX2_fronts (pX3_street q) t - 1) (p + pX2_fronts (pX3_street q) t)
    · rw [cif_pos hsh]; exact kk1
    · rw [cif_neg hsh]; omega
  have hbar : pX3_barred q (pX3_kindsBehind q (t * 24 + p)) = mBehind (pX3_street q) t p := by
    rw [b3]
    unfold mBehind
    by_cases hsh : mShare (pX3_street q) (p + pX2_fronts (pX3_street q) t - 1) (p + pX2_fronts (pX3_street q) t)
    · rw [cif_pos hsh, cif_pos hsh]; exact kk2
    · rw [cif_neg hsh, cif_neg hsh]; exact h.2.2.2.1
  have hR2 := hrow (p + pX2_fronts (pX3_street q) t) (zOr g (zShl 1 t)) (by omega) (by omega) hg2.1 hg2.2
  have c1 := h.1.ix (p := p + pX2_fronts (pX3_street q) t) (g := zOr g (zShl 1 t)) (k := pX3_kindsBehind q (t * 24 + p)) (l := 0) (by omega) hg2 hkb (by omega)
  unfold tix at c1
  have hN := h.1.2.2.2.2.2
  unfold g_X3_tryStart g_X3_cellAfter
  rw [oR_ok (by omega) (by omega), oL_def, qA_ok (by omega) (by omega) (by omega), oL_def, qA_ok (by omega) (by omega) (by omega), oL_def, s_X3_cell h.1 (by omega) hg (by omega), oB_some, qA_ok (by omega) (by omega) (by omega), oL_def, qA_ok t0 (by omega) (by omega), oR_ok (by omega) (by omega), s_X3_cell h.1 (by omega) hg2 hkb, oB_some, oB_some, oR_ok (by omega) (by omega), oL_def, b1, b2]
  obtain ⟨q', g1, g2, g3⟩ := s_X3_56 n hn (t := t) (own := 16 * mRent (pX3_street q) t p + 1) (need := mFor (pX3_street q) t p) (R := p * pX3_sets q + g) (R2 := (p + pX2_fronts (pX3_street q) t) * pX3_sets q + zOr g (zShl 1 t)) (kb := pX3_kindsBehind q (t * 24 + p)) t0 (by omega) (by omega) hm.1 (row_ne hg hg2 (by omega)) n 0 q h.1 (row_b (by omega) hg) (row_b (by omega) hg2) (by omega) hkb (by omega) (by omega) (fun l' d1 d2 => by
    rw [hR2 _ _ hkb.1 hkb.2 d1 d2]
    have := opt_r hs (p := p + pX2_fronts (pX3_street q) t) (zOr g (zShl 1 t)) (pX3_barred q (pX3_kindsBehind q (t * 24 + p))) l' (by omega)
    omega)
  refine ⟨q', g1, g2, fun R' k' l' a1 a2 a3 a4 => ?_⟩
  rw [g3 R' k' l' a1 a2 a3 a4]
  by_cases c2 : R' = p * pX3_sets q + g ∧ ¬ zbit (pX3_barred q k') t ∧ mFor (pX3_street q) t p ≤ l'
  · rw [cif_pos c2, cif_pos ⟨c2.1, a1, c2.2⟩, hR2 _ _ hkb.1 hkb.2 (by omega) (by omega), hbar]
  · rw [cif_neg c2, cif_neg (fun x => c2 ⟨x.1, x.2.2⟩)]
theorem s_X3_fill_85 (n : Nat) (hn : 100 ≤ n) {p g : Int} : ∀ (fu : Nat) (x : Nat) (q : BX3), Aq q → 0 ≤ p → p < pX2_pitches (pX3_street q) → (0 ≤ g ∧ g < pX3_sets q) → (x : Int) ≤ pX2_traders (pX3_street q) → 0 < fu → pX2_traders (pX3_street q) - x < fu → (∀ p' g', p < p' → p' ≤ pX2_pitches (pX3_street q) → 0 ≤ g' → g' < pX3_sets q → RowOK q p' g') →
    (∀ k l, 0 ≤ k → k < pX3_kinds q → 0 ≤ l → l < pX3_levels q → Tb q (p * pX3_sets q + g) k l = zmx (cand (pX3_street q) p g (pX3_barred q k) l) (opt (pX3_street q) (p + 1) g 0 l) x) →
    ∃ q', g_X3_fill_85 n fu p g x q = some q' ∧ Rt q q' ∧ RowOK q' p g ∧ (∀ R' k' l', R' ≠ p * pX3_sets q + g → 0 ≤ k' → k' < pX3_kinds q → 0 ≤ l' → l' < pX3_levels q → Tb q' R' k' l' = Tb q R' k' l') := by
  intro fu
  induction fu with
  | zero => intro x q _ _ _ _ _ h0; omega
  | succ fu ih =>
    intro x q hq p0 p1 hg x1 _ hf hrow hacc
    have hs := hq.1.1
    have ht := hs.tra
    have hp := hs.pit
    rw [g_X3_fill_85.eq_2]
    by_cases hc : pX2_traders (pX3_street q) ≤ x
    · rw [if_pos hc]
      refine ⟨q, rfl, Rt.rfl' q, fun k l a b c d => ?_, fun _ _ _ _ _ _ _ _ => rfl⟩
      rw [hacc k l a b c d, opt_step hs p1, show (pX2_traders (pX3_street q)).toNat = x by omega]
    · rw [if_neg hc, s_X3_canCome hq g (by omega) (by omega) p0 p1, oB_some]
      unfold g_X3_fill_116
      have hpos0 : ∀ l, 0 ≤ opt (pX3_street q) (p + 1) g 0 l := fun l => (opt_r hs g 0 l (by omega)).1
      by_cases hcan : ¬ zbit g x ∧ mPos (pX3_street q) x p
      · rw [zB_pos hcan, if_neg (by omega)]
        obtain ⟨q1, g1, g2, g3⟩ := s_X3_tryStart hn hq (t := x) (by omega) (by omega) p0 p1 hg hcan.2 hrow
        obtain ⟨f1, f2, f3, f4, f5, f6, f7, f8, f9, f10⟩ := g2.eqs
        rw [g1, oB_some, oR_ok (by omega) (by omega)]
        have := ih (x + 1) q1 (g2.aq hq) p0 (by rw [f1]; exact p1) (by rw [f3]; exact hg) (by rw [f1]; omega) (by omega) (by rw [f1]; omega) (by
          intro p' g' c1 c2 c3 c4
          rw [f1] at c2
          rw [f3] at c4
          intro k l a b c d
          rw [f4] at b
          rw [f5] at d
          rw [f1, f3, f10, g3 _ _ _ a b c d, cif_neg (fun h => row_ne ⟨c3, c4⟩ hg (by omega) h.1)]
          exact hrow p' g' c1 c2 c3 c4 k l a b c d) (by
          intro k l a b c d
          rw [f4] at b
          rw [f5] at d
          rw [f1, f3, f10, g3 _ _ _ a b c d]
          have ez : zmx (cand (pX3_street q) p g (pX3_barred q k) l) (opt (pX3_street q) (p + 1) g 0 l) (x + 1) = max (zmx (cand (pX3_street q) p g (pX3_barred q k) l) (opt (pX3_street q) (p + 1) g 0 l) x) (cand (pX3_street q) p g (pX3_barred q k) l x) := rfl
          rw [ez]
          by_cases c2 : p * pX3_sets q + g = p * pX3_sets q + g ∧ ¬ zbit (pX3_barred q k) x ∧ mFor (pX3_street q) x p ≤ l
          · rw [cif_pos c2, hacc k l a b c d]
            have : cand (pX3_street q) p g (pX3_barred q k) l x = 16 * mRent (pX3_street q) x p + 1 + opt (pX3_street q) (p + pX2_fronts (pX3_street q) x) (zOr g (zShl 1 x)) (mBehind (pX3_street q) x p) (l - mFor (pX3_street q) x p) := by
              unfold cand; rw [cif_pos ⟨hcan.1, hcan.2, c2.2⟩]
            rw [this]
          · have : cand (pX3_street q) p g (pX3_barred q k) l x = -1 := by
              unfold cand; rw [cif_neg (fun h => c2 ⟨rfl, h.2.2⟩)]
            rw [cif_neg c2, hacc k l a b c d, this]
            have h1 := zmx_ge (cand (pX3_street q) p g (pX3_barred q k) l) (opt (pX3_street q) (p + 1) g 0 l) x
            have h2 := hpos0 l
            omega)
        obtain ⟨q', j1, j2, j3, j4⟩ := this
        refine ⟨q', j1, g2.trans j2, j3, fun R' k' l' h0 a b c d => ?_⟩
        rw [f3, f4, f5] at j4
        rw [j4 R' k' l' h0 a b c d, g3 _ _ _ a b c d, cif_neg (fun h => h0 h.1)]
      · rw [zB_neg hcan, if_pos rfl, oR_ok (by omega) (by omega)]
        refine ih (x + 1) q hq p0 p1 hg (by omega) (by omega) (by omega) hrow ?_
        intro k l a b c d
        have ez : zmx (cand (pX3_street q) p g (pX3_barred q k) l) (opt (pX3_street q) (p + 1) g 0 l) (x + 1) = max (zmx (cand (pX3_street q) p g (pX3_barred q k) l) (opt (pX3_street q) (p + 1) g 0 l) x) (cand (pX3_street q) p g (pX3_barred q k) l x) := rfl
        have : cand (pX3_street q) p g (pX3_barred q k) l x = -1 := by
          unfold cand; rw [cif_neg (fun h => hcan ⟨h.1, h.2.1⟩)]
        rw [ez, hacc k l a b c d, this]
        have h1 := zmx_ge (cand (pX3_street q) p g (pX3_barred q k) l) (opt (pX3_street q) (p + 1) g 0 l) x
        have h2 := hpos0 l
        omega
theorem s_X3_fill {n : Nat} (hn : 100 ≤ n) {q : BX3} (h : Aq q) {p g : Int} (p0 : 0 ≤ p) (p1 : p < pX2_pitches (pX3_street q)) (hg : 0 ≤ g ∧ g < pX3_sets q) (hrow : ∀ p' g', p < p' → p' ≤ pX2_pitches (pX3_street q) → 0 ≤ g' → g' < pX3_sets q → RowOK q p' g') :
    ∃ q', g_X3_fill n q p g = some q' ∧ Rt q q' ∧ RowOK q' p g ∧ (∀ R' k' l', R' ≠ p * pX3_sets q + g → 0 ≤ k' → k' < pX3_kinds q → 0 ≤ l' → l' < pX3_levels q → Tb q' R' k' l' = Tb q R' k' l') := by
  have hs := h.1.1
  have ht := hs.tra
  have hp := hs.pit
  have hK := h.1.2.2.1
  have hV := h.1.2.2.2.1
  unfold g_X3_fill
  rw [s_X3_cell h.1 (by omega) hg (by omega), oB_some, oR_ok (by omega) (by omega), s_X3_cell h.1 (by omega) hg (by omega), oB_some]
  obtain ⟨q1, g1, g2, g3⟩ := s_X3_fill_22 n hn (p := p) (g := g) n 0 q h.1 ⟨p0, p1⟩ hg (by omega) (by omega) (by omega) (by omega)
  obtain ⟨f1, f2, f3, f4, f5, f6, f7, f8, f9, f10⟩ := g2.eqs
  rw [g1]
  have := s_X3_fill_85 n hn (p := p) (g := g) n 0 q1 (g2.aq h) p0 (by rw [f1]; exact p1) (by rw [f3]; exact hg) (by rw [f1]; omega) (by omega) (by rw [f1]; omega) (by
    intro p' g' c1 c2 c3 c4
    rw [f1] at c2
    rw [f3] at c4
    intro k l a b c d
    rw [f4] at b
    rw [f5] at d
    rw [f1, f3, f10, g3 _ _ _ a b c d, if_neg (fun x => row_ne ⟨c3, c4⟩ hg (by omega) x.1)]
    exact hrow p' g' c1 c2 c3 c4 k l a b c d) (by
    intro k l a b c d
    rw [f4] at b
    rw [f5] at d
    rw [f1, f3, f10, g3 _ _ _ a b c d, if_pos ⟨rfl, a⟩, hrow (p + 1) g (by omega) (by omega) hg.1 hg.2 0 l (by omega) (by omega) c d, h.2.2.2.1]
    rfl)
  obtain ⟨q', j1, j2, j3, j4⟩ := this
  rw [f3, f4, f5] at j4
  refine ⟨q', j1, g2.trans j2, j3, fun R' k' l' h0 a b c d => ?_⟩
  rw [j4 R' k' l' h0 a b c d, g3 _ _ _ a b c d, if_neg (fun x => h0 x.1)]
