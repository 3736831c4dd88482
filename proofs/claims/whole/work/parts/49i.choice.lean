/-! The first choice, and that covers beyond need don't change it. -/
theorem s_X3_firstChoice {n : Nat} (hn : 100 ≤ n) {q : BX3} (h : Pq q) {p u k l : Int} (p0 : 0 ≤ p) (p1 : p < pX2_pitches (pX3_street q)) (hu : 0 ≤ u ∧ u < pX3_sets q) (hk : 0 ≤ k ∧ k < pX3_kinds q) (hl : 0 ≤ l ∧ l < pX3_levels q) : g_X3_firstChoice n q p u k l = some (chF (pX3_street q) p u (pX3_barred q k) l (pX2_traders (pX3_street q)).toNat) := by
  have hA := h.aq
  have ht := hA.1.1.tra
  have hN := hA.1.2.2.2.2.2
  have hix := hA.1.ix (p := p) (g := u) (k := k) (l := l) (by omega) hu hk hl
  unfold tix at hix
  have htab := h.2.2.2.2.2.2.2.2 p u k l p0 (by omega) hu.1 hu.2 hk.1 hk.2 hl.1 hl.2
  unfold g_X3_firstChoice
  rw [s_X3_cell hA.1 (by omega) hu hk, oB_some, qA_ok hix.1 hix.2 (by omega), oL_def, htab]
  exact s_X3_firstChoice_20 n h p0 p1 hu hk hl n 0 (by omega) (by omega) (by omega) rfl
theorem cand_sat {b : BX2} (hb : S2 b) {p u z l m t : Int} (p0 : 0 ≤ p) (p1 : p < pX2_pitches b) (t0 : 0 ≤ t) (t1 : t < pX2_traders b) (hl : leftN b u ≤ l) (hm : leftN b u ≤ m) : cand b p u z l t = cand b p u z m t := by
  have hp := hb.pit
  have hf := hb.fr t0 t1
  have hmf := mFor_b b t p (by omega)
  unfold cand
  by_cases hk : ¬ zbit u t ∧ mPos b t p ∧ ¬ zbit z t
  · have hsn := sNeed_ge p0 p1 hk.2.1
    have hor := leftN_or hb t0 t1 hk.1
    have hnn := leftN_nn hb (zOr u (zShl 1 t))
    rw [cif_pos ⟨hk.1, hk.2.1, hk.2.2, by omega⟩, cif_pos ⟨hk.1, hk.2.1, hk.2.2, by omega⟩, opt_sat hb 24 (p + pX2_fronts b t) (zOr u (zShl 1 t)) (mBehind b t p) (l - mFor b t p) (m - mFor b t p) (by omega) (by omega) (by omega) (by omega)]
  · rw [cif_neg (fun x => hk ⟨x.1, x.2.1, x.2.2.1⟩), cif_neg (fun x => hk ⟨x.1, x.2.1, x.2.2.1⟩)]
theorem chF_sat {b : BX2} (hb : S2 b) {p u z l m : Int} (p0 : 0 ≤ p) (p1 : p < pX2_pitches b) (hl : leftN b u ≤ l) (hm : leftN b u ≤ m) : ∀ k : Nat, (k : Int) ≤ pX2_traders b → chF b p u z l k = chF b p u z m k := by
  have hp := hb.pit
  intro k
  induction k with
  | zero => intro _; rfl
  | succ k ih =>
    intro hk
    rw [chF.eq_2, chF.eq_2, ih (by omega), cand_sat hb p0 p1 (by omega) (by omega) hl hm, opt_sat hb 24 p u z l m p0 (by omega) hl hm]
theorem chF_r (b : BX2) (p u z l : Int) : ∀ k : Nat, chF b p u z l k = -1 ∨ (0 ≤ chF b p u z l k ∧ chF b p u z l k < k ∧ cand b p u z l (chF b p u z l k) = opt b p u z l) := by
  intro k
  induction k with
  | zero => exact .inl rfl
  | succ k ih =>
    rw [chF.eq_2]
    by_cases h : chF b p u z l k = -1 ∧ cand b p u z l k = opt b p u z l
    · rw [cif_pos h]; exact .inr ⟨by omega, by omega, h.2⟩
    · rw [cif_neg h]
      rcases ih with h1 | h1
      · exact .inl h1
      · exact .inr ⟨h1.1, by omega, h1.2.2⟩
