/-! The planner's blocks: worths, needs, kinds behind. -/
def Bk (q : BX3) (t p : Int) : Prop :=
  pX3_worths q (t * 24 + p) = cif (mPos (pX3_street q) t p) (16 * mRent (pX3_street q) t p + 1) 0 ∧
  pX3_needs q (t * 24 + p) = mFor (pX3_street q) t p ∧
  pX3_kindsBehind q (t * 24 + p) = cif (mShare (pX3_street q) (p + pX2_fronts (pX3_street q) t - 1) (p + pX2_fronts (pX3_street q) t)) (pX3_kindOf q t) 0
def MB (q : BX3) (t p : Int) : Prop := ∀ u r, 0 ≤ u → u < pX2_traders (pX3_street q) → 0 ≤ r → r < pX2_pitches (pX3_street q) → (u < t ∨ (u = t ∧ r < p)) → Bk q u r
def Rm (q q' : BX3) : Prop := pX3_street q' = pX3_street q ∧ pX3_table q' = pX3_table q ∧ pX3_tableN q' = pX3_tableN q ∧ pX3_sets q' = pX3_sets q ∧ pX3_kinds q' = pX3_kinds q ∧ pX3_kindOf q' = pX3_kindOf q ∧ pX3_barred q' = pX3_barred q
theorem Rm.trans {p q r : BX3} (h : Rm p q) (k : Rm q r) : Rm p r := by
  obtain ⟨a1, a2, a3, a4, a5, a6, a7⟩ := h
  obtain ⟨b1, b2, b3, b4, b5, b6, b7⟩ := k
  exact ⟨b1.trans a1, b2.trans a2, b3.trans a3, b4.trans a4, b5.trans a5, b6.trans a6, b7.trans a7⟩
noncomputable def mStep (q : BX3) (t p : Int) : BX3 :=
  sX3_kindsBehind (sX3_needs (sX3_worths q (updZ (pX3_worths q) (t * 24 + p) (cif (mPos (pX3_street q) t p) (16 * mRent (pX3_street q) t p + 1) 0))) (updZ (pX3_needs q) (t * 24 + p) (mFor (pX3_street q) t p))) (updZ (pX3_kindsBehind q) (t * 24 + p) (cif (mShare (pX3_street q) (p + pX2_fronts (pX3_street q) t - 1) (p + pX2_fronts (pX3_street q) t)) (pX3_kindOf q t) 0))
theorem mStep_Rm (q : BX3) (t p : Int) : Rm q (mStep q t p) := by
  unfold mStep
  refine ⟨?_, ?_, ?_, ?_, ?_, ?_, ?_⟩ <;> simp only [eX3_street_street, eX3_street_table, eX3_street_tableN, eX3_street_sets, eX3_street_kinds, eX3_street_levels, eX3_street_worths, eX3_street_needs, eX3_street_kindsBehind, eX3_street_kindOf, eX3_street_barred, eX3_table_street, eX3_table_table, eX3_table_tableN, eX3_table_sets, eX3_table_kinds, eX3_table_levels, eX3_table_worths, eX3_table_needs, eX3_table_kindsBehind, eX3_table_kindOf, eX3_table_barred, eX3_tableN_street, eX3_tableN_table, eX3_tableN_tableN, eX3_tableN_sets, eX3_tableN_kinds, eX3_tableN_levels, eX3_tableN_worths, eX3_tableN_needs, eX3_tableN_kindsBehind, eX3_tableN_kindOf, eX3_tableN_barred, eX3_sets_street, eX3_sets_table, eX3_sets_tableN, eX3_sets_sets, eX3_sets_kinds, eX3_sets_levels, eX3_sets_worths, eX3_sets_needs, eX3_sets_kindsBehind, eX3_sets_kindOf, eX3_sets_barred, eX3_kinds_street, eX3_kinds_table, eX3_kinds_tableN, eX3_kinds_sets, eX3_kinds_kinds, eX3_kinds_levels, eX3_kinds_worths, eX3_kinds_needs, eX3_kinds_kindsBehind, eX3_kinds_kindOf, eX3_kinds_barred, eX3_levels_street, eX3_levels_table, eX3_levels_tableN, eX3_levels_sets, eX3_levels_kinds, eX3_levels_levels, eX3_levels_worths, eX3_levels_needs, eX3_levels_kindsBehind, eX3_levels_kindOf, eX3_levels_barred, eX3_worths_street, eX3_worths_table, eX3_worths_tableN, eX3_worths_sets, eX3_worths_kinds, eX3_worths_levels, eX3_worths_worths, eX3_worths_needs, eX3_worths_kindsBehind, eX3_worths_kindOf, eX3_worths_barred, eX3_needs_street, eX3_needs_table, eX3_needs_tableN, eX3_needs_sets, eX3_needs_kinds, eX3_needs_levels, eX3_needs_worths, eX3_needs_needs, eX3_needs_kindsBehind, eX3_needs_kindOf, eX3_needs_barred, eX3_kindsBehind_street, eX3_kindsBehind_table, eX3_kindsBehind_tableN, eX3_kindsBehind_sets, eX3_kindsBehind_kinds, eX3_kindsBehind_levels, eX3_kindsBehind_worths, eX3_kindsBehind_needs, eX3_kindsBehind_kindsBehind, eX3_kindsBehind_kindOf, eX3_kindsBehind_barred, eX3_kindOf_street, eX3_kindOf_table, eX3_kindOf_tableN, eX3_kindOf_sets, eX3_kindOf_kinds, eX3_kindOf_levels, eX3_kindOf_worths, eX3_kindOf_needs, eX3_kindOf_kindsBehind, eX3_kindOf_kindOf, eX3_kindOf_barred, eX3_barred_street, eX3_barred_table, eX3_barred_tableN, eX3_barred_sets, eX3_barred_kinds, eX3_barred_levels, eX3_barred_worths, eX3_barred_needs, eX3_barred_kindsBehind, eX3_barred_kindOf, eX3_barred_barred]
theorem mStep_MB {q : BX3} {t p : Int} (hs : S2 (pX3_street q)) (p0 : 0 ≤ p) (p1 : p < pX2_pitches (pX3_street q)) (h : MB q t p) : MB (mStep q t p) t (p + 1) := by
  have hp := hs.pit
  obtain ⟨e1, e2, e3, e4, e5, e6, e7⟩ := mStep_Rm q t p
  have w1 : pX3_worths (mStep q t p) = updZ (pX3_worths q) (t * 24 + p) (cif (mPos (pX3_street q) t p) (16 * mRent (pX3_street q) t p + 1) 0) := by unfold mStep; simp only [eX3_street_street, eX3_street_table, eX3_street_tableN, eX3_street_sets, eX3_street_kinds, eX3_street_levels, eX3_street_worths, eX3_street_needs, eX3_street_kindsBehind, eX3_street_kindOf, eX3_street_barred, eX3_table_street, eX3_table_table, eX3_table_tableN, eX3_table_sets, eX3_table_kinds, eX3_table_levels, eX3_table_worths, eX3_table_needs, eX3_table_kindsBehind, eX3_table_kindOf, eX3_table_barred, eX3_tableN_street, eX3_tableN_table, eX3_tableN_tableN, eX3_tableN_sets, eX3_tableN_kinds, eX3_tableN_levels, eX3_tableN_worths, eX3_tableN_needs, eX3_tableN_kindsBehind, eX3_tableN_kindOf, eX3_tableN_barred, eX3_sets_street, eX3_sets_table, eX3_sets_tableN, eX3_sets_sets, eX3_sets_kinds, eX3_sets_levels, eX3_sets_worths, eX3_sets_needs, eX3_sets_kindsBehind, eX3_sets_kindOf, eX3_sets_barred, eX3_kinds_street, eX3_kinds_table, eX3_kinds_tableN, eX3_kinds_sets, eX3_kinds_kinds, eX3_kinds_levels, eX3_kinds_worths, eX3_kinds_needs, eX3_kinds_kindsBehind, eX3_kinds_kindOf, eX3_kinds_barred, eX3_levels_street, eX3_levels_table, eX3_levels_tableN, eX3_levels_sets, eX3_levels_kinds, eX3_levels_levels, eX3_levels_worths, eX3_levels_needs, eX3_levels_kindsBehind, eX3_levels_kindOf, eX3_levels_barred, eX3_worths_street, eX3_worths_table, eX3_worths_tableN, eX3_worths_sets, eX3_worths_kinds, eX3_worths_levels, eX3_worths_worths, eX3_worths_needs, eX3_worths_kindsBehind, eX3_worths_kindOf, eX3_worths_barred, eX3_needs_street, eX3_needs_table, eX3_needs_tableN, eX3_needs_sets, eX3_needs_kinds, eX3_needs_levels, eX3_needs_worths, eX3_needs_needs, eX3_needs_kindsBehind, eX3_needs_kindOf, eX3_needs_barred, eX3_kindsBehind_street, eX3_kindsBehind_table, eX3_kindsBehind_tableN, eX3_kindsBehind_sets, eX3_kindsBehind_kinds, eX3_kindsBehind_levels, eX3_kindsBehind_worths, eX3_kindsBehind_needs, eX3_kindsBehind_kindsBehind, eX3_kindsBehind_kindOf, eX3_kindsBehind_barred, eX3_kindOf_street, eX3_kindOf_table, eX3_kindOf_tableN, eX3_kindOf_sets, eX3_kindOf_kinds, eX3_kindOf_levels, eX3_kindOf_worths, eX3_kindOf_needs, eX3_kindOf_kindsBehind, eX3_kindOf_kindOf, eX3_kindOf_barred, eX3_barred_street, eX3_barred_table, eX3_barred_tableN, eX3_barred_sets, eX3_barred_kinds, eX3_barred_levels, eX3_barred_worths, eX3_barred_needs, eX3_barred_kindsBehind, eX3_barred_kindOf, eX3_barred_barred]
  have w2 : pX3_needs (mStep q t p) = updZ (pX3_needs q) (t * 24 + p) (mFor (pX3_street q) t p) := by unfold mStep; simp only [eX3_street_street, eX3_street_table, eX3_street_tableN, eX3_street_sets, eX3_street_kinds, eX3_street_levels, eX3_street_worths, eX3_street_needs, eX3_street_kindsBehind, eX3_street_kindOf, eX3_street_barred, eX3_table_street, eX3_table_table, eX3_table_tableN, eX3_table_sets, eX3_table_kinds, eX3_table_levels, eX3_table_worths, eX3_table_needs, eX3_table_kindsBehind, eX3_table_kindOf, eX3_table_barred, eX3_tableN_street, eX3_tableN_table, eX3_tableN_tableN, eX3_tableN_sets, eX3_tableN_kinds, eX3_tableN_levels, eX3_tableN_worths, eX3_tableN_needs, eX3_tableN_kindsBehind, eX3_tableN_kindOf, eX3_tableN_barred, eX3_sets_street, eX3_sets_table, eX3_sets_tableN, eX3_sets_sets, eX3_sets_kinds, eX3_sets_levels, eX3_sets_worths, eX3_sets_needs, eX3_sets_kindsBehind, eX3_sets_kindOf, eX3_sets_barred, eX3_kinds_street, eX3_kinds_table, eX3_kinds_tableN, eX3_kinds_sets, eX3_kinds_kinds, eX3_kinds_levels, eX3_kinds_worths, eX3_kinds_needs, eX3_kinds_kindsBehind, eX3_kinds_kindOf, eX3_kinds_barred, eX3_levels_street, eX3_levels_table, eX3_levels_tableN, eX3_levels_sets, eX3_levels_kinds, eX3_levels_levels, eX3_levels_worths, eX3_levels_needs, eX3_levels_kindsBehind, eX3_levels_kindOf, eX3_levels_barred, eX3_worths_street, eX3_worths_table, eX3_worths_tableN, eX3_worths_sets, eX3_worths_kinds, eX3_worths_levels, eX3_worths_worths, eX3_worths_needs, eX3_worths_kindsBehind, eX3_worths_kindOf, eX3_worths_barred, eX3_needs_street, eX3_needs_table, eX3_needs_tableN, eX3_needs_sets, eX3_needs_kinds, eX3_needs_levels, eX3_needs_worths, eX3_needs_needs, eX3_needs_kindsBehind, eX3_needs_kindOf, eX3_needs_barred, eX3_kindsBehind_street, eX3_kindsBehind_table, eX3_kindsBehind_tableN, eX3_kindsBehind_sets, eX3_kindsBehind_kinds, eX3_kindsBehind_levels, eX3_kindsBehind_worths, eX3_kindsBehind_needs, eX3_kindsBehind_kindsBehind, eX3_kindsBehind_kindOf, eX3_kindsBehind_barred, eX3_kindOf_street, eX3_kindOf_table, eX3_kindOf_tableN, eX3_kindOf_sets, eX3_kindOf_kinds, eX3_kindOf_levels, eX3_kindOf_worths, eX3_kindOf_needs, eX3_kindOf_kindsBehind, eX3_kindOf_kindOf, eX3_kindOf_barred, eX3_barred_street, eX3_barred_table, eX3_barred_tableN, eX3_barred_sets, eX3_barred_kinds, eX3_barred_levels, eX3_barred_worths, eX3_barred_needs, eX3_barred_kindsBehind, eX3_barred_kindOf, eX3_barred_barred]
  have w3 : pX3_kindsBehind (mStep q t p) = updZ (pX3_kindsBehind q) (t * 24 + p) (cif (mShare (pX3_street q) (p + pX2_fronts (pX3_street q) t - 1) (p + pX2_fronts (pX3_street q) t)) (pX3_kindOf q t) 0) := by unfold mStep; simp only [eX3_street_street, eX3_street_table, eX3_street_tableN, eX3_street_sets, eX3_street_kinds, eX3_street_levels, eX3_street_worths, eX3_street_needs, eX3_street_kindsBehind, eX3_street_kindOf, eX3_street_barred, eX3_table_street, eX3_table_table, eX3_table_tableN, eX3_table_sets, eX3_table_kinds, eX3_table_levels, eX3_table_worths, eX3_table_needs, eX3_table_kindsBehind, eX3_table_kindOf, eX3_table_barred, eX3_tableN_street, eX3_tableN_table, eX3_tableN_tableN, eX3_tableN_sets, eX3_tableN_kinds, eX3_tableN_levels, eX3_tableN_worths, eX3_tableN_needs, eX3_tableN_kindsBehind, eX3_tableN_kindOf, eX3_tableN_barred, eX3_sets_street, eX3_sets_table, eX3_sets_tableN, eX3_sets_sets, eX3_sets_kinds, eX3_sets_levels, eX3_sets_worths, eX3_sets_needs, eX3_sets_kindsBehind, eX3_sets_kindOf, eX3_sets_barred, eX3_kinds_street, eX3_kinds_table, eX3_kinds_tableN, eX3_kinds_sets, eX3_kinds_kinds, eX3_kinds_levels, eX3_kinds_worths, eX3_kinds_needs, eX3_kinds_kindsBehind, eX3_kinds_kindOf, eX3_kinds_barred, eX3_levels_street, eX3_levels_table, eX3_levels_tableN, eX3_levels_sets, eX3_levels_kinds, eX3_levels_levels, eX3_levels_worths, eX3_levels_needs, eX3_levels_kindsBehind, eX3_levels_kindOf, eX3_levels_barred, eX3_worths_street, eX3_worths_table, eX3_worths_tableN, eX3_worths_sets, eX3_worths_kinds, eX3_worths_levels, eX3_worths_worths, eX3_worths_needs, eX3_worths_kindsBehind, eX3_worths_kindOf, eX3_worths_barred, eX3_needs_street, eX3_needs_table, eX3_needs_tableN, eX3_needs_sets, eX3_needs_kinds, eX3_needs_levels, eX3_needs_worths, eX3_needs_needs, eX3_needs_kindsBehind, eX3_needs_kindOf, eX3_needs_barred, eX3_kindsBehind_street, eX3_kindsBehind_table, eX3_kindsBehind_tableN, eX3_kindsBehind_sets, eX3_kindsBehind_kinds, eX3_kindsBehind_levels, eX3_kindsBehind_worths, eX3_kindsBehind_needs, eX3_kindsBehind_kindsBehind, eX3_kindsBehind_kindOf, eX3_kindsBehind_barred, eX3_kindOf_street, eX3_kindOf_table, eX3_kindOf_tableN, eX3_kindOf_sets, eX3_kindOf_kinds, eX3_kindOf_levels, eX3_kindOf_worths, eX3_kindOf_needs, eX3_kindOf_kindsBehind, eX3_kindOf_kindOf, eX3_kindOf_barred, eX3_barred_street, eX3_barred_table, eX3_barred_tableN, eX3_barred_sets, eX3_barred_kinds, eX3_barred_levels, eX3_barred_worths, eX3_barred_needs, eX3_barred_kindsBehind, eX3_barred_kindOf, eX3_barred_barred]
  intro u r u0 u1 r0 r1 hur
  rw [e1] at u1 r1
  unfold Bk
  rw [e1, e6, w1, w2, w3]
  by_cases he : u = t ∧ r = p
  · obtain ⟨h1, h2⟩ := he
    subst h1 h2
    rw [updZ_at, updZ_at, updZ_at]
    exact ⟨rfl, rfl, rfl⟩
  · rw [updZ_ne (by omega), updZ_ne (by omega), updZ_ne (by omega)]
    exact h u r u0 u1 r0 r1 (by omega)
theorem s_X3_104 (n : Nat) (hn : 100 ≤ n) (k4 : Int → Int → BX3 → Option BX3) (k20 : Int → Int → Int → Int → BX3 → Option BX3) {q : BX3} (hs : S2 (pX3_street q)) {t p : Int} (t0 : 0 ≤ t) (t1 : t < pX2_traders (pX3_street q)) (p0 : 0 ≤ p) (p1 : p < pX2_pitches (pX3_street q)) (x1 x3 w c : Int) (hw : w = cif (mPos (pX3_street q) t p) (16 * mRent (pX3_street q) t p + 1) 0) (hc : c = zB (mPos (pX3_street q) t p)) :
    g_X3_measureBlocks_104 n k4 k20 (t * 24 + p) w x1 t x3 p (t * 24 + p) c q = k20 x1 t (max x3 (cif (mPos (pX3_street q) t p) (mFor (pX3_street q) t p) 0)) (p + 1) (mStep q t p) := by
  have ht := hs.tra
  have hp := hs.pit
  have hf := hs.fr t0 t1
  unfold g_X3_measureBlocks_104 g_X3_measureBlocks_171 g_X3_kindBeside
  have es : pX3_street (sX3_needs (sX3_worths q (updZ (pX3_worths q) (t * 24 + p) w)) (updZ (pX3_needs q) (t * 24 + p) (mFor (pX3_street q) t p))) = pX3_street q := by rw [eX3_street_needs, eX3_street_worths]
  have ek : pX3_kindOf (sX3_needs (sX3_worths q (updZ (pX3_worths q) (t * 24 + p) w)) (updZ (pX3_needs q) (t * 24 + p) (mFor (pX3_street q) t p))) = pX3_kindOf q := by rw [eX3_kindOf_needs, eX3_kindOf_worths]
  rw [qA_ok (by omega) (by omega) (by omega), oL_def, s_X2_coversFor hn hs t0 t1 p0 (by omega), oB_some, qA_ok (by omega) (by omega) (by omega), oL_def, qA_ok t0 (by omega) (by omega), oR_ok (by omega) (by omega), oL_def, oR_ok (by omega) (by omega), es, s_X2_shareRow hs, oB_some, ek]
  by_cases hsh : mShare (pX3_street q) (p + pX2_fronts (pX3_street q) t - 1) (p + pX2_fronts (pX3_street q) t)
  · rw [zB_pos hsh, if_neg (by omega), qA_ok t0 (by omega) (by omega), oB_some, qA_ok (by omega) (by omega) (by omega), oL_def, ← cif_pos (a := pX3_kindOf q t) (b := 0) hsh]
    unfold mStep
    by_cases hpos : mPos (pX3_street q) t p
    · rw [if_neg (by rw [hc, zB_pos hpos]; omega), qA_ok (by omega) (by omega) (by omega), oL_def, updZ_at, oR_ok (by omega) (by omega), cif_pos (a := mFor (pX3_street q) t p) hpos, hw]
    · rw [if_pos (by rw [hc, zB_neg hpos]), oL_def, oR_ok (by omega) (by omega), cif_neg (a := mFor (pX3_street q) t p) hpos, hw]
  · rw [zB_neg hsh, if_pos rfl, oB_some, qA_ok (by omega) (by omega) (by omega), oL_def]
    have e0 : cif (mShare (pX3_street q) (p + pX2_fronts (pX3_street q) t - 1) (p + pX2_fronts (pX3_street q) t)) (pX3_kindOf q t) 0 = 0 := cif_neg hsh
    unfold mStep
    rw [e0]
    by_cases hpos : mPos (pX3_street q) t p
    · rw [if_neg (by rw [hc, zB_pos hpos]; omega), qA_ok (by omega) (by omega) (by omega), oL_def, updZ_at, oR_ok (by omega) (by omega), cif_pos (a := mFor (pX3_street q) t p) hpos, hw]
    · rw [if_pos (by rw [hc, zB_neg hpos]), oL_def, oR_ok (by omega) (by omega), cif_neg (a := mFor (pX3_street q) t p) hpos, hw]
theorem s_X3_measureBlocks_20 (n : Nat) (hn : 100 ≤ n) (k4 : Int → Int → BX3 → Option BX3) {t : Int} (t0 : 0 ≤ t) (x1 : Int) (x0 : 0 ≤ x1) (x9 : x1 ≤ 1000) : ∀ (fu k : Nat) (q : BX3), S2 (pX3_street q) → t < pX2_traders (pX3_street q) → (k : Int) ≤ pX2_pitches (pX3_street q) → 0 < fu → pX2_pitches (pX3_street q) - k < fu → MB q t k →
    ∃ q', g_X3_measureBlocks_20 n k4 fu x1 t (zmx (fun p => cif (mPos (pX3_street q) t p) (mFor (pX3_street q) t p) 0) 0 k) k q = k4 (x1 + sNeed (pX3_street q) t) (t + 1) q' ∧ Rm q q' ∧ MB q' (t + 1) 0 := by
  intro fu
  induction fu with
  | zero => intro k q _ _ _ h0; omega
  | succ fu ih =>
    intro k q hs t1 k1 _ hf hM
    have ht := hs.tra
    have hp := hs.pit
    have hfr := hs.fr t0 t1
    have hnb : ∀ k : Nat, 0 ≤ zmx (fun p => cif (mPos (pX3_street q) t p) (mFor (pX3_street q) t p) 0) 0 k ∧ zmx (fun p => cif (mPos (pX3_street q) t p) (mFor (pX3_street q) t p) 0) 0 k ≤ 3 := fun k =>
      ⟨zmx_ge _ _ k, zmx_le (by omega) k (fun u _ _ => by
        have := mFor_b (pX3_street q) t u (by omega)
        by_cases h : mPos (pX3_street q) t u
        · rw [cif_pos h]; omega
        · rw [cif_neg h]; omega)⟩
    have hnk := hnb k
    rw [g_X3_measureBlocks_20.eq_2]
    by_cases hc : pX2_pitches (pX3_street q) ≤ k
    · rw [if_pos hc, oR_ok (by omega) (by omega), oL_def, oR_ok (by omega) (by omega)]
      refine ⟨q, ?_, ⟨rfl, rfl, rfl, rfl, rfl, rfl, rfl⟩, ?_⟩
      · unfold sNeed; rw [show (pX2_pitches (pX3_street q)).toNat = k by omega]
      · intro u r u0 u1 r0 r1 hur
        exact hM u r u0 u1 r0 r1 (by omega)
    · obtain ⟨e1, _⟩ := mStep_Rm q t k
      have hst := mStep_MB hs (by omega) (by omega) hM
      have := ih (k + 1) (mStep q t k) (by rw [e1]; exact hs) (by rw [e1]; exact t1) (by rw [e1]; omega) (by omega) (by rw [e1]; omega) (by rw [show ((k + 1 : Nat) : Int) = (k : Int) + 1 by omega]; exact hst)
      rw [e1] at this
      obtain ⟨q', g1, g2, g3⟩ := this
      refine ⟨q', ?_, (mStep_Rm q t k).trans g2, g3⟩
      rw [← g1]
      have ez : zmx (fun p => cif (mPos (pX3_street q) t p) (mFor (pX3_street q) t p) 0) 0 (k + 1) = max (zmx (fun p => cif (mPos (pX3_street q) t p) (mFor (pX3_street q) t p) 0) 0 k) (cif (mPos (pX3_street q) t k) (mFor (pX3_street q) t k) 0) := rfl
      rw [ez, show ((k + 1 : Nat) : Int) = (k : Int) + 1 by omega]
      rw [if_neg hc, oR_ok (by omega) (by omega), oL_def, s_X2_isInOneRow hs t0 t1 (by omega) (by omega), oB_some, s_X2_affords hn hs t0 t1 (by omega) (by omega), oB_some]
      unfold g_X3_measureBlocks_71 g_X3_measureBlocks_72
      have hrb := mRent_b hs t0 t1 (by omega : (0 : Int) ≤ k)
      by_cases a1 : mInRow (pX3_street q) t k
      · rw [zB_pos a1, if_neg (by omega)]
        by_cases a2 : mRent (pX3_street q) t k ≤ pX2_limits (pX3_street q) t
        · have hpos : mPos (pX3_street q) t k := ⟨a1, a2⟩
          rw [zB_pos a2, if_neg (by omega), if_neg (by omega), s_X2_blockRent hn hs t0 t1 (by omega) (by omega), oB_some, oR_ok (by omega) (by omega)]
          exact s_X3_104 n hn k4 _ hs t0 t1 (by omega) (by omega) x1 _ _ 1 (by rw [cif_pos hpos]; omega) (by rw [zB_pos hpos])
        · have hpos : ¬ mPos (pX3_street q) t k := fun h => a2 h.2
          rw [zB_neg a2, if_pos rfl, if_pos rfl]
          exact s_X3_104 n hn k4 _ hs t0 t1 (by omega) (by omega) x1 _ _ 0 (by rw [cif_neg hpos]) (by rw [zB_neg hpos])
      · have hpos : ¬ mPos (pX3_street q) t k := fun h => a1 h.1
        rw [zB_neg a1, if_pos rfl, if_pos rfl]
        exact s_X3_104 n hn k4 _ hs t0 t1 (by omega) (by omega) x1 _ _ 0 (by rw [cif_neg hpos]) (by rw [zB_neg hpos])
theorem sNeed_b {s : BX2} (hs : S2 s) {t : Int} (t0 : 0 ≤ t) (t1 : t < pX2_traders s) : 0 ≤ sNeed s t ∧ sNeed s t ≤ 3 := by
  have hf := hs.fr t0 t1
  unfold sNeed
  refine ⟨zmx_ge _ _ _, zmx_le (by omega) _ (fun u _ _ => ?_)⟩
  have := mFor_b s t u (by omega)
  by_cases h : mPos s t u
  · rw [cif_pos h]; omega
  · rw [cif_neg h]; omega
theorem s_X3_measureBlocks_4 (n : Nat) (hn : 100 ≤ n) : ∀ (fu : Nat) (x : Int) (q : BX3), S2 (pX3_street q) → 0 ≤ x → x ≤ pX2_traders (pX3_street q) → 0 < fu → pX2_traders (pX3_street q) - x < fu → MB q x 0 →
    ∃ q', g_X3_measureBlocks_4 n fu (zr (sNeed (pX3_street q)) 0 x) x q = some (sX3_levels q' (sLev (pX3_street q))) ∧ Rm q q' ∧ MB q' (pX2_traders (pX3_street q)) 0 := by
  intro fu
  induction fu with
  | zero => intro x q _ _ _ h0; omega
  | succ fu ih =>
    intro x q hs x0 x1 _ hf hM
    have ht := hs.tra
    have hpt := hs.pit
    have hcv := hs.cov
    have hzb := zr_bound (f := sNeed (pX3_street q)) (a := 0) (b := x) (l := 0) (u := 3) x0 (fun i i0 i1 => sNeed_b hs i0 (by omega))
    rw [g_X3_measureBlocks_4.eq_2]
    by_cases hc : pX2_traders (pX3_street q) ≤ x
    · have hx : x = pX2_traders (pX3_street q) := by omega
      rw [if_pos hc, oR_ok (by omega) (by omega), oR_ok (by omega) (by omega), oL_def]
      refine ⟨q, ?_, ⟨rfl, rfl, rfl, rfl, rfl, rfl, rfl⟩, by rw [← hx]; exact hM⟩
      unfold sLev
      rw [hx]
    · obtain ⟨q', g1, g2, g3⟩ := s_X3_measureBlocks_20 n hn (g_X3_measureBlocks_4 n fu) x0 (zr (sNeed (pX3_street q)) 0 x) (by omega) (by omega) n 0 q hs (by omega) (by omega) (by omega) (by omega) hM
      rw [if_neg hc]
      have e0 : g_X3_measureBlocks_20 n (g_X3_measureBlocks_4 n fu) n (zr (sNeed (pX3_street q)) 0 x) x 0 0 q = g_X3_measureBlocks_4 n fu (zr (sNeed (pX3_street q)) 0 x + sNeed (pX3_street q) x) (x + 1) q' := g1
      rw [e0, ← zr_snoc x0]
      have := ih (x + 1) q' (by rw [g2.1]; exact hs) (by omega) (by rw [g2.1]; omega) (by omega) (by rw [g2.1]; omega) g3
      rw [g2.1] at this
      obtain ⟨q2, f1, f2, f3⟩ := this
      exact ⟨q2, f1, g2.trans f2, f3⟩
theorem s_X3_measureBlocks {n : Nat} (hn : 100 ≤ n) {q : BX3} (hs : S2 (pX3_street q)) : ∃ q', g_X3_measureBlocks n q = some (sX3_levels q' (sLev (pX3_street q))) ∧ Rm q q' ∧ MB q' (pX2_traders (pX3_street q)) 0 := by
  have ht := hs.tra
  unfold g_X3_measureBlocks
  have := s_X3_measureBlocks_4 n hn n 0 q hs (by omega) (by omega) (by omega) (by omega) (fun u r u0 u1 r0 r1 h => by omega)
  rw [zr_nil (by omega)] at this
  exact this
