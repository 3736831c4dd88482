/-! The planner's kinds of neighbours. -/
theorem s_X3_foesOf_4 (n : Nat) {q : BX3} (hs : S2 (pX3_street q)) {t : Int} (t0 : 0 ≤ t) (t1 : t < pX2_traders (pX3_street q)) : ∀ (fu k : Nat), (k : Int) ≤ pX2_traders (pX3_street q) → 0 < fu → pX2_traders (pX3_street q) - k < fu → g_X3_foesOf_4 n fu t (foeF (pX3_street q) t k) k q = some (foeV (pX3_street q) t) := by
  have ht := hs.tra
  intro fu
  induction fu with
  | zero => intro k _ h0; omega
  | succ fu ih =>
    intro k k1 _ hf
    rw [g_X3_foesOf_4.eq_2]
    unfold g_X3_foesOf_38
    by_cases hc : pX2_traders (pX3_street q) ≤ k
    · rw [if_pos hc]; unfold foeV; rw [show (pX2_traders (pX3_street q)).toNat = k by omega]
    · have ih' := ih (k + 1) (by omega) (by omega) (by omega)
      rw [foeF.eq_2, show ((k + 1 : Nat) : Int) = (k : Int) + 1 by omega] at ih'
      rw [if_neg hc]
      by_cases h1 : (k : Int) = t
      · rw [if_pos h1, oR_ok (by omega) (by omega)]
        rw [cif_neg (fun h => h.1 h1)] at ih'
        exact ih'
      · rw [if_neg h1, s_X2_clashesWith hs t0 t1 (by omega) (by omega), oB_some]
        by_cases h2 : mClash (pX3_street q) t k
        · rw [zB_pos h2, if_neg (by omega), oL_def, oR_ok (by omega) (by omega)]
          rw [cif_pos ⟨h1, h2⟩] at ih'
          exact ih'
        · rw [zB_neg h2, if_pos rfl, oR_ok (by omega) (by omega)]
          rw [cif_neg (fun h => h2 h.2)] at ih'
          exact ih'
theorem s_X3_foesOf {n : Nat} (hn : 100 ≤ n) {q : BX3} (hs : S2 (pX3_street q)) {t : Int} (t0 : 0 ≤ t) (t1 : t < pX2_traders (pX3_street q)) : g_X3_foesOf n q t = some (foeV (pX3_street q) t) := by
  have ht := hs.tra
  unfold g_X3_foesOf
  exact s_X3_foesOf_4 n hs t0 t1 n 0 (by omega) (by omega) (by omega)
/-! places in a list -/
theorem ix_ne : ∀ (L : List Int) (v : Int) (j : Nat), j < L.idxOf v → L.getD j 0 ≠ v := by
  intro L
  induction L with
  | nil => intro v j h; simp at h
  | cons a L ih =>
    intro v j h
    rw [List.idxOf_cons] at h
    by_cases ha : a = v
    · subst ha; simp at h
    · have hb : (a == v) = false := by simp [ha]
      rw [hb] at h
      have h : j < L.idxOf v + 1 := h
      cases j with
      | zero => simpa using ha
      | succ j =>
        rw [List.getD_cons_succ]
        exact ih v j (by omega)
theorem ix_at : ∀ (L : List Int) (v : Int), v ∈ L → L.getD (L.idxOf v) 0 = v := by
  intro L
  induction L with
  | nil => intro v h; simp at h
  | cons a L ih =>
    intro v h
    rw [List.idxOf_cons]
    by_cases ha : a = v
    · subst ha; simp
    · have hb : (a == v) = false := by simp [ha]
      rw [hb]
      show (a :: L).getD (L.idxOf v + 1) 0 = v
      rw [List.getD_cons_succ]
      refine ih v ?_
      cases h with
      | head => exact absurd rfl ha
      | tail _ h => exact h
theorem kList_len (s : BX2) : ∀ k : Nat, 1 ≤ (kList s k).length ∧ (kList s k).length ≤ k + 1 := by
  intro k
  induction k with
  | zero => exact ⟨by simp [kList], by simp [kList]⟩
  | succ k ih =>
    rw [kList.eq_2]
    by_cases h : foeV s k ∈ kList s k
    · rw [cif_pos h]; omega
    · rw [cif_neg h, List.length_append]; simp; omega
theorem kList_0 (s : BX2) : ∀ k : Nat, (kList s k).getD 0 0 = 0 := by
  intro k
  induction k with
  | zero => rfl
  | succ k ih =>
    rw [kList.eq_2]
    by_cases h : foeV s k ∈ kList s k
    · rw [cif_pos h]; exact ih
    · rw [cif_neg h]
      have hl := kList_len s k
      rw [List.getD_eq_getElem?_getD, List.getElem?_append_left (by omega), ← List.getD_eq_getElem?_getD]
      exact ih
/-! what sorting leaves of a planner -/
def Rk (q q' : BX3) : Prop := pX3_street q' = pX3_street q ∧ pX3_table q' = pX3_table q ∧ pX3_tableN q' = pX3_tableN q ∧ pX3_sets q' = pX3_sets q ∧ pX3_levels q' = pX3_levels q ∧ pX3_worths q' = pX3_worths q ∧ pX3_needs q' = pX3_needs q ∧ pX3_kindsBehind q' = pX3_kindsBehind q
theorem Rk.trans {p q r : BX3} (h : Rk p q) (k : Rk q r) : Rk p r := by
  obtain ⟨a1, a2, a3, a4, a5, a6, a7, a8⟩ := h
  obtain ⟨b1, b2, b3, b4, b5, b6, b7, b8⟩ := k
  exact ⟨b1.trans a1, b2.trans a2, b3.trans a3, b4.trans a4, b5.trans a5, b6.trans a6, b7.trans a7, b8.trans a8⟩
def SK (q : BX3) (k : Nat) : Prop :=
  pX3_kinds q = (kList (pX3_street q) k).length ∧ (∀ i : Nat, i < (kList (pX3_street q) k).length → pX3_barred q i = (kList (pX3_street q) k).getD i 0) ∧
  (∀ t : Nat, t < k → foeV (pX3_street q) t ∈ kList (pX3_street q) k ∧ pX3_kindOf q t = ((kList (pX3_street q) k).idxOf (foeV (pX3_street q) t) : Int))
theorem s_X3_sortKinds_33 (n : Nat) (k14 : Int → BX3 → Option BX3) {q : BX3} {L : List Int} (hL : pX3_kinds q = L.length) (h9 : L.length ≤ 9) (hB : ∀ i : Nat, i < L.length → pX3_barred q i = L.getD i 0) (t v : Int) : ∀ (fu j : Nat), j ≤ L.idxOf v → 0 < fu → L.length - j < fu → g_X3_sortKinds_33 n k14 fu t v j q = g_X3_sortKinds_57 n k14 t v (L.idxOf v : Int) q := by
  have hle : L.idxOf v ≤ L.length := List.idxOf_le_length
  intro fu
  induction fu with
  | zero => intro j _ h0; omega
  | succ fu ih =>
    intro j hj _ hf
    rw [g_X3_sortKinds_33.eq_2, hL]
    by_cases hc : L.length ≤ j
    · rw [if_pos (by omega), show j = L.idxOf v by omega]
    · rw [if_neg (by omega), qA_ok (by omega) (by omega) (by omega), hB j (by omega)]
      by_cases he : L.getD j 0 = v
      · have : j = L.idxOf v := by
          by_cases hlt : j < L.idxOf v
          · exact absurd he (ix_ne L v j hlt)
          · omega
        rw [if_pos he, this]
      · have : j ≠ L.idxOf v := by
          intro h
          apply he
          rw [h]
          apply ix_at
          exact List.idxOf_lt_length_iff.1 (by omega)
        rw [if_neg he, oR_ok (by omega) (by omega)]
        exact ih (j + 1) (by omega) (by omega) (by omega)
theorem s_X3_sortKinds_14 (n : Nat) (hn : 100 ≤ n) : ∀ (fu k : Nat) (q : BX3), S2 (pX3_street q) → (k : Int) ≤ pX2_traders (pX3_street q) → 0 < fu → pX2_traders (pX3_street q) - k < fu → SK q k → ∃ q', g_X3_sortKinds_14 n fu k q = some q' ∧ Rk q q' ∧ SK q' (pX2_traders (pX3_street q)).toNat := by
  intro fu
  induction fu with
  | zero => intro k q _ _ h0; omega
  | succ fu ih =>
    intro k q hs k1 _ hf hk
    have ht := hs.tra
    rw [g_X3_sortKinds_14.eq_2]
    by_cases hc : pX2_traders (pX3_street q) ≤ k
    · rw [if_pos hc, show (pX2_traders (pX3_street q)).toNat = k by omega]
      exact ⟨q, rfl, ⟨rfl, rfl, rfl, rfl, rfl, rfl, rfl, rfl⟩, hk⟩
    · obtain ⟨s1, s2, s3⟩ := hk
      have hlen := kList_len (pX3_street q) k
      have hle : (kList (pX3_street q) k).idxOf (foeV (pX3_street q) k) ≤ (kList (pX3_street q) k).length := List.idxOf_le_length
      have e33 := s_X3_sortKinds_33 n (g_X3_sortKinds_14 n fu) s1 (by omega) s2 k (foeV (pX3_street q) k) n 0 (by omega) (by omega) (by omega)
      rw [show ((0 : Nat) : Int) = 0 from rfl] at e33
      rw [if_neg hc, s_X3_foesOf hn hs (by omega) (by omega), oB_some, e33]
      unfold g_X3_sortKinds_57 g_X3_sortKinds_82
      by_cases hm : foeV (pX3_street q) k ∈ kList (pX3_street q) k
      · have hlt := List.idxOf_lt_length_iff.2 hm
        have eL : kList (pX3_street q) (k + 1) = kList (pX3_street q) k := by rw [kList.eq_2, cif_pos hm]
        rw [if_neg (by rw [s1]; omega), qA_ok (by omega) (by omega) (by omega), oL_def, oR_ok (by omega) (by omega)]
        have e1 : pX3_street (sX3_kindOf q (updZ (pX3_kindOf q) k ((kList (pX3_street q) k).idxOf (foeV (pX3_street q) k) : Int))) = pX3_street q := eX3_street_kindOf _ _
        have := ih (k + 1) (sX3_kindOf q (updZ (pX3_kindOf q) k ((kList (pX3_street q) k).idxOf (foeV (pX3_street q) k) : Int))) (by rw [e1]; exact hs) (by rw [e1]; omega) (by omega) (by rw [e1]; omega) (by
          unfold SK
          rw [e1, eL, eX3_kinds_kindOf, eX3_barred_kindOf, eX3_kindOf_kindOf]
          refine ⟨s1, s2, fun t h => ?_⟩
          by_cases he : t = k
          · subst he; exact ⟨hm, by rw [updZ_at]⟩
          · have := s3 t (by omega)
            exact ⟨this.1, by rw [updZ_ne (by omega)]; exact this.2⟩)
        rw [e1] at this
        obtain ⟨q', g1, g2, g3⟩ := this
        refine ⟨q', by rw [← g1]; rfl, Rk.trans ?_ g2, g3⟩
        exact ⟨e1, eX3_table_kindOf _ _, eX3_tableN_kindOf _ _, eX3_sets_kindOf _ _, eX3_levels_kindOf _ _, eX3_worths_kindOf _ _, eX3_needs_kindOf _ _, eX3_kindsBehind_kindOf _ _⟩
      · have hix := List.idxOf_eq_length hm
        have eL : kList (pX3_street q) (k + 1) = kList (pX3_street q) k ++ [foeV (pX3_street q) k] := by rw [kList.eq_2, cif_neg hm]
        rw [hix, if_pos (by rw [s1]), qA_ok (by omega) (by omega) (by omega), oL_def, s1, oR_ok (by omega) (by omega), oL_def, qA_ok (by omega) (by omega) (by omega), oL_def, oR_ok (by omega) (by omega)]
        have e1 : pX3_street (sX3_kindOf (sX3_barred (sX3_kinds q (((kList (pX3_street q) k).length : Int) + 1)) (updZ (pX3_barred q) ((kList (pX3_street q) k).length : Int) (foeV (pX3_street q) k))) (updZ (pX3_kindOf (sX3_barred (sX3_kinds q (((kList (pX3_street q) k).length : Int) + 1)) (updZ (pX3_barred q) ((kList (pX3_street q) k).length : Int) (foeV (pX3_street q) k)))) k ((kList (pX3_street q) k).length : Int))) = pX3_street q := by rw [eX3_street_kindOf, eX3_street_barred, eX3_street_kinds]
        have := ih (k + 1) (sX3_kindOf (sX3_barred (sX3_kinds q (((kList (pX3_street q) k).length : Int) + 1)) (updZ (pX3_barred q) ((kList (pX3_street q) k).length : Int) (foeV (pX3_street q) k))) (updZ (pX3_kindOf (sX3_barred (sX3_kinds q (((kList (pX3_street q) k).length : Int) + 1)) (updZ (pX3_barred q) ((kList (pX3_street q) k).length : Int) (foeV (pX3_street q) k)))) k ((kList (pX3_street q) k).length : Int))) (by rw [e1]; exact hs) (by rw [e1]; omega) (by omega) (by rw [e1]; omega) (by
          unfold SK
          rw [e1, eL, eX3_kinds_kindOf, eX3_kinds_barred, eX3_kinds_kinds, eX3_barred_kindOf, eX3_barred_barred, eX3_kindOf_kindOf, eX3_kindOf_barred, eX3_kindOf_kinds]
          refine ⟨by rw [List.length_append]; simp, fun i hi => ?_, fun t h => ?_⟩
          · rw [List.length_append] at hi
            have hi : i < (kList (pX3_street q) k).length + 1 := hi
            by_cases he : i = (kList (pX3_street q) k).length
            · rw [he, updZ_at, List.getD_eq_getElem?_getD]; simp
            · rw [updZ_ne (by omega), List.getD_eq_getElem?_getD, List.getElem?_append_left (by omega), ← List.getD_eq_getElem?_getD]
              exact s2 i (by omega)
          · by_cases he : t = k
            · subst he
              refine ⟨by simp, ?_⟩
              rw [updZ_at, List.idxOf_append, if_neg hm, List.idxOf_cons]; simp
            · have := s3 t (by omega)
              refine ⟨by simp [this.1], ?_⟩
              rw [updZ_ne (by omega), List.idxOf_append, if_pos this.1]; exact this.2)
        rw [e1] at this
        obtain ⟨q', g1, g2, g3⟩ := this
        refine ⟨q', by rw [← g1]; rfl, Rk.trans ?_ g2, g3⟩
        refine ⟨e1, ?_, ?_, ?_, ?_, ?_, ?_, ?_⟩ <;> simp only [eX3_street_street, eX3_street_table, eX3_street_tableN, eX3_street_sets, eX3_street_kinds, eX3_street_levels, eX3_street_worths, eX3_street_needs, eX3_street_kindsBehind, eX3_street_kindOf, eX3_street_barred, eX3_table_street, eX3_table_table, eX3_table_tableN, eX3_table_sets, eX3_table_kinds, eX3_table_levels, eX3_table_worths, eX3_table_needs, eX3_table_kindsBehind, eX3_table_kindOf, eX3_table_barred, eX3_tableN_street, eX3_tableN_table, eX3_tableN_tableN, eX3_tableN_sets, eX3_tableN_kinds, eX3_tableN_levels, eX3_tableN_worths, eX3_tableN_needs, eX3_tableN_kindsBehind, eX3_tableN_kindOf, eX3_tableN_barred, eX3_sets_street, eX3_sets_table, eX3_sets_tableN, eX3_sets_sets, eX3_sets_kinds, eX3_sets_levels, eX3_sets_worths, eX3_sets_needs, eX3_sets_kindsBehind, eX3_sets_kindOf, eX3_sets_barred, eX3_kinds_street, eX3_kinds_table, eX3_kinds_tableN, eX3_kinds_sets, eX3_kinds_kinds, eX3_kinds_levels, eX3_kinds_worths, eX3_kinds_needs, eX3_kinds_kindsBehind, eX3_kinds_kindOf, eX3_kinds_barred, eX3_levels_street, eX3_levels_table, eX3_levels_tableN, eX3_levels_sets, eX3_levels_kinds, eX3_levels_levels, eX3_levels_worths, eX3_levels_needs, eX3_levels_kindsBehind, eX3_levels_kindOf, eX3_levels_barred, eX3_worths_street, eX3_worths_table, eX3_worths_tableN, eX3_worths_sets, eX3_worths_kinds, eX3_worths_levels, eX3_worths_worths, eX3_worths_needs, eX3_worths_kindsBehind, eX3_worths_kindOf, eX3_worths_barred, eX3_needs_street, eX3_needs_table, eX3_needs_tableN, eX3_needs_sets, eX3_needs_kinds, eX3_needs_levels, eX3_needs_worths, eX3_needs_needs, eX3_needs_kindsBehind, eX3_needs_kindOf, eX3_needs_barred, eX3_kindsBehind_street, eX3_kindsBehind_table, eX3_kindsBehind_tableN, eX3_kindsBehind_sets, eX3_kindsBehind_kinds, eX3_kindsBehind_levels, eX3_kindsBehind_worths, eX3_kindsBehind_needs, eX3_kindsBehind_kindsBehind, eX3_kindsBehind_kindOf, eX3_kindsBehind_barred, eX3_kindOf_street, eX3_kindOf_table, eX3_kindOf_tableN, eX3_kindOf_sets, eX3_kindOf_kinds, eX3_kindOf_levels, eX3_kindOf_worths, eX3_kindOf_needs, eX3_kindOf_kindsBehind, eX3_kindOf_kindOf, eX3_kindOf_barred, eX3_barred_street, eX3_barred_table, eX3_barred_tableN, eX3_barred_sets, eX3_barred_kinds, eX3_barred_levels, eX3_barred_worths, eX3_barred_needs, eX3_barred_kindsBehind, eX3_barred_kindOf, eX3_barred_barred]
theorem s_X3_sortKinds {n : Nat} (hn : 100 ≤ n) {q : BX3} (hs : S2 (pX3_street q)) : ∃ q', g_X3_sortKinds n q = some q' ∧ Rk q q' ∧ SK q' (pX2_traders (pX3_street q)).toNat := by
  have ht := hs.tra
  unfold g_X3_sortKinds
  rw [qA_ok (by omega) (by omega) (by omega), oL_def]
  have e1 : pX3_street (sX3_barred (sX3_kinds q 1) (updZ (pX3_barred q) 0 0)) = pX3_street q := by rw [eX3_street_barred, eX3_street_kinds]
  have := s_X3_sortKinds_14 n hn n 0 (sX3_barred (sX3_kinds q 1) (updZ (pX3_barred q) 0 0)) (by rw [e1]; exact hs) (by rw [e1]; omega) (by omega) (by rw [e1]; omega) (by
    unfold SK
    rw [e1, eX3_kinds_barred, eX3_kinds_kinds, eX3_barred_barred]
    refine ⟨rfl, fun i hi => ?_, fun t h => by omega⟩
    have hi : i < 1 := hi
    rw [show i = 0 by omega]
    exact updZ_at _ _ _)
  rw [e1] at this
  obtain ⟨q', g1, g2, g3⟩ := this
  refine ⟨q', g1, Rk.trans ?_ g2, g3⟩
  refine ⟨e1, ?_, ?_, ?_, ?_, ?_, ?_, ?_⟩ <;> simp only [eX3_street_street, eX3_street_table, eX3_street_tableN, eX3_street_sets, eX3_street_kinds, eX3_street_levels, eX3_street_worths, eX3_street_needs, eX3_street_kindsBehind, eX3_street_kindOf, eX3_street_barred, eX3_table_street, eX3_table_table, eX3_table_tableN, eX3_table_sets, eX3_table_kinds, eX3_table_levels, eX3_table_worths, eX3_table_needs, eX3_table_kindsBehind, eX3_table_kindOf, eX3_table_barred, eX3_tableN_street, eX3_tableN_table, eX3_tableN_tableN, eX3_tableN_sets, eX3_tableN_kinds, eX3_tableN_levels, eX3_tableN_worths, eX3_tableN_needs, eX3_tableN_kindsBehind, eX3_tableN_kindOf, eX3_tableN_barred, eX3_sets_street, eX3_sets_table, eX3_sets_tableN, eX3_sets_sets, eX3_sets_kinds, eX3_sets_levels, eX3_sets_worths, eX3_sets_needs, eX3_sets_kindsBehind, eX3_sets_kindOf, eX3_sets_barred, eX3_kinds_street, eX3_kinds_table, eX3_kinds_tableN, eX3_kinds_sets, eX3_kinds_kinds, eX3_kinds_levels, eX3_kinds_worths, eX3_kinds_needs, eX3_kinds_kindsBehind, eX3_kinds_kindOf, eX3_kinds_barred, eX3_levels_street, eX3_levels_table, eX3_levels_tableN, eX3_levels_sets, eX3_levels_kinds, eX3_levels_levels, eX3_levels_worths, eX3_levels_needs, eX3_levels_kindsBehind, eX3_levels_kindOf, eX3_levels_barred, eX3_worths_street, eX3_worths_table, eX3_worths_tableN, eX3_worths_sets, eX3_worths_kinds, eX3_worths_levels, eX3_worths_worths, eX3_worths_needs, eX3_worths_kindsBehind, eX3_worths_kindOf, eX3_worths_barred, eX3_needs_street, eX3_needs_table, eX3_needs_tableN, eX3_needs_sets, eX3_needs_kinds, eX3_needs_levels, eX3_needs_worths, eX3_needs_needs, eX3_needs_kindsBehind, eX3_needs_kindOf, eX3_needs_barred, eX3_kindsBehind_street, eX3_kindsBehind_table, eX3_kindsBehind_tableN, eX3_kindsBehind_sets, eX3_kindsBehind_kinds, eX3_kindsBehind_levels, eX3_kindsBehind_worths, eX3_kindsBehind_needs, eX3_kindsBehind_kindsBehind, eX3_kindsBehind_kindOf, eX3_kindsBehind_barred, eX3_kindOf_street, eX3_kindOf_table, eX3_kindOf_tableN, eX3_kindOf_sets, eX3_kindOf_kinds, eX3_kindOf_levels, eX3_kindOf_worths, eX3_kindOf_needs, eX3_kindOf_kindsBehind, eX3_kindOf_kindOf, eX3_kindOf_barred, eX3_barred_street, eX3_barred_table, eX3_barred_tableN, eX3_barred_sets, eX3_barred_kinds, eX3_barred_levels, eX3_barred_worths, eX3_barred_needs, eX3_barred_kindsBehind, eX3_barred_kindOf, eX3_barred_barred]
