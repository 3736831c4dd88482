/-! Filling one row of the table. -/
def Aq (q : BX3) : Prop := Tq q ∧ pX3_sets q = zShl 1 (pX2_traders (pX3_street q)) ∧ (∀ t p, 0 ≤ t → t < pX2_traders (pX3_street q) → 0 ≤ p → p < pX2_pitches (pX3_street q) → Bk q t p) ∧ pX3_barred q 0 = 0 ∧
  (∀ t, 0 ≤ t → t < pX2_traders (pX3_street q) → (0 ≤ pX3_kindOf q t ∧ pX3_kindOf q t < pX3_kinds q) ∧ pX3_barred q (pX3_kindOf q t) = foeV (pX3_street q) t)
theorem Rt.aq {q q' : BX3} (h : Rt q q') (k : Aq q) : Aq q' := by
  obtain ⟨e1, e2, e3, e4, e5, e6, e7, e8, e9, e10⟩ := h.eqs
  obtain ⟨k1, k2, k3, k4, k5⟩ := k
  refine ⟨h.tq k1, ?_, ?_, ?_, ?_⟩
  · rw [e1, e3]; exact k2
  · rw [e1]; intro t p a b c d; have := k3 t p a b c d; unfold Bk at this ⊢; rw [e1, e6, e7, e8, e9]; exact this
  · rw [e10]; exact k4
  · rw [e1, e4, e9, e10]; exact k5
theorem zShl1_pow {k : Int} (h0 : 0 ≤ k) (h1 : k ≤ 8) : zShl 1 k = 2 ^ k.toNat := by
  have h : k = 0 ∨ k = 1 ∨ k = 2 ∨ k = 3 ∨ k = 4 ∨ k = 5 ∨ k = 6 ∨ k = 7 ∨ k = 8 := by omega
  rcases h with h | h | h | h | h | h | h | h | h <;> subst h <;> decide
theorem or_lt {g t T : Int} (hT : 0 ≤ T ∧ T ≤ 8) (hg : 0 ≤ g ∧ g < zShl 1 T) (ht : 0 ≤ t ∧ t < T) : 0 ≤ zOr g (zShl 1 t) ∧ zOr g (zShl 1 t) < zShl 1 T := by
  rw [zShl1_pow hT.1 hT.2] at hg ⊢
  have h2 := zShl1_lt (k := t) (m := T.toNat) (by omega) ht.1 (by omega)
  exact zOr_lt (m := T.toNat) (by omega) hg.1 hg.2 h2.1 h2.2
theorem s_X3_canCome {q : BX3} (h : Aq q) {t p : Int} (g : Int) (t0 : 0 ≤ t) (t1 : t < pX2_traders (pX3_street q)) (p0 : 0 ≤ p) (p1 : p < pX2_pitches (pX3_street q)) : g_X3_canCome q t p g = some (zB (¬ zbit g t ∧ mPos (pX3_street q) t p)) := by
  have ht := h.1.1.tra
  have hp := h.1.1.pit
  have hb := (h.2.2.1 t p t0 t1 p0 p1).1
  have hr := mRent_b h.1.1 t0 t1 p0
  unfold g_X3_canCome
  by_cases e1 : zbit g t
  · rw [if_neg e1, zB_neg (fun x => x.1 e1)]
  · rw [if_pos (Classical.byContradiction e1), qA_ok (by omega) (by omega) (by omega), hb]
    by_cases e2 : mPos (pX3_street q) t p
    · rw [cif_pos e2, if_neg (by omega), zB_pos ⟨e1, e2⟩]
    · rw [cif_neg e2, if_pos (by omega), zB_neg (fun x => e2 x.2)]
theorem s_X3_82 (n : Nat) (k56 : Int → Int → Int → Int → Int → Int → BX3 → Option BX3) {t own need k R R2 kb : Int} (ho : 0 ≤ own ∧ own ≤ 100000) (hn0 : 0 ≤ need) (hRR : R ≠ R2) : ∀ (fu : Nat) (l : Int) (q : BX3), Tq q → (0 ≤ R ∧ R < (pX2_pitches (pX3_street q) + 1) * pX3_sets q) → (0 ≤ R2 ∧ R2 < (pX2_pitches (pX3_street q) + 1) * pX3_sets q) → (0 ≤ k ∧ k < pX3_kinds q) → (0 ≤ kb ∧ kb < pX3_kinds q) → need ≤ l → 0 < fu → pX3_levels q - l < fu → (∀ l', 0 ≤ l' → l' < pX3_levels q → 0 ≤ Tb q R2 kb l' ∧ Tb q R2 kb l' ≤ 2000000) →
    ∃ q', g_X3_tryStart_82 n k56 fu t own need ((R * pX3_kinds q + k) * pX3_levels q) ((R2 * pX3_kinds q + kb) * pX3_levels q - need) k l q = k56 t own need ((R * pX3_kinds q + (k + 1)) * pX3_levels q) ((R2 * pX3_kinds q + kb) * pX3_levels q - need) (k + 1) q' ∧ Rt q q' ∧
      (∀ R' k' l', 0 ≤ k' → k' < pX3_kinds q → 0 ≤ l' → l' < pX3_levels q → Tb q' R' k' l' = if R' = R ∧ k' = k ∧ l ≤ l' then max (Tb q R k l') (own + Tb q R2 kb (l' - need)) else Tb q R' k' l') := by
  intro fu
  induction fu with
  | zero => intro l q _ _ _ _ _ _ h0; omega
  | succ fu ih =>
    intro l q hq hR hR2 hk hkb hl _ hf hT2
    have hK := hq.2.2.1
    have hV := hq.2.2.2.1
    have hN := hq.2.2.2.2
    rw [g_X3_tryStart_82.eq_2]
    by_cases hc : pX3_levels q ≤ l
    · have b1 := tix_b hR hk (l := 0) (V := pX3_levels q) ⟨by omega, by omega⟩
      unfold tix at b1
      unfold g_X3_tryStart_133
      rw [if_pos hc, oR_ok (by omega) (by omega), oL_def, oR_ok (by omega) (by omega)]
      refine ⟨q, ?_, Rt.rfl' q, fun R' k' l' _ _ _ _ => ?_⟩
      · have : (R * pX3_kinds q + k) * pX3_levels q + pX3_levels q = (R * pX3_kinds q + (k + 1)) * pX3_levels q := by
          rw [show R * pX3_kinds q + (k + 1) = (R * pX3_kinds q + k) + 1 by omega, Int.add_mul _ 1, Int.one_mul]
        rw [this]
      · rw [if_neg (by omega)]
    · have b1 := tix_b hR hk (l := l) (V := pX3_levels q) ⟨by omega, by omega⟩
      have b2 := tix_b hR2 hkb (l := l - need) (V := pX3_levels q) ⟨by omega, by omega⟩
      have e1 : (R2 * pX3_kinds q + kb) * pX3_levels q - need + l = tix (pX3_kinds q) (pX3_levels q) R2 kb (l - need) := by unfold tix; omega
      have e2 : (R * pX3_kinds q + k) * pX3_levels q + l = tix (pX3_kinds q) (pX3_levels q) R k l := rfl
      have ht2 := hT2 (l - need) (by omega) (by omega)
      unfold Tb at ht2
      unfold g_X3_tryStart_127
      rw [if_neg hc, e1, e2, qA_ok (by omega) (by omega) (by omega), oR_ok (by omega) (by omega), oL_def, qA_ok (by omega) (by omega) (by omega), qA_ok (by omega) (by omega) (by omega), oL_def, oR_ok (by omega) (by omega)]
      by_cases hle : own + pX3_table q (tix (pX3_kinds q) (pX3_levels q) R2 kb (l - need)) ≤ pX3_table q (tix (pX3_kinds q) (pX3_levels q) R k l)
      · rw [if_pos hle]
        obtain ⟨q', g1, g2, g3⟩ := ih (l + 1) q hq hR hR2 hk hkb (by omega) (by omega) (by omega) hT2
        refine ⟨q', g1, g2, fun R' k' l' a1 a2 a3 a4 => ?_⟩
        rw [g3 R' k' l' a1 a2 a3 a4]
        by_cases c1 : R' = R ∧ k' = k ∧ l + 1 ≤ l'
        · rw [if_pos c1, if_pos ⟨c1.1, c1.2.1, by omega⟩]
        · rw [if_neg c1]
          by_cases c2 : R' = R ∧ k' = k ∧ l ≤ l'
          · have : l' = l := by
              by_cases h : l' = l
              · exact h
              · exact absurd ⟨c2.1, c2.2.1, by omega⟩ c1
            rw [if_pos c2, c2.1, c2.2.1, this]
            unfold Tb
            omega
          · rw [if_neg c2]
      · rw [if_neg hle, oR_ok (by omega) (by omega)]
        have hRt : Rt q (sX3_table q (updZ (pX3_table q) (tix (pX3_kinds q) (pX3_levels q) R k l) (own + pX3_table q (tix (pX3_kinds q) (pX3_levels q) R2 kb (l - need))))) := ⟨_, rfl⟩
        obtain ⟨f1, f2, f3, f4, f5, _⟩ := hRt.eqs
        have hE : ∀ R'' k'' l'', 0 ≤ k'' → k'' < pX3_kinds q → 0 ≤ l'' → l'' < pX3_levels q → Tb (sX3_table q (updZ (pX3_table q) (tix (pX3_kinds q) (pX3_levels q) R k l) (own + pX3_table q (tix (pX3_kinds q) (pX3_levels q) R2 kb (l - need))))) R'' k'' l'' = if R'' = R ∧ k'' = k ∧ l'' = l then own + Tb q R2 kb (l - need) else Tb q R'' k'' l'' := by
          intro R'' k'' l'' c1 c2 c3 c4
          unfold Tb
          rw [eX3_table_table, eX3_kinds_table, eX3_levels_table, updZ_app]
          by_cases h : tix (pX3_kinds q) (pX3_levels q) R'' k'' l'' = tix (pX3_kinds q) (pX3_levels q) R k l
          · have := tix_inj ⟨c1, c2⟩ ⟨c3, c4⟩ hk ⟨by omega, by omega⟩ h
            rw [if_pos h, if_pos this]
          · rw [if_neg h, if_neg]
            rintro ⟨h1, h2, h3⟩
            rw [h1, h2, h3] at h
            exact h rfl
        have := ih (l + 1) _ (hRt.tq hq) (by rw [f1, f3]; exact hR) (by rw [f1, f3]; exact hR2) (by rw [f4]; exact hk) (by rw [f4]; exact hkb) (by omega) (by omega) (by rw [f5]; omega) (by
          intro l' d1 d2
          rw [f5] at d2
          rw [hE _ _ _ hkb.1 hkb.2 d1 d2, if_neg (fun h => hRR h.1.symm)]
          exact hT2 l' d1 d2)
        rw [f4, f5] at this
        obtain ⟨q', g1, g2, g3⟩ := this
        refine ⟨q', g1, hRt.trans g2, fun R' k' l' a1 a2 a3 a4 => ?_⟩
        rw [g3 R' k' l' a1 a2 a3 a4]
        by_cases c1 : R' = R ∧ k' = k ∧ l + 1 ≤ l'
        · rw [if_pos c1, hE _ _ _ hk.1 hk.2 a3 a4, if_neg (fun h => by omega), hE _ _ _ hkb.1 hkb.2 (by omega) (by omega), if_neg (fun h => hRR h.1.symm), if_pos ⟨c1.1, c1.2.1, by omega⟩]
        · rw [if_neg c1, hE _ _ _ a1 a2 a3 a4]
          by_cases c2 : R' = R ∧ k' = k ∧ l' = l
          · rw [if_pos c2, if_pos ⟨c2.1, c2.2.1, by omega⟩, c2.2.2]
            have hmx : Tb q R k l = pX3_table q (tix (pX3_kinds q) (pX3_levels q) R k l) := rfl
            have hmy : Tb q R2 kb (l - need) = pX3_table q (tix (pX3_kinds q) (pX3_levels q) R2 kb (l - need)) := rfl
            omega
          · rw [if_neg c2, if_neg]
            rintro ⟨h1, h2, h3⟩
            by_cases h4 : l' = l
            · exact c2 ⟨h1, h2, h4⟩
            · exact c1 ⟨h1, h2, by omega⟩
theorem s_X3_56 (n : Nat) (hn : 100 ≤ n) {t own need R R2 kb : Int} (t0 : 0 ≤ t) (t8 : t < 8) (ho : 0 ≤ own ∧ own ≤ 100000) (hn0 : 0 ≤ need) (hRR : R ≠ R2) : ∀ (fu : Nat) (k : Int) (q : BX3), Tq q → (0 ≤ R ∧ R < (pX2_pitches (pX3_street q) + 1) * pX3_sets q) → (0 ≤ R2 ∧ R2 < (pX2_pitches (pX3_street q) + 1) * pX3_sets q) → 0 ≤ k → (0 ≤ kb ∧ kb < pX3_kinds q) → 0 < fu → pX3_kinds q - k < fu → (∀ l', 0 ≤ l' → l' < pX3_levels q → 0 ≤ Tb q R2 kb l' ∧ Tb q R2 kb l' ≤ 2000000) →
    ∃ q', g_X3_tryStart_56 n fu t own need ((R * pX3_kinds q + k) * pX3_levels q) ((R2 * pX3_kinds q + kb) * pX3_levels q - need) k q = some q' ∧ Rt q q' ∧
      (∀ R' k' l', 0 ≤ k' → k' < pX3_kinds q → 0 ≤ l' → l' < pX3_levels q → Tb q' R' k' l' = cif (R' = R ∧ k ≤ k' ∧ ¬ zbit (pX3_barred q k') t ∧ need ≤ l') (max (Tb q R k' l') (own + Tb q R2 kb (l' - need))) (Tb q R' k' l')) := by
  intro fu
  induction fu with
  | zero => intro k q _ _ _ _ _ h0; omega
  | succ fu ih =>
    intro k q hq hR hR2 k0 hkb _ hf hT2
    have hK := hq.2.2.1
    have hV := hq.2.2.2.1
    have hN := hq.2.2.2.2
    rw [g_X3_tryStart_56.eq_2]
    by_cases hc : pX3_kinds q ≤ k
    · rw [if_pos hc]
      refine ⟨q, rfl, Rt.rfl' q, fun R' k' l' _ _ _ _ => ?_⟩
      rw [cif_neg (fun h => by omega)]
    · unfold g_X3_isBarred
      rw [if_neg hc, qA_ok k0 (by omega) (by omega)]
      by_cases hb : zbit (pX3_barred q k) t
      · rw [if_neg hb, oB_some, if_neg (by omega)]
        have b1 := tix_b hR ⟨k0, by omega⟩ (K := pX3_kinds q) (l := 0) (V := pX3_levels q) ⟨by omega, by omega⟩
        unfold tix at b1
        unfold g_X3_tryStart_133
        rw [oR_ok (by omega) (by omega), oL_def, oR_ok (by omega) (by omega)]
        have e : (R * pX3_kinds q + k) * pX3_levels q + pX3_levels q = (R * pX3_kinds q + (k + 1)) * pX3_levels q := by
          rw [show R * pX3_kinds q + (k + 1) = (R * pX3_kinds q + k) + 1 by omega, Int.add_mul _ 1, Int.one_mul]
        rw [e]
        obtain ⟨q', g1, g2, g3⟩ := ih (k + 1) q hq hR hR2 (by omega) hkb (by omega) (by omega) hT2
        refine ⟨q', g1, g2, fun R' k' l' a1 a2 a3 a4 => ?_⟩
        rw [g3 R' k' l' a1 a2 a3 a4]
        refine cif_congr ⟨fun h => ⟨h.1, by omega, h.2.2⟩, fun h => ⟨h.1, ?_, h.2.2⟩⟩
        by_cases he : k' = k
        · rw [he] at h; exact absurd hb h.2.2.1
        · omega
      · rw [if_pos (Classical.byContradiction hb), oB_some, if_pos rfl]
        obtain ⟨q1, g1, g2, g3⟩ := s_X3_82 n (g_X3_tryStart_56 n fu) (t := t) ho hn0 hRR n need q hq hR hR2 ⟨k0, by omega⟩ hkb (Int.le_refl _) (by omega) (by omega) hT2
        obtain ⟨f1, f2, f3, f4, f5, f6, f7, f8, f9, f10⟩ := g2.eqs
        have := ih (k + 1) q1 (g2.tq hq) (by rw [f1, f3]; exact hR) (by rw [f1, f3]; exact hR2) (by omega) (by rw [f4]; exact hkb) (by omega) (by rw [f4]; omega) (by
          intro l' d1 d2
          rw [f5] at d2
          rw [g3 _ _ _ hkb.1 hkb.2 d1 d2, if_neg (fun h => hRR h.1.symm)]
          exact hT2 l' d1 d2)
        rw [f4, f5, f10] at this
        obtain ⟨q', j1, j2, j3⟩ := this
        refine ⟨q', by rw [g1, j1], g2.trans j2, fun R' k' l' a1 a2 a3 a4 => ?_⟩
        rw [j3 R' k' l' a1 a2 a3 a4]
        by_cases c1 : R' = R ∧ k + 1 ≤ k' ∧ ¬ zbit (pX3_barred q k') t ∧ need ≤ l'
        · rw [cif_pos c1, cif_pos ⟨c1.1, by omega, c1.2.2⟩, g3 _ _ _ a1 a2 a3 a4, if_neg (fun h => by omega), g3 _ _ _ hkb.1 hkb.2 (by omega) (by omega), if_neg (fun h => hRR h.1.symm)]
        · rw [cif_neg c1, g3 _ _ _ a1 a2 a3 a4]
          by_cases c2 : R' = R ∧ k' = k ∧ need ≤ l'
          · rw [if_pos c2, cif_pos ⟨c2.1, by omega, by rw [c2.2.1]; exact hb, c2.2.2⟩, c2.2.1]
          · rw [if_neg c2, cif_neg]
            rintro ⟨h1, h2, h3, h4⟩
            by_cases he : k' = k
            · exact c2 ⟨h1, he, h4⟩
            · exact c1 ⟨h1, by omega, h3, h4⟩
