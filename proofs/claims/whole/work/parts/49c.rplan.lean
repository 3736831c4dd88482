/-! The reference's plans: every entry is the optimum. -/
theorem hOK_b {b : BX2} (hb : S2 b) {u h : Int} (k : hOK b u h) : 0 ≤ h ∧ h ≤ 8 := by
  have ht := hb.tra
  rcases k with x | x
  · omega
  · omega
theorem s_X6_plans_135 (n : Nat) (hn : 100 ≤ n) (k88 : Int → Int → Int → BX6 → Option (Int × BX6)) (k96 : Int → Int → Int → Int → BX6 → Option (Int × BX6)) (k105 : Int → Int → Int → Int → Int → BX6 → Option (Int × BX6)) {b : BX2} (hb : S2 b) {c p u h S : Int} (c0 : 0 ≤ c) (hc5 : c ≤ 5) (p0 : 0 ≤ p) (p1 : p < pX2_pitches b) (hu : 0 ≤ u ∧ u < zShl 1 (pX2_traders b)) (hh : hOK b u h) :
    ∀ (fu : Nat) (l : Int) (r : BX6), Rl b (pX6_a r) → (∀ t, 0 ≤ t → t < pX2_traders b → Lk b r t p) → (∀ p', p < p' → p' ≤ pX2_pitches b → BestOK b c r p') → 0 ≤ l → l ≤ c + 1 → 0 < fu → c + 1 - l < fu →
    ∃ r', g_X6_plans_135 n k88 k96 k105 fu c S p u h l r = k105 c S p u (h + 1) r' ∧ Rb r r' ∧ (∀ l', l ≤ l' → l' ≤ c → pX6_best r' (rix p u h l') = opt b p u (barH b h) l') ∧ (∀ i, (i < rix p u h l ∨ rix p u h 0 + 6 ≤ i) → pX6_best r' i = pX6_best r i) := by
  have ht := hb.tra
  have hp := hb.pit
  have sb := sets_b hb
  have hbd := hOK_b hb hh
  intro fu
  induction fu with
  | zero => intro l r _ _ _ _ _ h0; omega
  | succ fu ih =>
    intro l r R hL hrow l0 l1 _ hf
    rw [g_X6_plans_135.eq_2]
    by_cases hc : c < l
    · unfold g_X6_plans_230
      rw [if_pos hc, oR_ok (by omega) (by omega)]
      exact ⟨r, rfl, Rb.rfl' r, fun l' a b => by omega, fun i _ => rfl⟩
    · have e0 : g_X6_plans_156 n k88 k96 k105 (g_X6_plans_135 n k88 k96 k105 fu) n c S p u h l (opt b (p + 1) u 0 l) 0 r = g_X6_plans_135 n k88 k96 k105 fu c S p u h (l + 1) (sX6_best r (updZ (pX6_best r) (rix p u h l) (opt b p u (barH b h) l))) :=
        s_X6_plans_156 n k88 k96 k105 (g_X6_plans_135 n k88 k96 k105 fu) hb R hc5 p0 p1 hu hh l0 (by omega) hL hrow n 0 (by omega) (by omega) (by omega)
      rw [if_neg hc, s_X6_free hb hc5 p0 p1 hu l0 (by omega) (hrow (p + 1) (by omega) (by omega)), oB_some, e0]
      have hR : Rb r (sX6_best r (updZ (pX6_best r) (rix p u h l) (opt b p u (barH b h) l))) := ⟨_, rfl⟩
      have hin : rix p u h l < 13824 * (p + 1) := by unfold rix; omega
      obtain ⟨r', g1, g2, g3, g4⟩ := ih (l + 1) _ (by rw [hR.eqs.1]; exact R) (fun t t0 t1 => hR.lk (hL t t0 t1)) (fun p' a b' => BestOK_of (hrow p' a b') hb hc5 (fun i i0 i1 => by rw [eX6_best_best, updZ_ne (by omega)])) (by omega) (by omega) (by omega) (by omega)
      refine ⟨r', g1, hR.trans g2, ?_, ?_⟩
      · intro l' a b'
        by_cases he : l' = l
        · rw [he, g4 _ (.inl (by unfold rix; omega)), eX6_best_best, updZ_at]
        · exact g3 l' (by omega) b'
      · intro i hi
        rw [g4 i (by unfold rix at hi ⊢; omega), eX6_best_best, updZ_ne (by unfold rix at hi ⊢; omega)]
theorem s_X6_plans_105 (n : Nat) (hn : 100 ≤ n) (k88 : Int → Int → Int → BX6 → Option (Int × BX6)) (k96 : Int → Int → Int → Int → BX6 → Option (Int × BX6)) {b : BX2} (hb : S2 b) {c p u S : Int} (c0 : 0 ≤ c) (hc5 : c ≤ 5) (p0 : 0 ≤ p) (p1 : p < pX2_pitches b) (hu : 0 ≤ u ∧ u < zShl 1 (pX2_traders b)) :
    ∀ (fu : Nat) (h : Int) (r : BX6), Rl b (pX6_a r) → (∀ t, 0 ≤ t → t < pX2_traders b → Lk b r t p) → (∀ p', p < p' → p' ≤ pX2_pitches b → BestOK b c r p') → 0 ≤ h → h ≤ 9 → 0 < fu → 9 - h < fu →
    ∃ r', g_X6_plans_105 n k88 k96 fu c S p u h r = k96 c S p (u + 1) r' ∧ Rb r r' ∧ (∀ h' l', h ≤ h' → hOK b u h' → 0 ≤ l' → l' ≤ c → pX6_best r' (rix p u h' l') = opt b p u (barH b h') l') ∧ (∀ i, (i < rix p u h 0 ∨ rix p u 0 0 + 54 ≤ i) → pX6_best r' i = pX6_best r i) := by
  have ht := hb.tra
  have hp := hb.pit
  have sb := sets_b hb
  intro fu
  induction fu with
  | zero => intro h r _ _ _ _ _ h0; omega
  | succ fu ih =>
    intro h r R hL hrow h0 h1 _ hf
    rw [g_X6_plans_105.eq_2]
    by_cases hc : 8 < h
    · rw [if_pos hc, oR_ok (by omega) (by omega)]
      refine ⟨r, rfl, Rb.rfl' r, fun h' l' a k _ _ => ?_, fun i _ => rfl⟩
      have := hOK_b hb k
      omega
    · rw [if_neg hc]
      have step : hOK b u h → ∃ r', g_X6_plans_132 n k88 k96 (g_X6_plans_105 n k88 k96 fu) c S p u h r = k96 c S p (u + 1) r' ∧ Rb r r' ∧ (∀ h' l', h ≤ h' → hOK b u h' → 0 ≤ l' → l' ≤ c → pX6_best r' (rix p u h' l') = opt b p u (barH b h') l') ∧ (∀ i, (i < rix p u h 0 ∨ rix p u 0 0 + 54 ≤ i) → pX6_best r' i = pX6_best r i) := by
        intro hh
        unfold g_X6_plans_132
        obtain ⟨r1, g1, g2, g3, g4⟩ := s_X6_plans_135 n hn k88 k96 (g_X6_plans_105 n k88 k96 fu) (S := S) hb c0 hc5 p0 p1 hu hh n 0 r R hL hrow (by omega) (by omega) (by omega) (by omega)
        obtain ⟨r', j1, j2, j3, j4⟩ := ih (h + 1) r1 (by rw [g2.eqs.1]; exact R) (fun t t0 t1 => g2.lk (hL t t0 t1)) (fun p' a b' => BestOK_of (hrow p' a b') hb hc5 (fun i i0 i1 => g4 i (.inr (by unfold rix; omega)))) (by omega) (by omega) (by omega) (by omega)
        refine ⟨r', by rw [g1, j1], g2.trans j2, ?_, ?_⟩
        · intro h' l' a k d e
          by_cases he : h' = h
          · rw [he, j4 _ (.inl (by unfold rix; omega))]; exact g3 l' d e
          · exact j3 h' l' (by omega) k d e
        · intro i hi
          rw [j4 i (by unfold rix at hi ⊢; omega), g4 i (by unfold rix at hi ⊢; omega)]
      by_cases h8 : 8 ≤ h
      · rw [if_pos h8]; exact step (.inl (by omega))
      · rw [if_neg h8]
        by_cases hz : zbit u h
        · rw [if_neg hz]
          refine step (.inr ⟨h0, ?_, hz⟩)
          -- a bit of a number below 2^traders
          by_cases hT : h < pX2_traders b
          · exact hT
          · exfalso
            have hlt := hu.2
            rw [zShl1_pow ht.1 ht.2] at hlt
            have := zt_big (m := (pX2_traders b).toNat) hu.1 hlt (i := h.toNat) (by omega)
            rw [zbit_zt h0 (by omega), this] at hz
            exact absurd hz (by decide)
        · unfold g_X6_plans_230
          rw [if_pos (Classical.byContradiction hz), oR_ok (by omega) (by omega)]
          obtain ⟨r', j1, j2, j3, j4⟩ := ih (h + 1) r R hL hrow (by omega) (by omega) (by omega) (by omega)
          refine ⟨r', j1, j2, ?_, ?_⟩
          · intro h' l' a k d e
            by_cases he : h' = h
            · rw [he] at k
              rcases k with k | k
              · omega
              · exact absurd k.2.2 hz
            · exact j3 h' l' (by omega) k d e
          · intro i hi
            exact j4 i (by unfold rix at hi ⊢; omega)
theorem s_X6_plans_96 (n : Nat) (hn : 100 ≤ n) (k88 : Int → Int → Int → BX6 → Option (Int × BX6)) {b : BX2} (hb : S2 b) {c p : Int} (c0 : 0 ≤ c) (hc5 : c ≤ 5) (p0 : 0 ≤ p) (p1 : p < pX2_pitches b) :
    ∀ (fu : Nat) (u : Int) (r : BX6), Rl b (pX6_a r) → (∀ t, 0 ≤ t → t < pX2_traders b → Lk b r t p) → (∀ p', p < p' → p' ≤ pX2_pitches b → BestOK b c r p') → 0 ≤ u → u ≤ zShl 1 (pX2_traders b) → 0 < fu → zShl 1 (pX2_traders b) - u < fu →
    ∃ r', g_X6_plans_96 n k88 fu c (zShl 1 (pX2_traders b)) p u r = k88 c (zShl 1 (pX2_traders b)) (p - 1) r' ∧ Rb r r' ∧ (∀ u' h l, u ≤ u' → u' < zShl 1 (pX2_traders b) → hOK b u' h → 0 ≤ l → l ≤ c → pX6_best r' (rix p u' h l) = opt b p u' (barH b h) l) ∧ (∀ i, (i < rix p u 0 0 ∨ 13824 * (p + 1) ≤ i) → pX6_best r' i = pX6_best r i) := by
  have ht := hb.tra
  have hp := hb.pit
  have sb := sets_b hb
  intro fu
  induction fu with
  | zero => intro u r _ _ _ _ _ h0; omega
  | succ fu ih =>
    intro u r R hL hrow u0 u1 _ hf
    rw [g_X6_plans_96.eq_2]
    by_cases hc : zShl 1 (pX2_traders b) ≤ u
    · rw [if_pos hc, oR_ok (by omega) (by omega), show p + -1 = p - 1 by omega]
      exact ⟨r, rfl, Rb.rfl' r, fun u' h l a b' => by omega, fun i _ => rfl⟩
    · rw [if_neg hc]
      obtain ⟨r1, g1, g2, g3, g4⟩ := s_X6_plans_105 n hn k88 (g_X6_plans_96 n k88 fu) (S := zShl 1 (pX2_traders b)) hb c0 hc5 p0 p1 (u := u) ⟨u0, by omega⟩ n 0 r R hL hrow (by omega) (by omega) (by omega) (by omega)
      obtain ⟨r', j1, j2, j3, j4⟩ := ih (u + 1) r1 (by rw [g2.eqs.1]; exact R) (fun t t0 t1 => g2.lk (hL t t0 t1)) (fun p' a b' => BestOK_of (hrow p' a b') hb hc5 (fun i i0 i1 => g4 i (.inr (by unfold rix; omega)))) (by omega) (by omega) (by omega) (by omega)
      refine ⟨r', by rw [g1, j1], g2.trans j2, ?_, ?_⟩
      · intro u' h l a b' k d e
        have hbd := hOK_b hb k
        by_cases he : u' = u
        · rw [he] at k ⊢
          rw [j4 _ (.inl (by unfold rix; omega))]
          exact g3 h l (by omega) k d e
        · exact j3 u' h l (by omega) b' k d e
      · intro i hi
        rw [j4 i (by unfold rix at hi ⊢; omega), g4 i (by unfold rix at hi ⊢; omega)]
theorem s_X6_plans_88 (n : Nat) (hn : 1000 ≤ n) {b : BX2} (hb : S2 b) {c : Int} (c0 : 0 ≤ c) (hc5 : c ≤ 5) :
    ∀ (fu : Nat) (p : Int) (r : BX6), Rl b (pX6_a r) → (∀ t p, 0 ≤ t → t < pX2_traders b → 0 ≤ p → p < pX2_pitches b → Lk b r t p) → (∀ p', p < p' → p' ≤ pX2_pitches b → BestOK b c r p') → -1 ≤ p → p < pX2_pitches b → p + 1 < fu →
    ∃ r', g_X6_plans_88 n fu c (zShl 1 (pX2_traders b)) p r = some (opt b 0 0 0 c / 16, r') ∧ Rb r r' ∧ (∀ p', 0 ≤ p' → p' ≤ pX2_pitches b → BestOK b c r' p') := by
  have ht := hb.tra
  have hp := hb.pit
  have sb := sets_b hb
  intro fu
  induction fu with
  | zero => intro p r _ _ _ _ _ h0; omega
  | succ fu ih =>
    intro p r R hL hrow p0 p1 hf
    rw [g_X6_plans_88.eq_2]
    by_cases hc : p < 0
    · have hb0 := hrow 0 (by omega) (by omega) 0 8 c (by omega) (by omega) (.inl rfl) c0 (Int.le_refl _)
      have hop := opt_r hb (p := 0) 0 0 c (by omega)
      unfold barH rix at hb0
      rw [if_pos rfl] at hb0
      unfold g_X6_at
      rw [if_pos hc, oR_ok (by omega) (by omega), oB_some, qA_ok (by omega) (by omega) (by omega), hb0, qD_ok hop.1 (by omega), oR_ok (by omega) (by omega)]
      exact ⟨r, rfl, Rb.rfl' r, fun p' a b' => hrow p' (by omega) b'⟩
    · rw [if_neg hc]
      obtain ⟨r1, g1, g2, g3, g4⟩ := s_X6_plans_96 n (by omega) (g_X6_plans_88 n fu) hb c0 hc5 (p := p) (by omega) p1 n 0 r R (fun t t0 t1 => hL t p t0 t1 (by omega) p1) hrow (by omega) (by omega) (by omega) (by omega)
      obtain ⟨r', j1, j2, j3⟩ := ih (p - 1) r1 (by rw [g2.eqs.1]; exact R) (fun t p' t0 t1 a b' => g2.lk (hL t p' t0 t1 a b')) (fun p' a b' => by
        by_cases he : p' = p
        · rw [he]; intro u h l d1 d2 k e1 e2; exact g3 u h l d1 d2 k e1 e2
        · exact BestOK_of (hrow p' (by omega) b') hb hc5 (fun i i0 i1 => g4 i (.inr (by omega)))) (by omega) (by omega) (by omega)
      exact ⟨r', by rw [g1, j1], g2.trans j2, j3⟩
