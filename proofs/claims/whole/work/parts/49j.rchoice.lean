/-! The reference's choice is the same. -/
theorem s_X6_optimise_77 (n : Nat) (k63 : Int → Int → Int → Int → BX6 → Option (Int × BX6)) {b : BX2} {r : BX6} (hb : S2 b) (R : Rl b (pX6_a r)) {c p u h l : Int} (hc5 : c ≤ 5) (p0 : 0 ≤ p) (p1 : p < pX2_pitches b) (hu : 0 ≤ u ∧ u < zShl 1 (pX2_traders b)) (hh : hOK b u h) (l0 : 0 ≤ l) (l1 : l ≤ c) (hL : ∀ t, 0 ≤ t → t < pX2_traders b → Lk b r t p) (hrow : ∀ p', p ≤ p' → p' ≤ pX2_pitches b → BestOK b c r p') :
    ∀ (fu x : Nat), (x : Int) ≤ pX2_traders b → 0 < fu → pX2_traders b - x < fu → chF b p u (barH b h) l x = -1 → g_X6_optimise_77 n k63 fu u h l p x r = g_X6_optimise_122 n k63 u l p (if chF b p u (barH b h) l (pX2_traders b).toNat = -1 then pX2_traders b else chF b p u (barH b h) l (pX2_traders b).toNat) r := by
  have ht := hb.tra
  have hp := hb.pit
  have sb := sets_b hb
  have hbd := hOK_b hb hh
  have hbst := hrow p (Int.le_refl _) (by omega) u h l hu.1 hu.2 hh l0 l1
  unfold rix at hbst
  intro fu
  induction fu with
  | zero => intro x _ h0; omega
  | succ fu ih =>
    intro x x1 _ hf hx
    rw [g_X6_optimise_77.eq_2, qA_ok (by omega) (by omega) (by omega), R.tra]
    by_cases hc : pX2_traders b ≤ x
    · rw [if_pos hc, show (pX2_traders b).toNat = x by omega, if_pos hx, show pX2_traders b = x by omega]
    · unfold g_X6_at
      rw [if_neg hc, s_X6_begun hb R hc5 (by omega) (by omega) p0 p1 (hL x (by omega) (by omega)) hu hh l0 l1 (fun p' a b' => hrow p' (by omega) b'), oB_some, oR_ok (by omega) (by omega), oB_some, qA_ok (by omega) (by omega) (by omega), hbst]
      by_cases heq : cand b p u (barH b h) l x = opt b p u (barH b h) l
      · have hst : chF b p u (barH b h) l (x + 1) = x := by rw [chF.eq_2, cif_pos ⟨hx, heq⟩]
        have := chF_stay (b := b) (p := p) (u := u) (z := barH b h) (l := l) (k := x + 1) (by rw [hst]; omega) ((pX2_traders b).toNat - (x + 1))
        rw [show x + 1 + ((pX2_traders b).toNat - (x + 1)) = (pX2_traders b).toNat by omega, hst] at this
        rw [if_pos heq, this, if_neg (by omega)]
      · rw [if_neg heq, oR_ok (by omega) (by omega)]
        have := ih (x + 1) (by omega) (by omega) (by omega) (by rw [chF.eq_2, cif_neg (fun y => heq y.2)]; exact hx)
        rw [show ((x + 1 : Nat) : Int) = (x : Int) + 1 by omega] at this
        exact this
