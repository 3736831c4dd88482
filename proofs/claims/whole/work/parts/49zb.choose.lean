/-! The class's search: hopes, the choice of those who move, the whole. -/
def HD (b c0 : BX2) (w H : Int → Int) (lo mv : Int) : Prop := H (mv + 1) = 0 ∧ (∀ j, lo ≤ j → j ≤ mv + 1 → 0 ≤ H j ∧ H j ≤ 3000 * (mv + 1 - j)) ∧ ∀ j, lo ≤ j → j ≤ mv → mDearest c0 (w j) (pX2_starts b (w j)) ≠ -1 ∧ H j = H (j + 1) + mRent b (w j) (mDearest c0 (w j) (pX2_starts b (w j)))
theorem s_sh11 (n : Nat) (hn : 1000 ≤ n) {b c0 : BX2} (hb : V2 b) (hc : V2 c0) (hs : Same c0 b) {w : Int → Int} {mv : Int} (hw : Wk b w mv) :
    ∀ (fu : Nat) (i : Int) (y : BX1), -1 ≤ i → i ≤ mv → i + 1 < fu → pX1_street y = c0 → (∀ j, 0 ≤ j → j ≤ mv → pX1_walkers y j = w j) → (∀ u, 0 ≤ u → u < 8 → pX1_oldStarts y u = pX2_starts b u) → HD b c0 w (pX1_hopes y) (i + 1) mv →
    ∃ r H, g_X1_sumHopes_11 n fu i y = some (r, sX1_hopes y H) ∧ ((r = 1 ∧ HD b c0 w H 0 mv) ∨ (r = 0 ∧ ∃ j, 0 ≤ j ∧ j ≤ mv ∧ mDearest c0 (w j) (pX2_starts b (w j)) = -1)) := by
  have hT := hb.s.tra
  have hP := hb.s.pit
  have hmv := hw.1
  have eT := hs.2.2.2.2.1
  have eP := hs.1
  intro fu
  induction fu with
  | zero => intro i y i0 i1 h; omega
  | succ fu ih =>
    intro i y i0 i1 hf hy hwy hold hD
    rw [g_X1_sumHopes_11.eq_2]
    by_cases hi : i < 0
    · rw [if_pos hi]
      refine ⟨1, pX1_hopes y, by rw [iX1_hopes], .inl ⟨rfl, ?_⟩⟩
      rw [show (0 : Int) = i + 1 by omega]; exact hD
    · have hwi := hw.2.1 i (by omega) i1
      have hdr := mDearest_r hc.s (w i) (pX2_starts b (w i))
      rw [if_neg hi, qA_ok (by omega) (by omega) (by omega), qA_ok (by omega) (by omega) (by omega), hwy i (by omega) i1, qA_ok hwi.1 (by omega) (by omega), hold (w i) hwi.1 (by omega), hy, s_X2_dearestStart (by omega) hc.w _ hwi.1 (by omega), oB_some]
      by_cases hd : mDearest c0 (w i) (pX2_starts b (w i)) = -1
      · rw [if_pos hd]
        exact ⟨0, pX1_hopes y, by rw [iX1_hopes], .inr ⟨rfl, i, by omega, i1, hd⟩⟩
      · rcases hdr with h | ⟨k1, k2, k3, k4⟩
        · exact absurd h hd
        have hmr := mRent_b hc.s hwi.1 (by omega) k1
        have hb1 := hD.2.1 (i + 1) (by omega) (by omega)
        rw [if_neg hd, qA_ok (by omega) (by omega) (by omega), qA_ok (by omega) (by omega) (by omega), s_X2_blockRent (by omega) hc.s hwi.1 (by omega) k1 (by omega), oB_some, qA_ok (by omega) (by omega) (by omega), oR_ok (by omega) (by omega), oL_def, oR_ok (by omega) (by omega)]
        obtain ⟨r, H, j1, j2⟩ := ih (i + -1) (sX1_hopes y (updZ (pX1_hopes y) i (pX1_hopes y (i + 1) + mRent c0 (w i) (mDearest c0 (w i) (pX2_starts b (w i)))))) (by omega) (by omega) (by omega) (by rw [eX1_street_hopes]; exact hy) (by rw [eX1_walkers_hopes]; exact hwy) (by rw [eX1_oldStarts_hopes]; exact hold) (by
          rw [eX1_hopes_hopes, show i + -1 + 1 = i by omega]
          refine ⟨by rw [updZ_ne (by omega)]; exact hD.1, fun j l0 l1 => ?_, fun j l0 l1 => ?_⟩
          · rw [updZ_app]
            by_cases hj : j = i
            · rw [if_pos hj, hj]; omega
            · rw [if_neg hj]; exact hD.2.1 j (by omega) l1
          · by_cases hj : j = i
            · rw [hj, updZ_at, updZ_ne (by omega), hs.rent]
              exact ⟨hd, rfl⟩
            · rw [updZ_ne hj, updZ_ne (by omega)]
              exact hD.2.2 j (by omega) l1)
        rw [uX1_hopes] at j1
        exact ⟨r, H, j1, j2⟩
theorem s_sumHopes {n : Nat} (hn : 1000 ≤ n) {b c0 : BX2} (hb : V2 b) (hc : V2 c0) (hs : Same c0 b) {w : Int → Int} {mv : Int} (hw : Wk b w mv) {y : BX1} (hy : pX1_street y = c0) (hwy : ∀ j, 0 ≤ j → j ≤ mv → pX1_walkers y j = w j) (hold : ∀ u, 0 ≤ u → u < 8 → pX1_oldStarts y u = pX2_starts b u) :
    ∃ r H, g_X1_sumHopes n y mv = some (r, sX1_hopes y H) ∧ ((r = 1 ∧ HD b c0 w H 0 mv) ∨ (r = 0 ∧ ∃ j, 0 ≤ j ∧ j ≤ mv ∧ mDearest c0 (w j) (pX2_starts b (w j)) = -1)) := by
  have hmv := hw.1
  unfold g_X1_sumHopes
  rw [qA_ok (by omega) (by omega) (by omega), oL_def]
  obtain ⟨r, H, j1, j2⟩ := s_sh11 n hn hb hc hs hw n mv (sX1_hopes y (updZ (pX1_hopes y) (mv + 1) 0)) (by omega) (Int.le_refl _) (by omega) (by rw [eX1_street_hopes]; exact hy) (by rw [eX1_walkers_hopes]; exact hwy) (by rw [eX1_oldStarts_hopes]; exact hold) (by
    rw [eX1_hopes_hopes]
    refine ⟨updZ_at _ _ _, fun j l0 l1 => ?_, fun j l0 l1 => by omega⟩
    rw [show j = mv + 1 by omega, updZ_at]; omega)
  rw [uX1_hopes] at j1
  exact ⟨r, H, j1, j2⟩
theorem Ex_hind {b c0 c : BX2} (hb : V2 b) (hc : V2 c0) (hs : Same c0 b) {w : Int → Int} {mv : Int} (hw : Wk b w mv) (hun : ∀ i, 0 ≤ i → i ≤ mv → pX2_starts c0 (w i) = -1) (hE : Ex b c0 w 0 mv c) {i : Int} (i0 : 0 ≤ i) (i1 : i ≤ mv) : mDearest c0 (w i) (pX2_starts b (w i)) ≠ -1 ∧ mRent c0 (w i) (pX2_starts c (w i)) ≤ mRent c0 (w i) (mDearest c0 (w i) (pX2_starts b (w i))) := by
  have hT := hb.s.tra
  have hwi := hw.2.1 i i0 i1
  have h1 := hE.2.2.2 i i0 i1
  have eT := hs.2.2.2.2.1
  have hh : mHind c0 (w i) (pX2_starts c (w i)) = 0 := by
    refine sub_hind hc hE.1 (hE.2.1.trans hs.symm) hwi.1 (by omega) (hun i i0 i1) h1.1 rfl (fun u u0 u1 => ?_)
    by_cases hu : ∃ j : Int, 0 ≤ j ∧ j ≤ mv ∧ w j = u
    · obtain ⟨j, j0, j1, j2⟩ := hu
      left; rw [← j2]; exact hun j j0 j1
    · right; exact hE.2.2.1 u u0 u1 (fun j j0 j1 j2 => hu ⟨j, j0, j1, j2⟩)
  have h2 := mHind_0.1 hh
  have h3 := mInRow_lt h2.2.1
  exact mDear_max (pX2_pitches c0).toNat (pX2_starts c (w i)) h3.1 (by omega) h1.2 hh
def chs (w : Int → Int) (mv u : Int) : Prop := ∃ i : Int, 1 ≤ i ∧ i ≤ mv ∧ w i = u
def CM (b : BX2) (nc : Int) (w : Int → Int) (mv : Int) (y : BX1) (o : Option BX2) : Prop := V2 (pX1_street y) ∧ Same (pX1_street y) b ∧ (∀ u, 0 ≤ u → u < 8 → pX2_starts (pX1_street y) u = cif (chs w mv u) (-1) (pX2_starts b u)) ∧ (∀ i, 0 ≤ i → i ≤ mv → pX1_walkers y i = w i) ∧ (∀ u, 0 ≤ u → u < 8 → pX1_oldStarts y u = pX2_starts b u) ∧ W2 (pX1_found y) ∧ ClF b y o
def CW (b : BX2) (nc : Int) (w : Int → Int) (mv : Int) : Prop := Wk b w mv ∧ w 0 = nc ∧ pX2_starts b nc = -1 ∧ ∀ i, 1 ≤ i → i ≤ mv → pX2_starts b (w i) ≠ -1
def Sm (b : BX2) (nc mo : Int) (w : Int → Int) (mv fi : Int) (c : BX2) : Prop := Cd b nc mo c ∧ (∀ i, 1 ≤ i → i ≤ mv → Mv b c (w i)) ∧ (∀ u, 0 ≤ u → u < pX2_traders b → Mv b c u → chs w mv u ∨ fi ≤ u)
theorem CW_un {b : BX2} {nc mv : Int} {w : Int → Int} {y : BX1} {o : Option BX2} (hT : pX2_traders b ≤ 8) (hW : CW b nc w mv) (hC : CM b nc w mv y o) : ∀ i, 0 ≤ i → i ≤ mv → pX2_starts (pX1_street y) (w i) = -1 := by
  intro i i0 i1
  have hwi := hW.1.2.1 i i0 i1
  rw [hC.2.2.1 (w i) hwi.1 (by omega)]
  by_cases hi : i = 0
  · by_cases h : chs w mv (w i)
    · rw [cif_pos h]
    · rw [cif_neg h, hi, hW.2.1]; exact hW.2.2.1
  · rw [cif_pos ⟨i, by omega, i1, rfl⟩]
theorem Ex_Cd {b c0 c : BX2} {nc mo mv : Int} {w : Int → Int} (hb : V2 b) (hW : CW b nc w mv) (hst : ∀ u, 0 ≤ u → u < 8 → pX2_starts c0 u = cif (chs w mv u) (-1) (pX2_starts b u)) (hm : mv ≤ mo) (hE : Ex b c0 w 0 mv c) : mvd b c = mv ∧ Cd b nc mo c := by
  have hT := hb.s.tra
  have hmv := hW.1.1
  have hr : ∀ i : Int, 1 ≤ i → i ≤ (mv.toNat : Int) → 0 ≤ w i ∧ w i < pX2_traders b := fun i i0 i1 => hW.1.2.1 i (by omega) (by omega)
  have hd : ∀ i j : Int, 1 ≤ i → i < j → j ≤ (mv.toNat : Int) → w i ≠ w j := fun i j i0 i1 i2 => hW.1.2.2 i j (by omega) i1 (by omega)
  have hout : ∀ u, 0 ≤ u → u < 8 → u ≠ nc → ¬ chs w mv u → pX2_starts c u = pX2_starts b u := by
    intro u u0 u1 hu hc
    rw [hE.2.2.1 u u0 u1 (fun i i0 i1 e => ?_), hst u u0 u1, cif_neg hc]
    by_cases hi : i = 0
    · rw [hi, hW.2.1] at e; exact hu e.symm
    · exact hc ⟨i, by omega, i1, e⟩
  have h1 := mvd_ge (b := b) (c := c) hr hd (fun i i0 i1 => ⟨hW.2.2.2 i i0 (by omega), (hE.2.2.2 i (by omega) (by omega)).2⟩)
  have h2 := mvd_le (b := b) (c := c) hr hd (fun u u0 u1 hu => by
    refine Classical.byContradiction (fun hn => ?_)
    have hn' : ¬ chs w mv u := fun ⟨i, i0, i1, i2⟩ => hn ⟨i, i0, by omega, i2⟩
    refine hu.2 (hout u u0 (by omega) (fun e => ?_) hn')
    rw [e] at hu; exact hu.1 hW.2.2.1)
  have hmvd : mvd b c = mv := by omega
  refine ⟨hmvd, hE.1, hE.2.1, ?_, fun u u0 u1 hu => ?_, by omega⟩
  · have := (hE.2.2.2 0 (Int.le_refl _) hmv.1).1
    rw [hW.2.1] at this; exact this
  · by_cases hc : chs w mv u
    · obtain ⟨i, i0, i1, i2⟩ := hc
      have q1 := (hE.2.2.2 i (by omega) i1).1
      have q2 := hW.2.2.2 i i0 i1
      rw [i2] at q1 q2
      exact ⟨fun h => absurd h q1, fun h => absurd h q2⟩
    · rw [hout u u0 u1 hu hc]
theorem Sm_Ex {b c0 c : BX2} {nc mo mv fi : Int} {w : Int → Int} (hb : V2 b) (hW : CW b nc w mv) (hst : ∀ u, 0 ≤ u → u < 8 → pX2_starts c0 u = cif (chs w mv u) (-1) (pX2_starts b u)) (hS : Sm b nc mo w mv fi c) (hall : ∀ u, 0 ≤ u → u < pX2_traders b → Mv b c u → chs w mv u) : Ex b c0 w 0 mv c := by
  have hT := hb.s.tra
  obtain ⟨⟨d1, d2, d3, d4, d5⟩, s2, s3⟩ := hS
  refine ⟨d1, d2, fun u u0 u1 hu => ?_, fun i i0 i1 => ?_⟩
  · rw [hst u u0 u1]
    have hnc : ¬ chs w mv u := fun ⟨i, i0, i1, i2⟩ => hu i (by omega) i1 i2
    rw [cif_neg hnc]
    have hun : u ≠ nc := fun e => hu 0 (Int.le_refl _) hW.1.1.1 (by rw [hW.2.1]; exact e.symm)
    by_cases hb1 : pX2_starts b u = -1
    · rw [hb1]; exact (d4 u u0 u1 hun).2 hb1
    · refine Classical.byContradiction (fun hne => hnc (hall u u0 ?_ ⟨hb1, hne⟩))
      rcases hb.w.st u u0 u1 with h | h
      · exact absurd h hb1
      · exact h.1
  · by_cases hi : i = 0
    · rw [hi, hW.2.1, hW.2.2.1]; exact ⟨d3, d3⟩
    · have hm := s2 i (by omega) i1
      have hwi := hW.1.2.1 i i0 i1
      refine ⟨fun h => hm.1 ((d4 (w i) hwi.1 (by omega) (fun e => ?_)).1 h), hm.2⟩
      rw [e] at hm; exact hm.1 hW.2.2.1
