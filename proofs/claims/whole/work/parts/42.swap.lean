/-! swap -/
def CanBe (b : BX2) (st : Int → Int) : Prop := ∃ c, V2 c ∧ Same c b ∧ ∀ t, 0 ≤ t → t < 8 → pX2_starts c t = st t
def Fr6 (r r' : BX6) : Prop := pX6_a r' = pX6_a r ∧ pX6_kept r' = pX6_kept r ∧ pX6_keptMany r' = pX6_keptMany r ∧ pX6_buffer r' = pX6_buffer r ∧ pX6_buffered r' = pX6_buffered r ∧ pX6_errorAt r' = pX6_errorAt r ∧ pX6_thrown r' = pX6_thrown r
theorem Fr6.rfl' (r : BX6) : Fr6 r r := ⟨rfl, rfl, rfl, rfl, rfl, rfl, rfl⟩
theorem Fr6.trans {r s t : BX6} (h : Fr6 r s) (k : Fr6 s t) : Fr6 r t := by
  obtain ⟨a1, a2, a3, a4, a5, a6, a7⟩ := h
  obtain ⟨b1, b2, b3, b4, b5, b6, b7⟩ := k
  exact ⟨b1.trans a1, b2.trans a2, b3.trans a3, b4.trans a4, b5.trans a5, b6.trans a6, b7.trans a7⟩
theorem Fr6.stands (r : BX6) (v : Int → Int) : Fr6 r (sX6_stands r v) := ⟨eX6_a_stands _ _, eX6_kept_stands _ _, eX6_keptMany_stands _ _, eX6_buffer_stands _ _, eX6_buffered_stands _ _, eX6_errorAt_stands _ _, eX6_thrown_stands _ _⟩
theorem Fr6.tried (r : BX6) (v : Int → Int) : Fr6 r (sX6_tried r v) := ⟨eX6_a_tried _ _, eX6_kept_tried _ _, eX6_keptMany_tried _ _, eX6_buffer_tried _ _, eX6_buffered_tried _ _, eX6_errorAt_tried _ _, eX6_thrown_tried _ _⟩
def upTo (st : Int → Int) (x : Int) : Int → Int := fun t => if t < x then st t else -1
theorem s_X6_canSwap_56 (n : Nat) (hn : 100 ≤ n) {b : BX2} (hb : V2 b) {a : Int → Int} (R : Rl b a) {t1 t2 : Int} (p0 : 0 ≤ t1) (p1 : t1 < 8) (q0 : 0 ≤ t2) (q1 : t2 < 8) (st : Int → Int) (hst0 : ∀ t, st t = if t = t1 then pX2_starts b t2 else if t = t2 then pX2_starts b t1 else pX2_starts b t) (hst : ∀ t, 0 ≤ t → t < 8 → st t = -1 ∨ (t < pX2_traders b ∧ 0 ≤ st t ∧ st t < pX2_pitches b)) :
    ∀ (fu : Nat) (x : Int) (r : BX6), pX6_a r = a → 0 ≤ x → x ≤ 8 → 8 - x < fu → LayOf b (upTo st x) (pX6_stands r) → (∀ t, 0 ≤ t → t < x → pX6_tried r t = st t) → (∀ t, 0 ≤ t → t < x → st t = -1 ∨ (t < pX2_traders b ∧ mInRow b t (st t) ∧ mRent b t (st t) ≤ pX2_limits b t)) → ∃ r', g_X6_canSwap_56 n fu t1 t2 x r = some (zB (CanBe b st), r') ∧ Fr6 r r' := by
  have ht := hb.s.tra
  have hp := hb.s.pit
  intro fu
  induction fu with
  | zero => intro x r _ _ _ h0; omega
  | succ fu ih =>
    intro x r ha x0 x8 hf hl htr hin
    rw [g_X6_canSwap_56.eq_2]
    have R' : Rl b (pX6_a r) := by rw [ha]; exact R
    by_cases hx : 8 ≤ x
    · have hx8 : x = 8 := by omega
      subst hx8
      have hl8 : LayOf b st (pX6_stands r) := by
        refine lay_congr ht.2 (fun t t0 t1 => ?_) hl (fun t t0 t1 => ?_) (fun _ _ _ => rfl)
        · unfold upTo
          rw [if_pos (by omega)]
          rcases hin t t0 (by omega) with h | ⟨_, h, _⟩
          · exact .inl h
          · have := mInRow_lt h; right; omega
        · unfold upTo; rw [if_pos t1]
      have htrS : tSum b (pX6_tried r) 0 = tSum b st 0 := by
        unfold tSum
        apply zr_congr
        intro i i0 i1
        show (if pX6_tried r i = -1 then 0 else mFor b i (pX6_tried r i)) = (if st i = -1 then 0 else mFor b i (st i))
        rw [htr i i0 (by omega)]
      rw [if_pos hx, s_X6_isSound hn hb.s R' (lay_r ht.1 hl8) (fun t t0 t1 => by
        rw [htr t t0 (by omega)]
        rcases hin t t0 (by omega) with h | ⟨_, h, _⟩
        · exact .inl h
        · have := mInRow_lt h; right; omega), oB_some, oG_ok (zB_nb _), htrS]
      refine ⟨r, ?_, Fr6.rfl' r⟩
      have : zB (tSum b st 0 ≤ pX2_covers b ∧ NoClV b (pX6_stands r) 0) = zB (CanBe b st) := zB_congr
        ⟨fun h => ⟨mMk b st (pX6_stands r), V2_mk hb hl8 hin h.1 h.2, mMk_same _ _ _, fun t t0 t1 => mMk_st _ _ _ t0 t1⟩, fun ⟨c, c1, c2, c3⟩ => V2_to c1 c2 hb.s hl8 c3⟩
      rw [this]
    · rw [if_neg hx]
      have key : ∃ r', g_X6_canSwap_110 n (g_X6_canSwap_56 n fu) x (st x) t1 t2 x r = some (zB (CanBe b st), r') ∧ Fr6 r r' := by
        unfold g_X6_canSwap_110 g_X6_canSwap_152
        rw [qA_ok x0 (by omega) (by omega), oL_def, qA_ok x0 (by omega) (by omega), updZ_at]
        have hup : ∀ t, t < x → upTo st (x + 1) t = upTo st x t := fun t h => by unfold upTo; rw [if_pos (by omega), if_pos h]
        have htr1 : ∀ t, 0 ≤ t → t < x + 1 → updZ (pX6_tried r) x (st x) t = st t := by
          intro t t0 t1
          by_cases he : t = x
          · rw [he, updZ_at]
          · rw [updZ_ne he]; exact htr t t0 (by omega)
        by_cases e : st x = -1
        · rw [if_pos e, oR_ok (by omega) (by omega)]
          have hl1 : LayOf b (upTo st (x + 1)) (pX6_stands r) := by
            have : upTo st (x + 1) = upTo st x := by
              funext t
              unfold upTo
              by_cases h1 : t < x
              · rw [if_pos h1, if_pos (by omega)]
              · rw [if_neg h1]
                by_cases h2 : t < x + 1
                · rw [if_pos h2, show t = x by omega]; exact e
                · rw [if_neg h2]
            rw [this]; exact hl
          obtain ⟨r', g1, g2⟩ := ih (x + 1) (sX6_tried r (updZ (pX6_tried r) x (st x))) (by rw [eX6_a_tried]; exact ha) (by omega) (by omega) (by omega) (by rw [eX6_stands_tried]; exact hl1) (by rw [eX6_tried_tried]; exact htr1) (fun t t0 t1 => by
            by_cases he : t = x
            · rw [he]; exact .inl e
            · exact hin t t0 (by omega))
          exact ⟨r', g1, (Fr6.tried r _).trans g2⟩
        · have hsx := hst x x0 (by omega)
          have hxT : x < pX2_traders b := by omega
          have RT : Rl b (pX6_a (sX6_tried r (updZ (pX6_tried r) x (st x)))) := by rw [eX6_a_tried]; exact R'
          rw [if_neg e, qA_ok x0 (by omega) (by omega), s_X6_fits hn hb.s RT x0 hxT (by omega) (by omega), oB_some, eX6_stands_tried]
          by_cases hfit : mFits b (pX6_stands r) x (st x)
          · have hlt := mInRow_lt hfit.1
            rw [zB_pos hfit, if_neg (by omega), qA_ok x0 (by omega) (by omega), s_X6_lays hn hb.s RT x x0 hxT (by omega) (by omega), oB_some, oR_ok (by omega) (by omega), eX6_stands_tried]
            have hl1 : LayOf b (upTo st (x + 1)) (mLay (pX6_stands r) (st x) (st x + pX2_fronts b x) x) := by
              have k := lay_add hl x0 hxT (by unfold upTo; rw [if_neg (by omega)]) (by omega) hfit.2.2
              have : updZ (upTo st x) x (st x) = upTo st (x + 1) := by
                funext t
                rw [updZ_app]
                unfold upTo
                by_cases h1 : t = x
                · rw [if_pos h1, if_pos (by omega), h1]
                · rw [if_neg h1]
                  by_cases h2 : t < x
                  · rw [if_pos h2, if_pos (by omega)]
                  · rw [if_neg h2, if_neg (by omega)]
              rw [this] at k
              exact k
            obtain ⟨r', g1, g2⟩ := ih (x + 1) (sX6_stands (sX6_tried r (updZ (pX6_tried r) x (st x))) (mLay (pX6_stands r) (st x) (st x + pX2_fronts b x) x)) (by rw [eX6_a_stands, eX6_a_tried]; exact ha) (by omega) (by omega) (by omega) (by rw [eX6_stands_stands]; exact hl1) (by rw [eX6_tried_stands, eX6_tried_tried]; exact htr1) (fun t t0 t1 => by
              by_cases he : t = x
              · rw [he]; exact .inr ⟨hxT, hfit.1, hfit.2.1⟩
              · exact hin t t0 (by omega))
            exact ⟨r', g1, ((Fr6.tried r _).trans (Fr6.stands _ _)).trans g2⟩
          · rw [zB_neg hfit, if_pos rfl]
            refine ⟨sX6_tried r (updZ (pX6_tried r) x (st x)), ?_, Fr6.tried r _⟩
            rw [zB_neg]
            rintro ⟨c, c1, c2, c3⟩
            apply hfit
            have hsc : pX2_starts c x = st x := c3 x x0 (by omega)
            obtain ⟨k1, k2⟩ := c1.2.2.2.1 x x0 (by rw [c2.2.2.2.2.1]; exact hxT) (by rw [hsc]; exact e)
            rw [hsc, c2.inRow] at k1
            rw [hsc, c2.rent, c2.2.2.2.2.2.2.2.1] at k2
            refine ⟨k1, k2, fun p h1 h2 => ?_⟩
            have hlt := mInRow_lt k1
            cases hl.1 p (by omega) (by omega) with
            | inl h3 => exact h3
            | inr h3 =>
              have hu : pX6_stands r p < x := by
                have h4 := h3.2.2.1
                unfold upTo at h4
                by_cases h5 : pX6_stands r p < x
                · exact h5
                · rw [if_neg h5] at h4; exact absurd rfl h4
              have e4 : upTo st x (pX6_stands r p) = st (pX6_stands r p) := by unfold upTo; rw [if_pos hu]
              rw [e4] at h3
              have hsu : pX2_starts c (pX6_stands r p) = st (pX6_stands r p) := c3 _ h3.1 (by omega)
              have k3 := c1.w.lie _ p h3.1 (by rw [c2.2.2.2.2.1]; exact h3.2.1) (by rw [hsu]; exact h3.2.2.1) (by rw [hsu]; exact h3.2.2.2.1) (by rw [hsu, c2.2.2.2.2.2.2.1]; exact h3.2.2.2.2)
              have k4 := c1.w.lie x p x0 (by rw [c2.2.2.2.2.1]; exact hxT) (by rw [hsc]; exact e) (by rw [hsc]; exact h1) (by rw [hsc, c2.2.2.2.2.2.2.1]; exact h2)
              omega
      rw [ha]
      by_cases h1 : x = t1
      · rw [if_pos h1, qA_ok (by omega) (by omega) (by omega), R.st q0 q1]
        have : st x = pX2_starts b t2 := by rw [hst0, if_pos h1]
        rw [← this]; exact key
      · rw [if_neg h1]
        by_cases h2 : x = t2
        · rw [if_pos h2, qA_ok (by omega) (by omega) (by omega), R.st p0 p1]
          have : st x = pX2_starts b t1 := by rw [hst0, if_neg h1, if_pos h2]
          rw [← this]; exact key
        · rw [if_neg h2, qA_ok (by omega) (by omega) (by omega), R.st x0 (by omega)]
          have : st x = pX2_starts b x := by rw [hst0, if_neg h1, if_neg h2]
          rw [← this]; exact key
theorem s_X6_canSwap_35 (n : Nat) (t1 t2 : Int) (r : BX6) : ∀ (fu : Nat) (x : Int), 0 ≤ x → x ≤ 24 → 24 - x < fu → g_X6_canSwap_35 n fu t1 t2 x (sX6_stands r (mLay (pX6_stands r) 0 x (-1))) = g_X6_canSwap_56 n n t1 t2 0 (sX6_stands r (mLay (pX6_stands r) 0 24 (-1))) := by
  intro fu
  induction fu with
  | zero => intro x _ _ h0; omega
  | succ fu ih =>
    intro x x0 x1 hf
    rw [g_X6_canSwap_35.eq_2, eX6_stands_stands]
    by_cases h : 24 ≤ x
    · rw [if_pos h, show x = 24 by omega]
    · rw [if_neg h, qA_ok (by omega) (by omega) (by omega), oL_def, oR_ok (by omega) (by omega), uX6_stands]
      rw [← ih (x + 1) (by omega) (by omega) (by omega)]
      refine congrArg (fun z => g_X6_canSwap_35 n fu t1 t2 (x + 1) (sX6_stands r z)) ?_
      funext i
      rw [updZ_app]
      unfold mLay
      by_cases h1 : i = x
      · rw [if_pos h1, if_pos (by omega)]
      · rw [if_neg h1]
        by_cases h2 : 0 ≤ i ∧ i < x
        · rw [if_pos h2, if_pos (by omega)]
        · rw [if_neg h2, if_neg (by omega)]
def swp (st : Int → Int) (t1 t2 : Int) : Int → Int := fun t => if t = t1 then st t2 else if t = t2 then st t1 else st t
theorem s_X6_canSwap {n : Nat} (hn : 100 ≤ n) {b : BX2} {r : BX6} (hb : V2 b) (R : Rl b (pX6_a r)) {t1 t2 : Int} (p0 : 0 ≤ t1) (p1 : t1 < pX2_traders b) (q0 : 0 ≤ t2) (q1 : t2 < pX2_traders b) : ∃ r', g_X6_canSwap n r t1 t2 = some (zB ((t1 ≠ t2 ∧ pX2_starts b t1 ≠ -1 ∧ pX2_starts b t2 ≠ -1) ∧ CanBe b (swp (pX2_starts b) t1 t2)), r') ∧ Fr6 r r' := by
  have ht := hb.s.tra
  have hp := hb.s.pit
  unfold g_X6_canSwap
  by_cases h1 : t1 = t2
  · rw [if_pos h1, zB_neg (fun h => h.1.1 h1)]; exact ⟨r, rfl, Fr6.rfl' r⟩
  · rw [if_neg h1, qA_ok (by omega) (by omega) (by omega), R.st p0 (by omega)]
    by_cases h2 : pX2_starts b t1 = -1
    · rw [if_pos h2, zB_neg (fun h => h.1.2.1 h2)]; exact ⟨r, rfl, Fr6.rfl' r⟩
    · rw [if_neg h2, qA_ok (by omega) (by omega) (by omega), R.st q0 (by omega)]
      by_cases h3 : pX2_starts b t2 = -1
      · rw [if_pos h3, zB_neg (fun h => h.1.2.2 h3)]; exact ⟨r, rfl, Fr6.rfl' r⟩
      · rw [if_neg h3]
        have h35 := s_X6_canSwap_35 n t1 t2 r n 0 (by omega) (by omega) (by omega)
        rw [mLay_0 (by omega), iX6_stands] at h35
        rw [h35]
        have w1 := hb.w.st t1 p0 (by omega)
        have w2 := hb.w.st t2 q0 (by omega)
        have f1 := hb.s.fr p0 p1
        have f2 := hb.s.fr q0 q1
        obtain ⟨r', g1, g2⟩ := s_X6_canSwap_56 n hn hb R p0 (by omega) q0 (by omega) (swp (pX2_starts b) t1 t2) (fun t => rfl) (fun t t0 t1' => by
            unfold swp
            by_cases a1 : t = t1
            · rw [if_pos a1]; right; omega
            · rw [if_neg a1]
              by_cases a2 : t = t2
              · rw [if_pos a2]; right; omega
              · rw [if_neg a2]
                rcases hb.w.st t t0 t1' with k | k
                · exact .inl k
                · have := hb.s.fr t0 k.1; right; omega)
          n 0 (sX6_stands r (mLay (pX6_stands r) 0 24 (-1))) (eX6_a_stands _ _) (by omega) (by omega) (by omega)
          (by
            rw [eX6_stands_stands]
            refine lay_none b (fun t t0 _ => ?_) (fun p p0 p1 => ?_)
            · unfold upTo; rw [if_neg (by omega)]
            · unfold mLay; rw [if_pos ⟨p0, p1⟩])
          (fun t t0 t1 => by omega) (fun t t0 t1 => by omega)
        refine ⟨r', ?_, (Fr6.stands r _).trans g2⟩
        rw [g1]
        have : zB (CanBe b (swp (pX2_starts b) t1 t2)) = zB ((t1 ≠ t2 ∧ pX2_starts b t1 ≠ -1 ∧ pX2_starts b t2 ≠ -1) ∧ CanBe b (swp (pX2_starts b) t1 t2)) := zB_congr ⟨fun h => ⟨⟨h1, h2, h3⟩, h⟩, fun h => h.2⟩
        rw [this]
/-! the class's exchange -/
theorem swap_class {b : BX2} (hb : V2 b) {t1 t2 : Int} (p0 : 0 ≤ t1) (p1 : t1 < pX2_traders b) (q0 : 0 ≤ t2) (q1 : t2 < pX2_traders b) (h1 : t1 ≠ t2) (h2 : pX2_starts b t1 ≠ -1) (h3 : pX2_starts b t2 ≠ -1) :
    CanBe b (swp (pX2_starts b) t1 t2) ↔ (mHind (mUnseat (mUnseat b t1) t2) t1 (pX2_starts b t2) = 0 ∧ mHind (mSeat (mUnseat (mUnseat b t1) t2) t1 (pX2_starts b t2)) t2 (pX2_starts b t1) = 0) := by
  have ht := hb.s.tra
  have hV1 := V2_unseat hb p0 (by omega)
  have hV2 := V2_unseat hV1 q0 (by omega)
  have hs1 := mUnseat_same b t1
  have hs2 := (mUnseat_same (mUnseat b t1) t2).trans hs1
  have hst2 : pX2_starts (mUnseat (mUnseat b t1) t2) = updZ (updZ (pX2_starts b) t1 (-1)) t2 (-1) := by rw [mUnseat_st (.inr trivial), mUnseat_st (.inr trivial)]
  have hT : pX2_traders (mUnseat (mUnseat b t1) t2) = pX2_traders b := hs2.2.2.2.2.1
  have e1 : pX2_starts (mUnseat (mUnseat b t1) t2) t1 = -1 := by rw [hst2, updZ_ne h1, updZ_at]
  have e2 : pX2_starts (mUnseat (mUnseat b t1) t2) t2 = -1 := by rw [hst2, updZ_at]
  have hst3 : ∀ s, pX2_starts (mSeat (mUnseat (mUnseat b t1) t2) t1 s) = updZ (pX2_starts (mUnseat (mUnseat b t1) t2)) t1 s := fun s => rfl
  have hswp : ∀ u, swp (pX2_starts b) t1 t2 u = updZ (updZ (updZ (updZ (pX2_starts b) t1 (-1)) t2 (-1)) t1 (pX2_starts b t2)) t2 (pX2_starts b t1) u := by
    intro u
    unfold swp
    rw [updZ_app, updZ_app, updZ_app, updZ_app]
    by_cases a1 : u = t1
    · rw [if_pos a1, if_neg (by omega), if_pos a1]
    · rw [if_neg a1]
      by_cases a2 : u = t2
      · rw [if_pos a2, if_pos a2]
      · rw [if_neg a2, if_neg a2, if_neg a1, if_neg a2, if_neg a1]
  constructor
  · rintro ⟨c, c1, c2, c3⟩
    have k1 : mHind (mUnseat (mUnseat b t1) t2) t1 (pX2_starts b t2) = 0 := by
      refine conv_hind hV2 (V2_unseat c1 q0 (by omega)) ((mUnseat_same c t2).trans (c2.trans hs2.symm)) p0 (by rw [hT]; exact p1) e1 h3 ?_
      intro u u0 u1
      rw [mUnseat_st (.inr trivial), updZ_app, hst2, updZ_app, updZ_app, updZ_app, c3 u u0 u1, hswp, updZ_app, updZ_app, updZ_app, updZ_app]
      by_cases a1 : u = t1
      · rw [if_pos a1, if_neg (by omega), if_neg (by omega)]
      · rw [if_neg a1]
        by_cases a2 : u = t2
        · rw [if_pos a2, if_pos a2]
        · rw [if_neg a2, if_neg a2, if_neg a1, if_neg a2]
    refine ⟨k1, ?_⟩
    have hV3 := V2_seat hV2 p0 (by rw [hT]; exact p1) k1
    have hs3 := (mSeat_same (mUnseat (mUnseat b t1) t2) t1 (pX2_starts b t2)).trans hs2
    refine conv_hind hV3 c1 (c2.trans hs3.symm) q0 (by rw [hs3.2.2.2.2.1]; exact q1) ?_ h2 ?_
    · rw [hst3, updZ_ne (fun h => h1 h.symm)]; exact e2
    · intro u u0 u1
      rw [c3 u u0 u1, hswp, hst3, hst2]
  · rintro ⟨k1, k2⟩
    have hV3 := V2_seat hV2 p0 (by rw [hT]; exact p1) k1
    have hs3 := (mSeat_same (mUnseat (mUnseat b t1) t2) t1 (pX2_starts b t2)).trans hs2
    have hV4 := V2_seat hV3 q0 (by rw [hs3.2.2.2.2.1]; exact q1) k2
    refine ⟨_, hV4, (mSeat_same _ _ _).trans hs3, fun u u0 u1 => ?_⟩
    rw [hswp]
    show updZ (pX2_starts (mSeat (mUnseat (mUnseat b t1) t2) t1 (pX2_starts b t2))) t2 (pX2_starts b t1) u = _
    rw [hst3, hst2]
theorem op_swap {n : Nat} (hn : 1000 ≤ n) {x : BX5} {m : BX6} (I : Inv x m) (t1 t2 : Int) : ∃ cd v x' w m', g_X5_swap n x t1 t2 = some (cd, v, x') ∧ g_X6_swap n m t1 t2 = some (w, m') ∧ ok2 1 3 cd v w (pX6_thrown m') ∧ Inv x' m' := by
  have ht := I.s.tra
  have hp := I.s.pit
  unfold g_X5_swap g_X5_swap_37 g_X6_swap g_X6_swap_17
  rw [g_reqT, oB_some, g_reqT, oB_some, s_X6_isTrader I.s I.r, oB_some, s_X6_isTrader I.s I.r, oB_some]
  by_cases h1 : 0 ≤ t1 ∧ t1 < pX2_traders (pX5_market x)
  · rw [if_pos h1, if_pos rfl, zB_pos h1]
    by_cases h2 : 0 ≤ t2 ∧ t2 < pX2_traders (pX5_market x)
    · obtain ⟨r', c1, c2⟩ := s_X6_canSwap (n := n) (by omega) I.v I.r h1.1 h1.2 h2.1 h2.2
      have IR : Inv x r' := Inv_m I c2.1 c2.2.1 c2.2.2.1 c2.2.2.2.1 c2.2.2.2.2.1 c2.2.2.2.2.2.1
      rw [if_pos h2, if_pos rfl, zB_pos h2, s_X2_isSeated _ h1.1 (by omega), oB_some, s_X2_isSeated _ h2.1 (by omega), oB_some, c1, oB2_some]
      -- both refuse
      have no : ¬ ((t1 ≠ t2 ∧ pX2_starts (pX5_market x) t1 ≠ -1 ∧ pX2_starts (pX5_market x) t2 ≠ -1) ∧ CanBe (pX5_market x) (swp (pX2_starts (pX5_market x)) t1 t2)) → ∀ y, Inv y r' → ∃ cd v x' w m', some ((3 : Nat), (0 : Int), y) = some (cd, v, x') ∧ (if (1 : Int) = 0 then g_X6_swap_35 n 1 t1 t2 m else if (1 : Int) = 0 then g_X6_swap_35 n 1 t1 t2 m else if zB ((t1 ≠ t2 ∧ pX2_starts (pX5_market x) t1 ≠ -1 ∧ pX2_starts (pX5_market x) t2 ≠ -1) ∧ CanBe (pX5_market x) (swp (pX2_starts (pX5_market x)) t1 t2)) = 0 then g_X6_swap_35 n 2 t1 t2 r' else g_X6_swap_35 n 0 t1 t2 r') = some (w, m') ∧ ok2 1 3 cd v w (pX6_thrown m') ∧ Inv x' m' := by
        intro h y hy
        rw [if_neg (by omega), if_neg (by omega), zB_neg h, if_pos rfl]
        unfold g_X6_swap_35
        rw [if_neg (by omega)]
        exact ⟨_, _, _, _, _, rfl, rfl, .inr (.inr ⟨rfl, eX6_thrown_thrown _ _⟩), Inv_t hy 2⟩
      by_cases h3 : t1 = t2
      · rw [if_pos h3]; exact no (fun h => h.1.1 h3) x IR
      · rw [if_neg h3]
        by_cases h4 : pX2_starts (pX5_market x) t1 = -1
        · rw [zB_neg (fun h => h h4), if_pos rfl]; exact no (fun h => h.1.2.1 h4) x IR
        · rw [zB_pos (P := pX2_starts (pX5_market x) t1 ≠ -1) h4, if_neg (c := (1 : Int) = 0) (by omega)]
          by_cases h5 : pX2_starts (pX5_market x) t2 = -1
          · rw [zB_neg (P := pX2_starts (pX5_market x) t2 ≠ -1) (fun h => h h5), if_pos rfl]; exact no (fun h => h.1.2.2 h5) x IR
          · rw [zB_pos (P := pX2_starts (pX5_market x) t2 ≠ -1) h5, if_neg (c := (1 : Int) = 0) (by omega)]
            have hsw := swap_class I.v h1.1 h1.2 h2.1 h2.2 h3 h4 h5
            have w1 := I.w.st t1 h1.1 (by omega)
            have w2 := I.w.st t2 h2.1 (by omega)
            have f1 := I.s.fr h1.1 h1.2
            have f2 := I.s.fr h2.1 h2.2
            have hV1 := V2_unseat I.v h1.1 (by omega : t1 < 8)
            have hV2 := V2_unseat hV1 h2.1 (by omega : t2 < 8)
            have hs2 := (mUnseat_same (mUnseat (pX5_market x) t1) t2).trans (mUnseat_same (pX5_market x) t1)
            have hT := hs2.2.2.2.2.1
            unfold g_X5_draftExchange
            rw [s_X2_copyFrom (by omega) I.2.2.1.s I.s, oB_some, s_X2_unseat (by omega) I.w h1.1 (by omega), oB_some, s_X2_unseat (by omega) hV1.w h2.1 (by omega), oB_some, qA_ok h2.1 (by omega) (by omega), s_X2_seatIfPossible (by omega) hV2.w h1.1 (by rw [hT]; exact h1.2) (by omega) (by omega)]
            have ID : ∀ d, W2 d → Inv (sX5_draft x d) r' := fun d hd => Inv_x IR (eX5_market_draft _ _) (eX5_history_draft _ _) (by rw [eX5_draft_draft]; exact hd) (eX5_text_draft _ _) (eX5_textLength_draft _ _) (eX5_errorAt_draft _ _)
              (PX_same I.2.2.2.2.2.1 (eX5_planner_draft _ _) (eX5_trialPlanner_draft _ _) (eX5_planned_draft _ _) (by rw [eX5_market_draft]; exact Same.rfl' _)) (IX_same I.2.2.2.2.2.2 (eX5_insertion_draft _ _))
            by_cases k1 : mHind (mUnseat (mUnseat (pX5_market x) t1) t2) t1 (pX2_starts (pX5_market x) t2) = 0
            · have hV3 := V2_seat hV2 h1.1 (by rw [hT]; exact h1.2) k1
              have hs3 := (mSeat_same (mUnseat (mUnseat (pX5_market x) t1) t2) t1 (pX2_starts (pX5_market x) t2)).trans hs2
              rw [if_pos k1, oB2_some, if_neg (c := (1 : Int) = 0) (by omega), qA_ok h1.1 (by omega) (by omega), s_X2_seatIfPossible (by omega) hV3.w h2.1 (by rw [hs3.2.2.2.2.1]; exact h2.2) (by omega) (by omega)]
              by_cases k2 : mHind (mSeat (mUnseat (mUnseat (pX5_market x) t1) t2) t1 (pX2_starts (pX5_market x) t2)) t2 (pX2_starts (pX5_market x) t1) = 0
              · have hV4 := V2_seat hV3 h2.1 (by rw [hs3.2.2.2.2.1]; exact h2.2) k2
                have hs4 := (mSeat_same (mSeat (mUnseat (mUnseat (pX5_market x) t1) t2) t1 (pX2_starts (pX5_market x) t2)) t2 (pX2_starts (pX5_market x) t1)).trans hs3
                have hCan := hsw.2 ⟨k1, k2⟩
                have hk : g_X6_keeps n (sX6_thrown r' 0) = some (kKeep (sX6_thrown r' 0)) := s_X6_keeps hn _ (by rw [eX6_keptMany_thrown]; exact IR.many.1) (by rw [eX6_keptMany_thrown]; exact IR.many.2)
                rw [if_pos k2, oB2_some, if_neg (c := (1 : Int) = 0) (by omega), oB2_some, if_neg (c := (1 : Int) = 0) (by omega), eX5_market_draft, eX5_history_draft, eX5_draft_draft, s_X0_remember (by omega) I.h.1 I.s, oB_some, s_X2_copyFrom (by omega) I.s hV4.s, oB_some, s_X2_totalRent (by omega) hV4.w, oB_some]
                rw [if_neg (c := (1 : Int) = 0) (by omega), if_neg (c := (1 : Int) = 0) (by omega), zB_pos ⟨⟨h3, h4, h5⟩, hCan⟩, if_neg (c := (1 : Int) = 0) (by omega)]
                unfold g_X6_swap_35
                rw [if_pos (by omega), hk, oB_some, qA_ok (by omega) (by omega) (by omega), oL_def, qA_ok (by omega) (by omega) (by omega), qA_ok (by omega) (by omega) (by omega), oL_def, qA_ok (by omega) (by omega) (by omega), oL_def, (kKeep_t r' 0).2.2.1, IR.r.st h1.1 (by omega), IR.r.st h2.1 (by omega)]
                have hR : Rl (mSeat (mSeat (mUnseat (mUnseat (pX5_market x) t1) t2) t1 (pX2_starts (pX5_market x) t2)) t2 (pX2_starts (pX5_market x) t1)) (updZ (updZ (pX6_a r') (107 + t1) (pX2_starts (pX5_market x) t2)) (107 + t2) (pX2_starts (pX5_market x) t1)) := by
                  refine Rl_st IR.r I.s hs4 ?_ (fun i hi => by rw [updZ_ne (by omega), updZ_ne (by omega)])
                  intro u u0 u1
                  have e : pX2_starts (mSeat (mSeat (mUnseat (mUnseat (pX5_market x) t1) t2) t1 (pX2_starts (pX5_market x) t2)) t2 (pX2_starts (pX5_market x) t1)) u = updZ (updZ (pX2_starts (mUnseat (mUnseat (pX5_market x) t1) t2)) t1 (pX2_starts (pX5_market x) t2)) t2 (pX2_starts (pX5_market x) t1) u := rfl
                  rw [e, mUnseat_st (.inr trivial), mUnseat_st (.inr trivial)]
                  by_cases a2 : u = t2
                  · rw [a2, updZ_at, updZ_at]
                  · rw [updZ_ne (by omega), updZ_ne a2]
                    by_cases a1 : u = t1
                    · rw [a1, updZ_at, updZ_at]
                    · rw [updZ_ne (by omega), updZ_ne a1, updZ_ne a2, updZ_ne a1]; exact IR.r.st u0 u1
                rw [s_X6_incomeNow (by omega) hV4.w (by rw [eX6_a_a]; exact hR), oB_some]
                refine ⟨_, _, _, _, _, rfl, rfl, .inl ⟨rfl, th_a _ _, rfl⟩, ?_⟩
                have hfin := Inv_mv (ID _ hV4.w) (b' := mSeat (mSeat (mUnseat (mUnseat (pX5_market x) t1) t2) t1 (pX2_starts (pX5_market x) t2)) t2 (pX2_starts (pX5_market x) t1)) ⟨hV4, hR⟩ (by rw [eX5_market_draft]; exact hs4)
                rw [eX5_market_draft, eX5_history_draft] at hfin
                exact hfin
              · rw [if_neg k2, oB2_some, if_pos rfl, oB2_some, if_pos rfl]
                exact no (fun h => k2 (hsw.1 h.2).2) _ (ID _ hV3.w)
            · rw [if_neg k1, oB2_some, if_pos rfl, oB2_some, if_pos rfl]
              exact no (fun h => k1 (hsw.1 h.2).1) _ (ID _ hV2.w)
    · unfold g_X6_swap_35
      rw [if_neg h2, if_neg (by omega), if_neg (by omega), zB_neg h2, if_pos rfl, if_neg (by omega)]
      exact ⟨_, _, _, _, _, rfl, rfl, .inr (.inl ⟨rfl, eX6_thrown_thrown _ _⟩), Inv_t I 1⟩
  · unfold g_X6_swap_35
    rw [if_neg h1, if_neg (by omega), zB_neg h1, if_pos rfl, if_neg (by omega)]
    exact ⟨_, _, _, _, _, rfl, rfl, .inr (.inl ⟨rfl, eX6_thrown_thrown _ _⟩), Inv_t I 1⟩
