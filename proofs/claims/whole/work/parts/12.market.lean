/-! What the market's methods say of a block. -/
def mRent (b : BX2) (t s : Int) : Int := zr (pX2_rents b) s (min (s + pX2_fronts b t) (pX2_pitches b))
def mOpen (b : BX2) (t s : Int) : Int := zr (fun p => if pX2_roofs b p = 0 then 1 else 0) s (min (s + pX2_fronts b t) (pX2_pitches b))
def mFor (b : BX2) (t s : Int) : Int := if pX2_needy b t = 0 then 0 else mOpen b t s
def mShare (b : BX2) (p q : Int) : Prop := 0 ≤ p ∧ p ≤ q ∧ q < pX2_pitches b ∧ pX2_rows b p = pX2_rows b q
def mInRow (b : BX2) (t s : Int) : Prop := mShare b s (s + pX2_fronts b t - 1)
def mFree (b : BX2) (t s : Int) : Prop := ∀ p, s ≤ p → p < min (s + pX2_fronts b t) (pX2_pitches b) → pX2_standing b p = -1
def zbit (c k : Int) : Prop := ¬ zAnd (zShr c k) 1 = 0
def mClash (b : BX2) (t o : Int) : Prop := o ≠ -1 ∧ zbit (pX2_clashes b (pX2_trades b t)) (pX2_trades b o)
def mBeside (b : BX2) (t s : Int) : Prop := (mShare b (s - 1) s ∧ mClash b t (pX2_standing b (s - 1))) ∨ (mShare b (s + pX2_fronts b t - 1) (s + pX2_fronts b t) ∧ mClash b t (pX2_standing b (s + pX2_fronts b t)))
noncomputable def mHind (b : BX2) (t s : Int) : Int :=
  if pX2_starts b t = -1 then
    cif (mInRow b t s)
      (cif (mFree b t s)
        (if mRent b t s ≤ pX2_limits b t then
          (if pX2_coversBusy b + mFor b t s ≤ pX2_covers b then cif (mBeside b t s) 6 0 else 5)
        else 4) 3) 2
  else 1
def mLay (v : Int → Int) (s e w : Int) : Int → Int := fun p => if s ≤ p ∧ p < e then w else v p
def mUnseat (b : BX2) (t : Int) : BX2 :=
  if pX2_starts b t = -1 then b else
  sX2_coversBusy (sX2_starts (sX2_standing b (mLay (pX2_standing b) (pX2_starts b t) (min (pX2_starts b t + pX2_fronts b t) (pX2_pitches b)) (-1))) (updZ (pX2_starts b) t (-1))) (pX2_coversBusy b - mFor b t (pX2_starts b t))
def mSeat (b : BX2) (t s : Int) : BX2 :=
  sX2_coversBusy (sX2_starts (sX2_standing b (mLay (pX2_standing b) s (min (s + pX2_fronts b t) (pX2_pitches b)) t)) (updZ (pX2_starts b) t s)) (pX2_coversBusy b + mFor b t s)
/-! the placement, told twice alike -/
def Q2 (b : BX2) : Prop :=
  (∀ t, 0 ≤ t → t < 8 → pX2_starts b t = -1 ∨ (t < pX2_traders b ∧ 0 ≤ pX2_starts b t ∧ pX2_starts b t + pX2_fronts b t ≤ pX2_pitches b)) ∧
  (∀ p, 0 ≤ p → p < 24 → pX2_standing b p = -1 ∨ (0 ≤ pX2_standing b p ∧ pX2_standing b p < pX2_traders b ∧ pX2_starts b (pX2_standing b p) ≠ -1 ∧ pX2_starts b (pX2_standing b p) ≤ p ∧ p < pX2_starts b (pX2_standing b p) + pX2_fronts b (pX2_standing b p))) ∧
  (∀ t p, 0 ≤ t → t < pX2_traders b → pX2_starts b t ≠ -1 → pX2_starts b t ≤ p → p < pX2_starts b t + pX2_fronts b t → pX2_standing b p = t) ∧
  pX2_coversBusy b = zr (fun t => if pX2_starts b t = -1 then 0 else mFor b t (pX2_starts b t)) 0 (pX2_traders b)
def W2 (b : BX2) : Prop := S2 b ∧ Q2 b
theorem W2.s {b : BX2} (h : W2 b) : S2 b := h.1
theorem W2.st {b : BX2} (h : W2 b) : ∀ t, 0 ≤ t → t < 8 → pX2_starts b t = -1 ∨ (t < pX2_traders b ∧ 0 ≤ pX2_starts b t ∧ pX2_starts b t + pX2_fronts b t ≤ pX2_pitches b) := h.2.1
theorem W2.on {b : BX2} (h : W2 b) : ∀ p, 0 ≤ p → p < 24 → pX2_standing b p = -1 ∨ (0 ≤ pX2_standing b p ∧ pX2_standing b p < pX2_traders b ∧ pX2_starts b (pX2_standing b p) ≠ -1 ∧ pX2_starts b (pX2_standing b p) ≤ p ∧ p < pX2_starts b (pX2_standing b p) + pX2_fronts b (pX2_standing b p)) := h.2.2.1
theorem W2.lie {b : BX2} (h : W2 b) : ∀ t p, 0 ≤ t → t < pX2_traders b → pX2_starts b t ≠ -1 → pX2_starts b t ≤ p → p < pX2_starts b t + pX2_fronts b t → pX2_standing b p = t := h.2.2.2.1
theorem W2.busy {b : BX2} (h : W2 b) : pX2_coversBusy b = zr (fun t => if pX2_starts b t = -1 then 0 else mFor b t (pX2_starts b t)) 0 (pX2_traders b) := h.2.2.2.2
theorem mOpen_b (b : BX2) (t s : Int) (h : 0 ≤ pX2_fronts b t) : 0 ≤ mOpen b t s ∧ mOpen b t s ≤ pX2_fronts b t := by
  unfold mOpen
  by_cases hs : s ≤ min (s + pX2_fronts b t) (pX2_pitches b)
  · have := zr_bound (f := fun p => if pX2_roofs b p = 0 then 1 else 0) (l := 0) (u := 1) hs (fun i _ _ => by by_cases h : pX2_roofs b i = 0 <;> simp [h])
    omega
  · rw [zr_nil (by omega)]; omega
theorem mFor_b (b : BX2) (t s : Int) (h : 0 ≤ pX2_fronts b t) : 0 ≤ mFor b t s ∧ mFor b t s ≤ pX2_fronts b t := by
  have := mOpen_b b t s h
  unfold mFor
  split <;> omega
theorem mRent_b {b : BX2} (hb : S2 b) {t s : Int} (ht : 0 ≤ t) (ht2 : t < pX2_traders b) (hs : 0 ≤ s) : 0 ≤ mRent b t s ∧ mRent b t s ≤ 2997 := by
  have hf := hb.fr ht ht2
  unfold mRent
  by_cases hs : s ≤ min (s + pX2_fronts b t) (pX2_pitches b)
  · have := zr_bound (f := pX2_rents b) (l := 0) (u := 999) hs (fun i h1 h2 => by have := hb.rent i (by omega) (by omega); omega)
    omega
  · rw [zr_nil (by omega)]; omega
theorem mRent_pos {b : BX2} (hb : S2 b) {t s : Int} (ht : 0 ≤ t) (ht2 : t < pX2_traders b) (hs : 0 ≤ s) (hs2 : s < pX2_pitches b) : 1 ≤ mRent b t s := by
  have hf := hb.fr ht ht2
  unfold mRent
  rw [zr_cons (by omega)]
  have h1 := hb.rent s hs hs2
  have h2 : 0 ≤ zr (pX2_rents b) (s + 1) (min (s + pX2_fronts b t) (pX2_pitches b)) := zr_nonneg (fun i h3 h4 => by have := hb.rent i (by omega) (by omega); omega)
  omega
theorem busy_b {b : BX2} (h : W2 b) : 0 ≤ pX2_coversBusy b ∧ pX2_coversBusy b ≤ 24 := by
  rw [h.busy]
  have ht := h.s.tra
  have := zr_bound (f := fun t => if pX2_starts b t = -1 then 0 else mFor b t (pX2_starts b t)) (l := 0) (u := 3) ht.1 (fun i h1 h2 => by
    have h3 := h.s.fr h1 h2
    have h4 := mFor_b b i (pX2_starts b i) (by omega)
    by_cases h5 : pX2_starts b i = -1
    · simp [h5]
    · simp only [h5, if_false]; omega)
  omega
/-! the methods -/
theorem s_X2_isSeated (b : BX2) {t : Int} (h0 : 0 ≤ t) (h1 : t < 8) : g_X2_isSeated b t = some (zB (pX2_starts b t ≠ -1)) := by
  unfold g_X2_isSeated
  rw [qA_ok h0 h1 (by omega), ite_zB']
theorem mLay_1 {v : Int → Int} {s e w : Int} (h : s < e) : mLay (updZ v s w) (s + 1) e w = mLay v s e w := by
  funext p
  unfold mLay updZ
  by_cases h1 : s + 1 ≤ p ∧ p < e
  · rw [if_pos h1, if_pos (by omega)]
  · rw [if_neg h1]
    by_cases h2 : p = s
    · rw [if_pos h2, if_pos (by omega)]
    · rw [if_neg h2, if_neg (by omega)]
theorem mLay_0 {v : Int → Int} {s e w : Int} (h : e ≤ s) : mLay v s e w = v := by
  funext p
  unfold mLay
  rw [if_neg (by omega)]
theorem s_X2_settle_8 (n : Nat) (w e : Int) : ∀ (fu : Nat) (x : Int) (b : BX2), pX2_pitches b ≤ 24 → 0 ≤ x → 0 < fu → min e (pX2_pitches b) - x < fu → g_X2_settle_8 n fu w e x b = some (sX2_standing b (mLay (pX2_standing b) x (min e (pX2_pitches b)) w)) := by
  intro fu
  induction fu with
  | zero => intro x b hb h0 h1; omega
  | succ fu ih =>
    intro x b hb h0 _ h1
    rw [g_X2_settle_8.eq_2]
    by_cases hx : e ≤ x
    · rw [if_pos hx, mLay_0 (by omega)]; rfl
    · rw [if_neg hx]
      by_cases hy : pX2_pitches b ≤ x
      · rw [if_pos hy, mLay_0 (by omega)]; rfl
      · have hz : ∀ v, pX2_pitches (sX2_standing b v) = pX2_pitches b := fun v => rfl
        rw [if_neg hy, qA_ok h0 (by omega) (by omega), oL_def, oR_ok (by omega) (by omega), ih _ _ (by rw [hz]; omega) (by omega) (by omega) (by rw [hz]; omega), hz]
        rw [← mLay_1 (by omega : x < min e (pX2_pitches b))]; rfl
theorem s_X2_settle {n : Nat} (hn : 100 ≤ n) {b : BX2} (hb : S2 b) {s f : Int} (w : Int) (h0 : 0 ≤ s) (h1 : s ≤ 100) (h2 : 0 ≤ f) (h3 : f ≤ 100) : g_X2_settle n b s f w = some (sX2_standing b (mLay (pX2_standing b) s (min (s + f) (pX2_pitches b)) w)) := by
  have := hb.pit
  unfold g_X2_settle
  rw [oR_ok (by omega) (by omega), oL_def]
  exact s_X2_settle_8 n w _ n s b (by omega) h0 (by omega) (by omega)
theorem s_X2_openPitches_15 (n : Nat) (b : BX2) (e : Int) (he : pX2_pitches b ≤ 24) : ∀ (fu : Nat) (x c : Int), 0 ≤ x → 0 < fu → min e (pX2_pitches b) - x < fu → 0 ≤ c → c ≤ 100 + x → g_X2_openPitches_15 n fu c e x b = some (c + zr (fun p => if pX2_roofs b p = 0 then 1 else 0) x (min e (pX2_pitches b))) := by
  intro fu
  induction fu with
  | zero => intro x c h0 h1; omega
  | succ fu ih =>
    intro x c h0 _ h1 h2 h3
    rw [g_X2_openPitches_15.eq_2]
    by_cases hx : e ≤ x
    · rw [if_pos hx, zr_nil (by omega), Int.add_zero]
    · rw [if_neg hx]
      by_cases hy : pX2_pitches b ≤ x
      · rw [if_pos hy, zr_nil (by omega), Int.add_zero]
      · rw [if_neg hy, qA_ok h0 (by omega) (by omega), zr_cons (by omega)]
        unfold g_X2_openPitches_44
        by_cases hr : pX2_roofs b x = 0
        · rw [if_pos hr, oR_ok (by omega) (by omega), oR_ok (by omega) (by omega), ih _ _ (by omega) (by omega) (by omega) (by omega) (by omega)]
          simp only [hr, if_true]; rw [Int.add_assoc]
        · rw [if_neg hr, oR_ok (by omega) (by omega), ih _ _ (by omega) (by omega) (by omega) (by omega) (by omega)]
          simp only [hr, if_false]; rw [Int.zero_add]
theorem s_X2_openPitches {n : Nat} (hn : 100 ≤ n) {b : BX2} (hb : S2 b) {t s : Int} (t0 : 0 ≤ t) (t1 : t < pX2_traders b) (h0 : 0 ≤ s) (h1 : s ≤ 100) : g_X2_openPitches n b t s = some (mOpen b t s) := by
  have := hb.pit
  have := hb.tra
  have := hb.fr t0 t1
  unfold g_X2_openPitches
  rw [qA_ok t0 (by omega) (by omega), oR_ok (by omega) (by omega), oL_def, s_X2_openPitches_15 n b _ (by omega) n s 0 h0 (by omega) (by omega) (by omega) (by omega), Int.zero_add]
  rfl
theorem s_X2_coversFor {n : Nat} (hn : 100 ≤ n) {b : BX2} (hb : S2 b) {t s : Int} (t0 : 0 ≤ t) (t1 : t < pX2_traders b) (h0 : 0 ≤ s) (h1 : s ≤ 100) : g_X2_coversFor n b t s = some (mFor b t s) := by
  have := hb.tra
  unfold g_X2_coversFor mFor
  rw [qA_ok t0 (by omega) (by omega), s_X2_openPitches hn hb t0 t1 h0 h1, oB_some]
  by_cases h : pX2_needy b t = 0
  · rw [if_pos h, if_pos h]
  · rw [if_neg h, if_neg h]
theorem s_X2_blockRent_15 (n : Nat) {b : BX2} (hb : S2 b) (e : Int) : ∀ (fu : Nat) (x c : Int), 0 ≤ x → 0 < fu → min e (pX2_pitches b) - x < fu → 0 ≤ c → c ≤ 1000 * x + 1000000 → g_X2_blockRent_15 n fu c e x b = some (c + zr (pX2_rents b) x (min e (pX2_pitches b))) := by
  have hp := hb.pit
  intro fu
  induction fu with
  | zero => intro x c h0 h1; omega
  | succ fu ih =>
    intro x c h0 _ h1 h2 h3
    rw [g_X2_blockRent_15.eq_2]
    by_cases hx : e ≤ x
    · rw [if_pos hx, zr_nil (by omega), Int.add_zero]
    · rw [if_neg hx]
      by_cases hy : pX2_pitches b ≤ x
      · rw [if_pos hy, zr_nil (by omega), Int.add_zero]
      · have hr := hb.rent x h0 (by omega)
        rw [if_neg hy, qA_ok h0 (by omega) (by omega), zr_cons (by omega), oR_ok (by omega) (by omega), oL_def, oR_ok (by omega) (by omega), ih _ _ (by omega) (by omega) (by omega) (by omega) (by omega), Int.add_assoc]
theorem s_X2_blockRent {n : Nat} (hn : 100 ≤ n) {b : BX2} (hb : S2 b) {t s : Int} (t0 : 0 ≤ t) (t1 : t < pX2_traders b) (h0 : 0 ≤ s) (h1 : s ≤ 100) : g_X2_blockRent n b t s = some (mRent b t s) := by
  have := hb.pit
  have := hb.tra
  have := hb.fr t0 t1
  unfold g_X2_blockRent
  rw [qA_ok t0 (by omega) (by omega), oR_ok (by omega) (by omega), oL_def, s_X2_blockRent_15 n hb _ n s 0 h0 (by omega) (by omega) (by omega) (by omega), Int.zero_add]
  rfl
theorem s_X2_shareRow {b : BX2} (hb : S2 b) (p q : Int) : g_X2_shareRow b p q = some (zB (mShare b p q)) := by
  have := hb.pit
  unfold g_X2_shareRow
  by_cases h1 : p < 0
  · rw [if_pos h1, zB_neg]; intro h; unfold mShare at h; omega
  · rw [if_neg h1]
    by_cases h2 : q < p
    · rw [if_pos h2, zB_neg]; intro h; unfold mShare at h; omega
    · rw [if_neg h2]
      by_cases h3 : pX2_pitches b ≤ q
      · rw [if_pos h3, zB_neg]; intro h; unfold mShare at h; omega
      · rw [if_neg h3, qA_ok (by omega) (by omega) (by omega), qA_ok (by omega) (by omega) (by omega), ite_zB]
        refine congrArg some (zB_congr ?_)
        unfold mShare
        constructor
        · intro h; exact ⟨by omega, by omega, by omega, h⟩
        · intro h; exact h.2.2.2
theorem s_X2_isInOneRow {b : BX2} (hb : S2 b) {t s : Int} (t0 : 0 ≤ t) (t1 : t < pX2_traders b) (h0 : -100 ≤ s) (h1 : s ≤ 100) : g_X2_isInOneRow b t s = some (zB (mInRow b t s)) := by
  have := hb.tra
  have := hb.fr t0 t1
  unfold g_X2_isInOneRow
  rw [qA_ok t0 (by omega) (by omega), oR_ok (by omega) (by omega), s_X2_shareRow hb, oB_some, oG_ok (zB_nb _)]
  rfl
theorem s_X2_isBlockFree_12 (n : Nat) {b : BX2} (e : Int) (he : pX2_pitches b ≤ 24) : ∀ (fu : Nat) (x : Int), 0 ≤ x → 0 < fu → min e (pX2_pitches b) - x < fu → g_X2_isBlockFree_12 n fu e x b = some (zB (∀ p, x ≤ p → p < min e (pX2_pitches b) → pX2_standing b p = -1)) := by
  intro fu
  induction fu with
  | zero => intro x h0 h1; omega
  | succ fu ih =>
    intro x h0 _ h1
    rw [g_X2_isBlockFree_12.eq_2]
    by_cases hx : e ≤ x
    · rw [if_pos hx, zB_pos]; intro p h1 h2; omega
    · rw [if_neg hx]
      by_cases hy : pX2_pitches b ≤ x
      · rw [if_pos hy, zB_pos]; intro p h1 h2; omega
      · rw [if_neg hy, qA_ok h0 (by omega) (by omega)]
        by_cases hs : pX2_standing b x = -1
        · rw [if_pos hs, oR_ok (by omega) (by omega), ih _ (by omega) (by omega) (by omega)]
          refine congrArg some (zB_congr ⟨fun h p h1 h2 => ?_, fun h p h1 h2 => h p (by omega) h2⟩)
          by_cases hp : p = x
          · rw [hp]; exact hs
          · exact h p (by omega) h2
        · rw [if_neg hs, zB_neg]; intro h; exact hs (h x (by omega) (by omega))
theorem s_X2_isBlockFree {n : Nat} (hn : 100 ≤ n) {b : BX2} (hb : S2 b) {t s : Int} (t0 : 0 ≤ t) (t1 : t < pX2_traders b) (h0 : 0 ≤ s) (h1 : s ≤ 100) : g_X2_isBlockFree n b t s = some (zB (mFree b t s)) := by
  have := hb.pit
  have := hb.tra
  have := hb.fr t0 t1
  unfold g_X2_isBlockFree
  rw [qA_ok t0 (by omega) (by omega), oR_ok (by omega) (by omega), oL_def, s_X2_isBlockFree_12 n _ (by omega) n s h0 (by omega) (by omega)]
  rfl
theorem s_X2_affords {n : Nat} (hn : 100 ≤ n) {b : BX2} (hb : S2 b) {t s : Int} (t0 : 0 ≤ t) (t1 : t < pX2_traders b) (h0 : 0 ≤ s) (h1 : s ≤ 100) : g_X2_affords n b t s = some (zB (mRent b t s ≤ pX2_limits b t)) := by
  have := hb.tra
  unfold g_X2_affords
  rw [s_X2_blockRent hn hb t0 t1 h0 h1, oB_some, qA_ok t0 (by omega) (by omega), ite_zB']
  refine congrArg some (zB_congr ?_)
  omega
theorem s_X2_clashesWith {b : BX2} (hb : S2 b) {t o : Int} (t0 : 0 ≤ t) (t1 : t < pX2_traders b) (h0 : -1 ≤ o) (h1 : o < pX2_traders b) : g_X2_clashesWith b t o = some (zB (mClash b t o)) := by
  have := hb.tra
  have := (hb.trd t t0 t1).1
  unfold g_X2_clashesWith
  by_cases ho : o = -1
  · rw [if_pos ho, zB_neg]; intro h; exact h.1 ho
  · rw [if_neg ho, qA_ok t0 (by omega) (by omega), qA_ok (by omega) (by omega) (by omega), qA_ok (by omega) (by omega) (by omega), ite_zB']
    exact congrArg some (zB_congr ⟨fun h => ⟨ho, h⟩, fun h => h.2⟩)
theorem s_X2_clashesBeside_38 {b : BX2} (hb : S2 b) {t l : Int} (t0 : 0 ≤ t) (t1 : t < pX2_traders b) (hs : ∀ p, 0 ≤ p → p < 24 → -1 ≤ pX2_standing b p ∧ pX2_standing b p < pX2_traders b) (h0 : 0 ≤ l) (h1 : l ≤ 100) : g_X2_clashesBeside_38 t l b = some (zB (mShare b l (l + 1) ∧ mClash b t (pX2_standing b (l + 1)))) := by
  have := hb.pit
  unfold g_X2_clashesBeside_38 g_X2_clashesBeside_65
  rw [oR_ok (by omega) (by omega), s_X2_shareRow hb, oB_some]
  by_cases h : mShare b l (l + 1)
  · have h' := h
    unfold mShare at h'
    have := hs (l + 1) (by omega) (by omega)
    rw [zB_pos h, if_neg (by omega), qA_ok (by omega) (by omega) (by omega), s_X2_clashesWith hb t0 t1 (by omega) (by omega), oB_some]
    by_cases hc : mClash b t (pX2_standing b (l + 1))
    · rw [zB_pos hc, if_neg (by omega), zB_pos ⟨h, hc⟩]
    · rw [zB_neg hc, if_pos rfl, zB_neg (fun x => hc x.2)]
  · rw [zB_neg h, if_pos rfl, zB_neg (fun x => h x.1)]
theorem s_X2_clashesBeside {b : BX2} (hb : S2 b) {t s : Int} (t0 : 0 ≤ t) (t1 : t < pX2_traders b) (hs : ∀ p, 0 ≤ p → p < 24 → -1 ≤ pX2_standing b p ∧ pX2_standing b p < pX2_traders b) (h0 : 0 ≤ s) (h1 : s ≤ 90) : g_X2_clashesBeside b t s = some (zB (mBeside b t s)) := by
  have := hb.pit
  have := hb.tra
  have := hb.fr t0 t1
  unfold g_X2_clashesBeside g_X2_clashesBeside_65
  rw [qA_ok t0 (by omega) (by omega), oR_ok (by omega) (by omega), oL_def, oR_ok (by omega) (by omega), s_X2_shareRow hb, oB_some, s_X2_clashesBeside_38 hb t0 t1 hs (by omega) (by omega), Int.sub_add_cancel]
  unfold mBeside
  by_cases h : mShare b (s - 1) s
  · have h' := h
    unfold mShare at h'
    have := hs (s - 1) (by omega) (by omega)
    rw [zB_pos h, if_neg (by omega), qA_ok (by omega) (by omega) (by omega), s_X2_clashesWith hb t0 t1 (by omega) (by omega), oB_some]
    by_cases hc : mClash b t (pX2_standing b (s - 1))
    · rw [zB_pos hc, if_neg (by omega), zB_pos (.inl ⟨h, hc⟩)]
    · rw [zB_neg hc, if_pos rfl]
      refine congrArg some (zB_congr ⟨.inr, fun x => ?_⟩)
      cases x with
      | inl x => exact absurd x.2 hc
      | inr x => exact x
  · rw [zB_neg h, if_pos rfl]
    refine congrArg some (zB_congr ⟨.inr, fun x => ?_⟩)
    cases x with
    | inl x => exact absurd x.1 h
    | inr x => exact x
theorem s_X2_hindrance {n : Nat} (hn : 100 ≤ n) {b : BX2} (hb : S2 b) {t s : Int} (t0 : 0 ≤ t) (t1 : t < pX2_traders b) (hs : ∀ p, 0 ≤ p → p < 24 → -1 ≤ pX2_standing b p ∧ pX2_standing b p < pX2_traders b) (hk : -1000 ≤ pX2_coversBusy b ∧ pX2_coversBusy b ≤ 1000) (h0 : 0 ≤ s) (h1 : s ≤ 90) : g_X2_hindrance n b t s = some (mHind b t s) := by
  have := hb.pit
  have := hb.tra
  have hf := hb.fr t0 t1
  have := mFor_b b t s (by omega)
  unfold g_X2_hindrance mHind
  rw [s_X2_isSeated b t0 (by omega), oB_some]
  by_cases e1 : pX2_starts b t = -1
  · rw [zB_neg (fun h => h e1), if_pos rfl, if_pos e1, s_X2_isInOneRow hb t0 t1 (by omega) (by omega), oB_some]
    by_cases e2 : mInRow b t s
    · rw [zB_pos e2, if_neg (by omega), cif_pos e2, s_X2_isBlockFree hn hb t0 t1 (by omega) (by omega), oB_some]
      by_cases e3 : mFree b t s
      · rw [zB_pos e3, if_neg (by omega), cif_pos e3, s_X2_affords hn hb t0 t1 (by omega) (by omega), oB_some]
        by_cases e4 : mRent b t s ≤ pX2_limits b t
        · rw [zB_pos e4, if_neg (by omega), if_pos e4, s_X2_coversFor hn hb t0 t1 (by omega) (by omega), oB_some, oR_ok (by omega) (by omega)]
          by_cases e5 : pX2_coversBusy b + mFor b t s ≤ pX2_covers b
          · rw [if_pos e5, if_pos e5, s_X2_clashesBeside hb t0 t1 hs h0 h1, oB_some]
            by_cases e6 : mBeside b t s
            · rw [zB_pos e6, if_neg (by omega), cif_pos e6]
            · rw [zB_neg e6, if_pos rfl, cif_neg e6]
          · rw [if_neg e5, if_neg e5]
        · rw [zB_neg e4, if_pos rfl, if_neg e4]
      · rw [zB_neg e3, if_pos rfl, cif_neg e3]
    · rw [zB_neg e2, if_pos rfl, cif_neg e2]
  · rw [zB_pos e1, if_neg (by omega), if_neg e1]
