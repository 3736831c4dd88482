/-! Chains from the right, and the street turned around. -/
noncomputable def mAhead (b : BX2) (t s : Int) : Int := cif (mShare b (s - 1) s) (foeV b t) 0
noncomputable def Rch (b : BX2) : Int → Int → List (Int × Int) → Prop
  | _, _, [] => True
  | e, z, x :: L => x.2 + pX2_fronts b x.1 ≤ e ∧ (0 ≤ x.1 ∧ x.1 < pX2_traders b) ∧ mPos b x.1 x.2 ∧ (x.2 + pX2_fronts b x.1 = e → ¬ zbit z x.1) ∧ Rch b x.2 (mAhead b x.1 x.2) L
theorem Rch_mem {b : BX2} (hb : S2 b) : ∀ (L : List (Int × Int)) (e z : Int), Rch b e z L → ∀ x, x ∈ L → (0 ≤ x.1 ∧ x.1 < pX2_traders b) ∧ mPos b x.1 x.2 ∧ x.2 + pX2_fronts b x.1 ≤ e := by
  intro L
  induction L with
  | nil => intro p z _ x hx; exact absurd hx List.not_mem_nil
  | cons y L ih =>
    intro e z h x hx
    obtain ⟨h1, h2, h3, h4, h5⟩ := h
    rcases List.mem_cons.1 hx with e' | e'
    · rw [e']; exact ⟨h2, h3, h1⟩
    · have h6 := ih _ _ h5 x e'
      have hf := hb.fr h2.1 h2.2
      exact ⟨h6.1, h6.2.1, by omega⟩
theorem mTurn_eqs (b : BX2) : pX2_pitches (mTurn b) = pX2_pitches b ∧ pX2_rows (mTurn b) = mRev (pX2_pitches b) (pX2_rows b) ∧ pX2_rents (mTurn b) = mRev (pX2_pitches b) (pX2_rents b) ∧ pX2_roofs (mTurn b) = mRev (pX2_pitches b) (pX2_roofs b) ∧ pX2_traders (mTurn b) = pX2_traders b ∧ pX2_trades (mTurn b) = pX2_trades b ∧ pX2_fronts (mTurn b) = pX2_fronts b ∧ pX2_limits (mTurn b) = pX2_limits b ∧ pX2_needy (mTurn b) = pX2_needy b ∧ pX2_clashes (mTurn b) = pX2_clashes b ∧ pX2_covers (mTurn b) = pX2_covers b := by
  unfold mTurn mEmpty
  simp only [eX2_pitches_pitches, eX2_pitches_rows, eX2_pitches_rents, eX2_pitches_roofs, eX2_pitches_traders, eX2_pitches_trades, eX2_pitches_fronts, eX2_pitches_limits, eX2_pitches_needy, eX2_pitches_clashes, eX2_pitches_covers, eX2_pitches_starts, eX2_pitches_standing, eX2_pitches_coversBusy, eX2_rows_pitches, eX2_rows_rows, eX2_rows_rents, eX2_rows_roofs, eX2_rows_traders, eX2_rows_trades, eX2_rows_fronts, eX2_rows_limits, eX2_rows_needy, eX2_rows_clashes, eX2_rows_covers, eX2_rows_starts, eX2_rows_standing, eX2_rows_coversBusy, eX2_rents_pitches, eX2_rents_rows, eX2_rents_rents, eX2_rents_roofs, eX2_rents_traders, eX2_rents_trades, eX2_rents_fronts, eX2_rents_limits, eX2_rents_needy, eX2_rents_clashes, eX2_rents_covers, eX2_rents_starts, eX2_rents_standing, eX2_rents_coversBusy, eX2_roofs_pitches, eX2_roofs_rows, eX2_roofs_rents, eX2_roofs_roofs, eX2_roofs_traders, eX2_roofs_trades, eX2_roofs_fronts, eX2_roofs_limits, eX2_roofs_needy, eX2_roofs_clashes, eX2_roofs_covers, eX2_roofs_starts, eX2_roofs_standing, eX2_roofs_coversBusy, eX2_traders_pitches, eX2_traders_rows, eX2_traders_rents, eX2_traders_roofs, eX2_traders_traders, eX2_traders_trades, eX2_traders_fronts, eX2_traders_limits, eX2_traders_needy, eX2_traders_clashes, eX2_traders_covers, eX2_traders_starts, eX2_traders_standing, eX2_traders_coversBusy, eX2_trades_pitches, eX2_trades_rows, eX2_trades_rents, eX2_trades_roofs, eX2_trades_traders, eX2_trades_trades, eX2_trades_fronts, eX2_trades_limits, eX2_trades_needy, eX2_trades_clashes, eX2_trades_covers, eX2_trades_starts, eX2_trades_standing, eX2_trades_coversBusy, eX2_fronts_pitches, eX2_fronts_rows, eX2_fronts_rents, eX2_fronts_roofs, eX2_fronts_traders, eX2_fronts_trades, eX2_fronts_fronts, eX2_fronts_limits, eX2_fronts_needy, eX2_fronts_clashes, eX2_fronts_covers, eX2_fronts_starts, eX2_fronts_standing, eX2_fronts_coversBusy, eX2_limits_pitches, eX2_limits_rows, eX2_limits_rents, eX2_limits_roofs, eX2_limits_traders, eX2_limits_trades, eX2_limits_fronts, eX2_limits_limits, eX2_limits_needy, eX2_limits_clashes, eX2_limits_covers, eX2_limits_starts, eX2_limits_standing, eX2_limits_coversBusy, eX2_needy_pitches, eX2_needy_rows, eX2_needy_rents, eX2_needy_roofs, eX2_needy_traders, eX2_needy_trades, eX2_needy_fronts, eX2_needy_limits, eX2_needy_needy, eX2_needy_clashes, eX2_needy_covers, eX2_needy_starts, eX2_needy_standing, eX2_needy_coversBusy, eX2_clashes_pitches, eX2_clashes_rows, eX2_clashes_rents, eX2_clashes_roofs, eX2_clashes_traders, eX2_clashes_trades, eX2_clashes_fronts, eX2_clashes_limits, eX2_clashes_needy, eX2_clashes_clashes, eX2_clashes_covers, eX2_clashes_starts, eX2_clashes_standing, eX2_clashes_coversBusy, eX2_covers_pitches, eX2_covers_rows, eX2_covers_rents, eX2_covers_roofs, eX2_covers_traders, eX2_covers_trades, eX2_covers_fronts, eX2_covers_limits, eX2_covers_needy, eX2_covers_clashes, eX2_covers_covers, eX2_covers_starts, eX2_covers_standing, eX2_covers_coversBusy, eX2_starts_pitches, eX2_starts_rows, eX2_starts_rents, eX2_starts_roofs, eX2_starts_traders, eX2_starts_trades, eX2_starts_fronts, eX2_starts_limits, eX2_starts_needy, eX2_starts_clashes, eX2_starts_covers, eX2_starts_starts, eX2_starts_standing, eX2_starts_coversBusy, eX2_standing_pitches, eX2_standing_rows, eX2_standing_rents, eX2_standing_roofs, eX2_standing_traders, eX2_standing_trades, eX2_standing_fronts, eX2_standing_limits, eX2_standing_needy, eX2_standing_clashes, eX2_standing_covers, eX2_standing_starts, eX2_standing_standing, eX2_standing_coversBusy, eX2_coversBusy_pitches, eX2_coversBusy_rows, eX2_coversBusy_rents, eX2_coversBusy_roofs, eX2_coversBusy_traders, eX2_coversBusy_trades, eX2_coversBusy_fronts, eX2_coversBusy_limits, eX2_coversBusy_needy, eX2_coversBusy_clashes, eX2_coversBusy_covers, eX2_coversBusy_starts, eX2_coversBusy_standing, eX2_coversBusy_coversBusy, and_self]
theorem mRev_in {P i : Int} (v : Int → Int) (h0 : 0 ≤ i) (h1 : i < P) : mRev P v i = v (P - 1 - i) := by unfold mRev; rw [if_pos ⟨h0, h1⟩]
theorem nz_rev {P : Int} {v : Int → Int} (h : nz 24 v) (hp : P ≤ 24) : nz 24 (mRev P v) := by
  intro i hi; unfold mRev; rw [if_neg (by omega)]; exact h i hi
theorem W2_turn {b : BX2} (hb : S2 b) : W2 (mTurn b) := by
  have hp := hb.pit
  have hE := mEmpty_W2 hb
  obtain ⟨a1, a2, a3, a4, a5, a6, a7, a8, b1, b2, b3, b4, b5, b6, b7, b8, b9, b10⟩ := hE.s
  obtain ⟨e1, e2, e3, e4, e5, e6, e7, e8, e9, e10, e11⟩ := mTurn_eqs b
  refine ⟨⟨a1, a2, a3, ?_, ?_, a6, a7, a8, ?_, ?_, ?_, b4, b5, b6, b7, b8, b9, b10⟩, ?_⟩
  · intro p p0 p1
    rw [e1] at p1
    rw [e3, mRev_in _ p0 p1]
    exact hb.rent _ (by omega) (by omega)
  · intro p
    rw [e4]
    unfold mRev
    split
    · exact hb.roof _
    · exact hb.roof _
  · rw [e2]; exact nz_rev hb.nrm.1 hp.2
  · rw [e3]; exact nz_rev hb.nrm.2.1 hp.2
  · rw [e4]; exact nz_rev hb.nrm.2.2.1 hp.2
  · have f1 : pX2_starts (mTurn b) = pX2_starts (mEmpty b) := rfl
    have f2 : pX2_standing (mTurn b) = pX2_standing (mEmpty b) := rfl
    have f3 : pX2_coversBusy (mTurn b) = pX2_coversBusy (mEmpty b) := rfl
    obtain ⟨q1, q2, q3, q4⟩ := hE.2
    refine ⟨q1, q2, q3, ?_⟩
    rw [f3]
    have hz : pX2_coversBusy (mEmpty b) = 0 := rfl
    rw [hz, zr_0]
    intro t t0 t1
    have ht : pX2_starts (mTurn b) t = -1 := by
      have h8 := hb.tra
      rw [e5] at t1
      show (if 0 ≤ t ∧ t < 8 then (-1 : Int) else 0) = -1
      rw [if_pos (by omega)]
    simp only [ht, if_true]
theorem zr_rev {P : Int} (v : Int → Int) : ∀ (d : Nat) (s e : Int), 0 ≤ s → e ≤ P → e - s = d → zr (mRev P v) (P - e) (P - s) = zr v s e := by
  intro d
  induction d with
  | zero => intro s e s0 e1 h; rw [zr_nil (by omega), zr_nil (by omega)]
  | succ d ih =>
    intro s e s0 e1 h
    rw [zr_cons (f := v) (by omega), ← ih (s + 1) e (by omega) e1 (by omega), show P - s = P - (s + 1) + 1 by omega, zr_snoc (by omega), mRev_in v (by omega) (by omega), show P - 1 - (P - (s + 1)) = s by omega]
    omega
theorem turn_rent {b : BX2} {t s : Int} (s0 : 0 ≤ s) (f0 : 0 ≤ pX2_fronts b t) (s1 : s + pX2_fronts b t ≤ pX2_pitches b) : mRent (mTurn b) t (pX2_pitches b - s - pX2_fronts b t) = mRent b t s := by
  obtain ⟨e1, e2, e3, e4, e5, e6, e7, e8, e9, e10, e11⟩ := mTurn_eqs b
  unfold mRent
  rw [e1, e3, e7, Int.min_eq_left (by omega), Int.min_eq_left s1, show pX2_pitches b - s - pX2_fronts b t + pX2_fronts b t = pX2_pitches b - s by omega, show pX2_pitches b - s - pX2_fronts b t = pX2_pitches b - (s + pX2_fronts b t) by omega]
  exact zr_rev _ (pX2_fronts b t).toNat _ _ s0 s1 (by omega)
theorem turn_for {b : BX2} {t s : Int} (s0 : 0 ≤ s) (f0 : 0 ≤ pX2_fronts b t) (s1 : s + pX2_fronts b t ≤ pX2_pitches b) : mFor (mTurn b) t (pX2_pitches b - s - pX2_fronts b t) = mFor b t s := by
  obtain ⟨e1, e2, e3, e4, e5, e6, e7, e8, e9, e10, e11⟩ := mTurn_eqs b
  unfold mFor mOpen
  rw [e1, e4, e7, e9, Int.min_eq_left (by omega), Int.min_eq_left s1, show pX2_pitches b - s - pX2_fronts b t + pX2_fronts b t = pX2_pitches b - s by omega, show pX2_pitches b - s - pX2_fronts b t = pX2_pitches b - (s + pX2_fronts b t) by omega]
  have hz := zr_rev (P := pX2_pitches b) (fun p => if pX2_roofs b p = 0 then 1 else 0) (pX2_fronts b t).toNat s (s + pX2_fronts b t) s0 s1 (by omega)
  rw [← hz]
  have hfun : (fun p => if mRev (pX2_pitches b) (pX2_roofs b) p = 0 then (1 : Int) else 0) = mRev (pX2_pitches b) (fun p => if pX2_roofs b p = 0 then 1 else 0) := by
    funext p
    unfold mRev
    by_cases h : 0 ≤ p ∧ p < pX2_pitches b
    · rw [if_pos h, if_pos h]
    · rw [if_neg h, if_neg h]
  rw [hfun]
theorem turn_share {b : BX2} {p q : Int} : mShare (mTurn b) (pX2_pitches b - 1 - q) (pX2_pitches b - 1 - p) ↔ mShare b p q := by
  obtain ⟨e1, e2, e3, e4, e5, e6, e7, e8, e9, e10, e11⟩ := mTurn_eqs b
  unfold mShare
  rw [e1, e2]
  constructor
  · intro h
    obtain ⟨h1, h2, h3, h4⟩ := h
    rw [mRev_in _ h1 (by omega), mRev_in _ (by omega) h3] at h4
    rw [show pX2_pitches b - 1 - (pX2_pitches b - 1 - q) = q by omega, show pX2_pitches b - 1 - (pX2_pitches b - 1 - p) = p by omega] at h4
    exact ⟨by omega, by omega, by omega, h4.symm⟩
  · intro h
    obtain ⟨h1, h2, h3, h4⟩ := h
    rw [mRev_in _ (by omega) (by omega), mRev_in _ (by omega) (by omega)]
    rw [show pX2_pitches b - 1 - (pX2_pitches b - 1 - q) = q by omega, show pX2_pitches b - 1 - (pX2_pitches b - 1 - p) = p by omega]
    exact ⟨by omega, by omega, by omega, h4.symm⟩
theorem turn_clash (b : BX2) (t o : Int) : mClash (mTurn b) t o ↔ mClash b t o := by
  obtain ⟨e1, e2, e3, e4, e5, e6, e7, e8, e9, e10, e11⟩ := mTurn_eqs b
  unfold mClash
  rw [e6, e10]
theorem turn_foeF (b : BX2) (t : Int) : ∀ k : Nat, foeF (mTurn b) t k = foeF b t k := by
  intro k
  induction k with
  | zero => rfl
  | succ k ih =>
    rw [foeF.eq_2, foeF.eq_2, ih]
    exact cif_congr (by rw [turn_clash])
theorem turn_foe (b : BX2) (t : Int) : foeV (mTurn b) t = foeV b t := by
  unfold foeV
  rw [(mTurn_eqs b).2.2.2.2.1]
  exact turn_foeF b t _
theorem turn_pos {b : BX2} {t s : Int} (s0 : 0 ≤ s) (f0 : 1 ≤ pX2_fronts b t) (s1 : s + pX2_fronts b t ≤ pX2_pitches b) : mPos (mTurn b) t (pX2_pitches b - s - pX2_fronts b t) ↔ mPos b t s := by
  obtain ⟨e1, e2, e3, e4, e5, e6, e7, e8, e9, e10, e11⟩ := mTurn_eqs b
  unfold mPos mInRow
  rw [turn_rent s0 (by omega) s1, e7, e8, show pX2_pitches b - s - pX2_fronts b t + pX2_fronts b t - 1 = pX2_pitches b - 1 - s by omega, show pX2_pitches b - s - pX2_fronts b t = pX2_pitches b - 1 - (s + pX2_fronts b t - 1) by omega, turn_share]
theorem turn_behind (b : BX2) (t s : Int) : mBehind (mTurn b) t (pX2_pitches b - s - pX2_fronts b t) = mAhead b t s := by
  obtain ⟨e1, e2, e3, e4, e5, e6, e7, e8, e9, e10, e11⟩ := mTurn_eqs b
  unfold mBehind mAhead
  rw [turn_foe, e7, show pX2_pitches b - s - pX2_fronts b t + pX2_fronts b t - 1 = pX2_pitches b - 1 - s by omega, show pX2_pitches b - s - pX2_fronts b t + pX2_fronts b t = pX2_pitches b - 1 - (s - 1) by omega]
  exact cif_congr turn_share
def trn (b : BX2) (x : Int × Int) : Int × Int := (x.1, pX2_pitches b - x.2 - pX2_fronts b x.1)
theorem trn_trn (b : BX2) (x : Int × Int) : trn b (trn b x) = x := by
  unfold trn
  refine Prod.ext rfl ?_
  show pX2_pitches b - (pX2_pitches b - x.2 - pX2_fronts b x.1) - pX2_fronts b x.1 = x.2
  omega
theorem Rch_turn {b : BX2} (hb : S2 b) : ∀ (L : List (Int × Int)) (e z : Int), e ≤ pX2_pitches b → Rch b e z L → Chn (mTurn b) (pX2_pitches b - e) z (L.map (trn b)) := by
  obtain ⟨e1, e2, e3, e4, e5, e6, e7, e8, e9, e10, e11⟩ := mTurn_eqs b
  intro L
  induction L with
  | nil => intro e z _ _; trivial
  | cons x L ih =>
    intro e z he h
    obtain ⟨h1, h2, h3, h4, h5⟩ := h
    have hl := mInRow_lt h3.1
    have hf := hb.fr h2.1 h2.2
    show pX2_pitches b - e ≤ pX2_pitches b - x.2 - pX2_fronts b x.1 ∧ (0 ≤ x.1 ∧ x.1 < pX2_traders (mTurn b)) ∧ mPos (mTurn b) x.1 (pX2_pitches b - x.2 - pX2_fronts b x.1) ∧ (pX2_pitches b - x.2 - pX2_fronts b x.1 = pX2_pitches b - e → ¬ zbit z x.1) ∧ Chn (mTurn b) (pX2_pitches b - x.2 - pX2_fronts b x.1 + pX2_fronts (mTurn b) x.1) (mBehind (mTurn b) x.1 (pX2_pitches b - x.2 - pX2_fronts b x.1)) (L.map (trn b))
    rw [e5, e7, turn_behind, turn_pos hl.1 hl.2.1 hl.2.2, show pX2_pitches b - x.2 - pX2_fronts b x.1 + pX2_fronts b x.1 = pX2_pitches b - x.2 by omega]
    exact ⟨by omega, h2, h3, fun e' => h4 (by omega), ih _ _ (by omega) h5⟩
theorem turn_Rch {b : BX2} (hb : S2 b) : ∀ (L : List (Int × Int)) (e z : Int), e ≤ pX2_pitches b → Chn (mTurn b) (pX2_pitches b - e) z L → Rch b e z (L.map (trn b)) := by
  obtain ⟨e1, e2, e3, e4, e5, e6, e7, e8, e9, e10, e11⟩ := mTurn_eqs b
  intro L
  induction L with
  | nil => intro e z _ _; trivial
  | cons x L ih =>
    intro e z he h
    obtain ⟨h1, h2, h3, h4, h5⟩ := h
    have hl := mInRow_lt h3.1
    rw [e5] at h2
    rw [e7] at h5
    have hf := hb.fr h2.1 h2.2
    rw [e1, e7] at hl
    have hx : pX2_pitches b - (pX2_pitches b - x.2 - pX2_fronts b x.1) - pX2_fronts b x.1 = x.2 := by omega
    have hp := turn_pos (b := b) (t := x.1) (s := pX2_pitches b - x.2 - pX2_fronts b x.1) (by omega) hf.1 (by omega)
    have hbh := turn_behind b x.1 (pX2_pitches b - x.2 - pX2_fronts b x.1)
    rw [hx] at hp hbh
    show pX2_pitches b - x.2 - pX2_fronts b x.1 + pX2_fronts b x.1 ≤ e ∧ (0 ≤ x.1 ∧ x.1 < pX2_traders b) ∧ mPos b x.1 (pX2_pitches b - x.2 - pX2_fronts b x.1) ∧ (pX2_pitches b - x.2 - pX2_fronts b x.1 + pX2_fronts b x.1 = e → ¬ zbit z x.1) ∧ Rch b (pX2_pitches b - x.2 - pX2_fronts b x.1) (mAhead b x.1 (pX2_pitches b - x.2 - pX2_fronts b x.1)) (L.map (trn b))
    rw [← hbh]
    refine ⟨by omega, h2, hp.1 h3, fun e' => h4 (by omega), ih _ _ (by omega) ?_⟩
    rw [show pX2_pitches b - (pX2_pitches b - x.2 - pX2_fronts b x.1) = x.2 + pX2_fronts b x.1 by omega]
    exact h5
theorem whos_turn (b : BX2) (L : List (Int × Int)) : whos (L.map (trn b)) = whos L := by
  unfold whos
  rw [List.map_map]
  rfl
theorem vals_turn {b : BX2} (hb : S2 b) : ∀ (L : List (Int × Int)), (∀ x, x ∈ L → (0 ≤ x.1 ∧ x.1 < pX2_traders b) ∧ 0 ≤ x.2 ∧ x.2 + pX2_fronts b x.1 ≤ pX2_pitches b) → vals (mTurn b) (L.map (trn b)) = vals b L ∧ nds (mTurn b) (L.map (trn b)) = nds b L := by
  intro L
  induction L with
  | nil => intro _; exact ⟨rfl, rfl⟩
  | cons x L ih =>
    intro h
    obtain ⟨h1, h2, h3⟩ := h x List.mem_cons_self
    obtain ⟨h4, h5⟩ := ih (fun y hy => h y (List.mem_cons_of_mem _ hy))
    have hf := hb.fr h1.1 h1.2
    refine ⟨?_, ?_⟩
    · show 16 * mRent (mTurn b) x.1 (pX2_pitches b - x.2 - pX2_fronts b x.1) + 1 + vals (mTurn b) (L.map (trn b)) = 16 * mRent b x.1 x.2 + 1 + vals b L
      rw [turn_rent h2 (by omega) h3, h4]
    · show mFor (mTurn b) x.1 (pX2_pitches b - x.2 - pX2_fronts b x.1) + nds (mTurn b) (L.map (trn b)) = mFor b x.1 x.2 + nds b L
      rw [turn_for h2 (by omega) h3, h5]
