/-! The first choice at a pitch. -/
theorem Pq.aq {q : BX3} (h : Pq q) : Aq q := by
  obtain ⟨⟨hs, hN0, hN1⟩, e1, e2, e3, e4, e5, e6, e7, e8⟩ := h
  have sb := sets_b hs
  have kb := kinds_b hs
  have lb := lev_b hs
  have ht := hs.tra
  have hTq : Tq q := by
    refine ⟨hs, ?_, ?_, ?_, e4, hN1⟩
    · rw [e1]; exact sb
    · rw [e2]; exact kb
    · rw [e3]; exact lb
  refine ⟨hTq, e1, fun t p t0 t1 p0 p1 => e7 t p t0 t1 p0 p1, ?_, ?_⟩
  · have := e5 0 (by rw [e2]; omega)
    rw [kAll, kList_0] at this
    exact this
  · intro t t0 t1
    obtain ⟨k1, k2, k3⟩ := e6 t t0 t1
    refine ⟨⟨k1, k2⟩, ?_⟩
    rw [k3, e5 _ (by rw [← k3]; exact k2)]
    apply ix_at
    apply List.idxOf_lt_length_iff.1
    rw [e2, k3] at k2
    omega
noncomputable def chF (b : BX2) (p u z l : Int) : Nat → Int
  | 0 => -1
  | k + 1 => cif (chF b p u z l k = -1 ∧ cand b p u z l k = opt b p u z l) (k : Int) (chF b p u z l k)
theorem chF_stay {b : BX2} {p u z l : Int} {k : Nat} (h : chF b p u z l k ≠ -1) : ∀ d : Nat, chF b p u z l (k + d) = chF b p u z l k := by
  intro d
  induction d with
  | zero => rfl
  | succ d ih =>
    show cif (chF b p u z l (k + d) = -1 ∧ cand b p u z l ((k + d : Nat) : Int) = opt b p u z l) ((k + d : Nat) : Int) (chF b p u z l (k + d)) = _
    rw [ih, cif_neg (fun x => h x.1)]
theorem s_X3_firstChoice_20 (n : Nat) {q : BX3} (h : Pq q) {p u k l : Int} (p0 : 0 ≤ p) (p1 : p < pX2_pitches (pX3_street q)) (hu : 0 ≤ u ∧ u < pX3_sets q) (hk : 0 ≤ k ∧ k < pX3_kinds q) (hl : 0 ≤ l ∧ l < pX3_levels q) : ∀ (fu x : Nat), (x : Int) ≤ pX2_traders (pX3_street q) → 0 < fu → pX2_traders (pX3_street q) - x < fu → chF (pX3_street q) p u (pX3_barred q k) l x = -1 →
    g_X3_firstChoice_20 n fu p u k l (opt (pX3_street q) p u (pX3_barred q k) l) x q = some (chF (pX3_street q) p u (pX3_barred q k) l (pX2_traders (pX3_street q)).toNat) := by
  have hA := h.aq
  have hs := hA.1.1
  have ht := hs.tra
  have hp := hs.pit
  have hK := hA.1.2.2.1
  have hN := hA.1.2.2.2.2.2
  have hop := opt_r hs (p := p) u (pX3_barred q k) l p0
  intro fu
  induction fu with
  | zero => intro x _ h0; omega
  | succ fu ih =>
    intro x x1 _ hf hx
    rw [g_X3_firstChoice_20.eq_2]
    unfold g_X3_firstChoice_114
    by_cases hc : pX2_traders (pX3_street q) ≤ x
    · rw [if_pos hc, show (pX2_traders (pX3_street q)).toNat = x by omega, hx]
    · have hcand : cand (pX3_street q) p u (pX3_barred q k) l x ≠ opt (pX3_street q) p u (pX3_barred q k) l → oR ((x : Int) + 1) (g_X3_firstChoice_20 n fu p u k l (opt (pX3_street q) p u (pX3_barred q k) l) ((x : Int) + 1) q) = some (chF (pX3_street q) p u (pX3_barred q k) l (pX2_traders (pX3_street q)).toNat) := by
        intro hne
        rw [oR_ok (by omega) (by omega)]
        have := ih (x + 1) (by omega) (by omega) (by omega) (by rw [chF.eq_2, cif_neg (fun y => hne y.2)]; exact hx)
        rw [show ((x + 1 : Nat) : Int) = (x : Int) + 1 by omega] at this
        exact this
      rw [if_neg hc, oR_ok (by omega) (by omega), oL_def, s_X3_canCome hA u (by omega) (by omega) p0 p1, oB_some]
      by_cases hcan : ¬ zbit u x ∧ mPos (pX3_street q) x p
      · obtain ⟨b1, b2, b3⟩ := hA.2.2.1 x p (by omega) (by omega) p0 p1
        rw [cif_pos hcan.2] at b1
        have hf' := hs.fr (t := x) (by omega) (by omega)
        have hmf := mFor_b (pX3_street q) x p (by omega)
        have hr := mRent_b hs (t := x) (by omega) (by omega) p0
        have hlt := mInRow_lt hcan.2.1
        unfold g_X3_isBarred
        rw [zB_pos hcan, if_neg (c := (1 : Int) = 0) (by omega), qA_ok hk.1 (by omega) (by omega)]
        by_cases hb : zbit (pX3_barred q k) x
        · rw [if_neg hb, oB_some, if_neg (c := (1 : Int) = 0) (by omega)]
          refine hcand ?_
          unfold cand; rw [cif_neg (fun y => y.2.2.1 hb)]; omega
        · rw [if_pos (Classical.byContradiction hb), oB_some, if_pos rfl, qA_ok (by omega) (by omega) (by omega), b2]
          by_cases hle : mFor (pX3_street q) x p ≤ l
          · have hu2 : 0 ≤ zOr u (zShl 1 x) ∧ zOr u (zShl 1 x) < pX3_sets q := by rw [hA.2.1] at hu ⊢; exact or_lt ht hu ⟨by omega, by omega⟩
            obtain ⟨kk1, kk2⟩ := hA.2.2.2.2 x (by omega) (by omega)
            have hkb : 0 ≤ pX3_kindsBehind q (x * 24 + p) ∧ pX3_kindsBehind q (x * 24 + p) < pX3_kinds q := by
              rw [b3]
              by_cases hsh : mShare (pX3_street q) (p + pX2_fronts (pX3_street q) x - 1) (p + pX2_fronts (pX3_street q) x)
              · rw [cif_pos hsh]; exact kk1
              · rw [cif_neg hsh]; omega
            have hbar : pX3_barred q (pX3_kindsBehind q (x * 24 + p)) = mBehind (pX3_street q) x p := by
              rw [b3]
              unfold mBehind
              by_cases hsh : mShare (pX3_street q) (p + pX2_fronts (pX3_street q) x - 1) (p + pX2_fronts (pX3_street q) x)
              · rw [cif_pos hsh, cif_pos hsh]; exact kk2
              · rw [cif_neg hsh, cif_neg hsh]; exact hA.2.2.2.1
            have hix := hA.1.ix (p := p + pX2_fronts (pX3_street q) x) (g := zOr u (zShl 1 x)) (k := pX3_kindsBehind q (x * 24 + p)) (l := l - mFor (pX3_street q) x p) (by omega) hu2 hkb (by omega)
            unfold tix at hix
            have htab := h.2.2.2.2.2.2.2.2 (p + pX2_fronts (pX3_street q) x) (zOr u (zShl 1 x)) (pX3_kindsBehind q (x * 24 + p)) (l - mFor (pX3_street q) x p) (by omega) (by omega) hu2.1 hu2.2 hkb.1 hkb.2 (by omega) (by omega)
            have hop2 := opt_r hs (p := p + pX2_fronts (pX3_street q) x) (zOr u (zShl 1 x)) (mBehind (pX3_street q) x p) (l - mFor (pX3_street q) x p) (by omega)
            rw [hbar] at htab
            unfold g_X3_cellAfter
            rw [if_neg (by omega), qA_ok (by omega) (by omega) (by omega), qA_ok (by omega) (by omega) (by omega), oL_def, qA_ok (by omega) (by omega) (by omega), oR_ok (by omega) (by omega), s_X3_cell hA.1 (by omega) hu2 hkb, oB_some, oB_some, qA_ok (by omega) (by omega) (by omega), Int.add_sub_assoc, qA_ok (by omega) (by omega) (by omega), htab, b1, oR_ok (by omega) (by omega)]
            have hcd : cand (pX3_street q) p u (pX3_barred q k) l x = 16 * mRent (pX3_street q) x p + 1 + opt (pX3_street q) (p + pX2_fronts (pX3_street q) x) (zOr u (zShl 1 x)) (mBehind (pX3_street q) x p) (l - mFor (pX3_street q) x p) := by
              unfold cand; rw [cif_pos ⟨hcan.1, hcan.2, hb, hle⟩]
            rw [← hcd]
            by_cases heq : cand (pX3_street q) p u (pX3_barred q k) l x = opt (pX3_street q) p u (pX3_barred q k) l
            · rw [if_pos heq]
              have hst : chF (pX3_street q) p u (pX3_barred q k) l (x + 1) = x := by rw [chF.eq_2, cif_pos ⟨hx, heq⟩]
              have := chF_stay (k := x + 1) (by rw [hst]; omega) ((pX2_traders (pX3_street q)).toNat - (x + 1)) (b := pX3_street q) (p := p) (u := u) (z := pX3_barred q k) (l := l)
              rw [show x + 1 + ((pX2_traders (pX3_street q)).toNat - (x + 1)) = (pX2_traders (pX3_street q)).toNat by omega, hst] at this
              rw [this]
            · rw [if_neg heq]; exact hcand heq
          · rw [if_pos (by omega)]
            refine hcand ?_
            unfold cand; rw [cif_neg (fun y => hle y.2.2.2)]; omega
      · rw [zB_neg hcan, if_pos rfl]
        refine hcand ?_
        unfold cand; rw [cif_neg (fun y => hcan ⟨y.1, y.2.1⟩)]; omega
