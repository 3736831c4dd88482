/-! worthAround is the greatest value of both sides. -/
theorem and_k : ∀ g : Nat, g < 256 → ((zAnd (g : Int) 0 = 0 ∧ zOr (g : Int) 0 = g) ∧ ∀ t : Nat, t < 8 → (zAnd (g : Int) (zShl 1 (t : Int)) = 0 ↔ zAnd (zShr (g : Int) (t : Int)) 1 = 0)) := by decide +kernel
theorem and_0 {g : Int} (g0 : 0 ≤ g) (g1 : g < 256) : zAnd g 0 = 0 ∧ zOr g 0 = g := by
  have h := (and_k g.toNat (by omega)).1
  rw [show ((g.toNat : Nat) : Int) = g by omega] at h
  exact h
theorem and_1 {g t : Int} (g0 : 0 ≤ g) (g1 : g < 256) (t0 : 0 ≤ t) (t1 : t < 8) : zAnd g (zShl 1 t) = 0 ↔ ¬ zbit g t := by
  have h := (and_k g.toNat (by omega)).2 t.toNat (by omega)
  rw [show ((g.toNat : Nat) : Int) = g by omega, show ((t.toNat : Nat) : Int) = t by omega] at h
  rw [h]
  unfold zbit
  exact Classical.not_not.symm
theorem isW_of {b : BX2} (hb : S2 b) {st zl en zr busy t sp r : Int} (hst : 0 ≤ st ∧ st ≤ pX2_pitches b) (hen : 0 ≤ en) (sp0 : 0 ≤ sp) (ht : t = -1 ∨ (0 ≤ t ∧ t < pX2_traders b))
    (hor : ∀ g u, 0 ≤ g → g < zShl 1 (pX2_traders b) → 0 ≤ u → u < pX2_traders b → (zbit (zOr g busy) u ↔ (zbit g u ∨ u = t)))
    (hand : ∀ g, 0 ≤ g → g < zShl 1 (pX2_traders b) → (zAnd g busy = 0 ↔ (t = -1 ∨ ¬ zbit g t)))
    (h1 : ∀ g c, 0 ≤ g → g < zShl 1 (pX2_traders b) → zAnd g busy = 0 → 0 ≤ c → c ≤ sp → VW b st zl en zr busy sp g c ≤ r)
    (h2 : ∃ g c, 0 ≤ g ∧ g < zShl 1 (pX2_traders b) ∧ zAnd g busy = 0 ∧ 0 ≤ c ∧ c ≤ sp ∧ r = VW b st zl en zr busy sp g c) : IsW b st zl en zr t sp r := by
  have hT := hb.tra
  have hP := hb.pit
  have hTS := (W2_turn hb).s
  have sb := sets_b hb
  obtain ⟨e1, e2, e3, e4, e5, e6, e7, e8, e9, e10, e11⟩ := mTurn_eqs b
  refine ⟨?_, ?_⟩
  · obtain ⟨g, c, g0, g1, gb, c0, c1, hr⟩ := h2
    obtain ⟨M, ⟨a1, a2, a3, a4⟩, a5⟩ := opt_at hTS 24 (pX2_pitches b - st) (zShl 1 (pX2_traders b) - 1 - g) zl c (by omega) (by rw [e1]; omega) c0
    obtain ⟨B, ⟨b1, b2, b3, b4⟩, b5⟩ := opt_at hb 24 en (zOr g busy) zr (sp - c) hen (by omega) (by omega)
    have hR := turn_Rch hb M st zl hst.2 a1
    have hRm := Rch_mem hb _ _ _ hR
    have hBm := Chn_mem hb _ _ _ b1
    have hMt : (M.map (trn b)).map (trn b) = M := by
      rw [List.map_map]
      have : (trn b ∘ trn b) = id := funext (fun x => trn_trn b x)
      rw [this, List.map_id]
    have hv := vals_turn hb (M.map (trn b)) (fun x hx => by
      obtain ⟨k1, k2, k3⟩ := hRm x hx
      have := mInRow_lt k2.1
      exact ⟨k1, this.1, this.2.2⟩)
    rw [hMt] at hv
    have hin : ∀ y, y ∈ M.map (trn b) → zbit g y.1 := by
      intro y hy
      obtain ⟨x, hx, hxy⟩ := List.mem_map.1 hy
      have hy1 := (hRm y hy).1
      have h6 := a2 x hx
      have e : x.1 = y.1 := by rw [← hxy]; rfl
      rw [e, compl_bit hT ⟨g0, g1⟩ hy1] at h6
      exact Classical.not_not.1 h6
    have hout : ∀ y, y ∈ B → ¬ zbit g y.1 ∧ y.1 ≠ t := by
      intro y hy
      have hy1 := (hBm y hy).1
      have h6 := b2 y hy
      rw [hor g y.1 g0 g1 hy1.1 hy1.2] at h6
      exact ⟨fun h => h6 (.inl h), fun h => h6 (.inr h)⟩
    refine ⟨M.map (trn b), B, ⟨hR, b1, ?_, ?_, ?_⟩, ?_⟩
    · unfold whos
      rw [List.map_append]
      refine List.nodup_append.2 ⟨?_, b3, ?_⟩
      · have := whos_turn b M
        unfold whos at this
        rw [this]; exact a3
      · intro x hx y hy e
        obtain ⟨x', hx', ex⟩ := of_whos hx
        obtain ⟨y', hy', ey⟩ := of_whos hy
        apply (hout y' hy').1
        rw [ey, ← e, ← ex]
        exact hin x' hx'
    · intro y hy
      rcases List.mem_append.1 hy with hy | hy
      · intro e
        rcases (hand g g0 g1).1 gb with h | h
        · have := (hRm y hy).1; omega
        · exact h (e ▸ hin y hy)
      · exact (hout y hy).2
    · rw [← hv.2]; omega
    · rw [← hv.1, a5, b5, hr]; rfl
  · intro R B hTw
    obtain ⟨k1, k2, k3, k4, k5⟩ := hTw
    have hRm := Rch_mem hb _ _ _ k1
    have hBm := Chn_mem hb _ _ _ k2
    unfold whos at k3
    rw [List.map_append] at k3
    obtain ⟨n1, n2, n3⟩ := List.nodup_append.1 k3
    have hR8 : ∀ x, x ∈ R → 0 ≤ x.1 ∧ x.1 < 8 := fun x hx => by have := (hRm x hx).1; omega
    have hg := msk_lt hT R (fun x hx => (hRm x hx).1)
    have hnR := nds_nn hb R (fun x hx => (hRm x hx).1)
    have hnB := nds_nn hb B (fun x hx => (hBm x hx).1)
    have hgb : zAnd (msk R) busy = 0 := by
      rw [hand _ hg.1 hg.2]
      rcases ht with e | e
      · exact .inl e
      · right
        intro h
        obtain ⟨x, hx, ex⟩ := of_whos ((msk_bit R hR8 t e.1 (by omega)).1 h)
        exact k4 x (List.mem_append.2 (.inl hx)) ex
    have hv := vals_turn hb R (fun x hx => by
      obtain ⟨m1, m2, m3⟩ := hRm x hx
      have := mInRow_lt m2.1
      exact ⟨m1, this.1, this.2.2⟩)
    have q1 := opt_ge hTS (R.map (trn b)) (pX2_pitches b - st) (zShl 1 (pX2_traders b) - 1 - msk R) zl (nds b R) (by omega) ⟨Rch_turn hb R st zl hst.2 k1, (fun x hx => by
        obtain ⟨y, hy, hxy⟩ := List.mem_map.1 hx
        have e : x.1 = y.1 := by rw [← hxy]; rfl
        have hy1 := (hRm y hy).1
        rw [e, compl_bit hT hg hy1]
        intro h
        exact h ((msk_bit R hR8 y.1 hy1.1 (by omega)).2 (mem_whos hy))), by rw [whos_turn]; exact n1, by rw [hv.2]; exact Int.le_refl _⟩
    have q2 := opt_ge hb B en (zOr (msk R) busy) zr (sp - nds b R) hen ⟨k2, (fun x hx => by
        have hx1 := (hBm x hx).1
        rw [hor _ x.1 hg.1 hg.2 hx1.1 hx1.2]
        intro h
        rcases h with h | h
        · exact n3 x.1 ((msk_bit R hR8 x.1 hx1.1 (by omega)).1 h) x.1 (mem_whos hx) rfl
        · exact k4 x (List.mem_append.2 (.inr hx)) h), n2, by omega⟩
    have q3 := h1 (msk R) (nds b R) hg.1 hg.2 hgb hnR (by omega)
    rw [hv.1] at q1
    unfold VW at q3
    omega
theorem s_X3_kindBeside {q : BX3} (h : Aq q) {t : Int} (p p' : Int) (t0 : 0 ≤ t) (t1 : t < pX2_traders (pX3_street q)) : ∃ k, g_X3_kindBeside q t p p' = some k ∧ (0 ≤ k ∧ k < pX3_kinds q) ∧ pX3_barred q k = cif (mShare (pX3_street q) p p') (foeV (pX3_street q) t) 0 := by
  have hT := h.1.1.tra
  have hK := h.1.2.2.1
  obtain ⟨kk1, kk2⟩ := h.2.2.2.2 t t0 t1
  unfold g_X3_kindBeside
  rw [s_X2_shareRow h.1.1, oB_some]
  by_cases hsh : mShare (pX3_street q) p p'
  · rw [zB_pos hsh, if_neg (by omega), qA_ok t0 (by omega) (by omega), cif_pos hsh]
    exact ⟨_, rfl, kk1, kk2⟩
  · rw [zB_neg hsh, if_pos rfl, cif_neg hsh]
    exact ⟨_, rfl, by omega, h.2.2.2.1⟩
theorem turn_kList (b : BX2) : ∀ k : Nat, kList (mTurn b) k = kList b k := by
  intro k
  induction k with
  | zero => rfl
  | succ k ih => rw [kList.eq_2, kList.eq_2, ih, turn_foe]
theorem turn_kAll (b : BX2) : kAll (mTurn b) = kAll b := by
  unfold kAll
  rw [(mTurn_eqs b).2.2.2.2.1, turn_kList]
theorem Same.kListE {a b : BX2} (h : Same a b) : ∀ k : Nat, kList a k = kList b k := by
  intro k
  induction k with
  | zero => rfl
  | succ k ih => rw [kList.eq_2, kList.eq_2, ih, h.foe]
theorem Same.kAllE {a b : BX2} (h : Same a b) : kAll a = kAll b := by
  unfold kAll
  rw [h.2.2.2.2.1, h.kListE]
theorem turn_kinds {q w : BX3} {b : BX2} (hq : Pq q) (hw : Pq w) (hs : Same (pX3_street q) b) (hwb : pX3_street w = mTurn b) : pX3_kinds w = pX3_kinds q ∧ ∀ k, 0 ≤ k → k < pX3_kinds q → pX3_barred w k = pX3_barred q k := by
  have e1 : pX3_kinds w = pX3_kinds q := by rw [hw.2.2.1, hq.2.2.1, hwb, turn_kAll, hs.kAllE]
  refine ⟨e1, fun k k0 k1 => ?_⟩
  have h1 := hw.2.2.2.2.2.1 k.toNat (by omega)
  have h2 := hq.2.2.2.2.2.1 k.toNat (by omega)
  rw [show ((k.toNat : Nat) : Int) = k by omega] at h1 h2
  rw [h1, h2, hwb, turn_kAll, hs.kAllE]
theorem s_wa_none {n : Nat} (hn : 1000 ≤ n) {q w : BX3} {b : BX2} (hq : Pq q) (hw : Pq w) (hs : Same (pX3_street q) b) (hwb : pX3_street w = mTurn b) (hb : S2 b) {p : Int} (p0 : 0 ≤ p) (p1 : p < pX2_pitches b) : ∃ r, g_X3_worthAround n q p (p + 1) (-1) (pX2_covers b) w = some r ∧ (0 ≤ r ∧ r ≤ 3000000) ∧ IsW b p 0 (p + 1) 0 (-1) (pX2_covers b) r := by
  have hT := hb.tra
  have hcv := hb.cov
  have hP := hb.pit
  have sb := sets_b hb
  have hK := hq.aq.1.2.2.1
  obtain ⟨tk1, tk2⟩ := turn_kinds hq hw hs hwb
  obtain ⟨r, j1, j2, j3, j4, j5⟩ := s_wa60 n hn hq hw hs hwb hb (st := p) (en := p + 1) (sp := pX2_covers b) (busy := 0) (lk := 0) (rk := 0) (by omega) (by omega) hcv.1 (Int.le_refl _) (by omega) (by omega) (fun g g0 g1 => by rw [(and_0 g0 (by omega)).2]; exact ⟨g0, g1⟩) n 0 0 (by omega) (by omega) (by omega) (by omega) (by omega)
  unfold g_X3_worthAround g_X3_worthAround_12 g_X3_worthAround_32 g_X3_worthAround_52
  rw [if_pos rfl, if_pos rfl, if_pos rfl, j1]
  refine ⟨r, rfl, ⟨j2, j3⟩, ?_⟩
  rw [tk2 0 (by omega) (by omega), hq.aq.2.2.2.1] at j4 j5
  refine isW_of hb (busy := 0) ⟨p0, by omega⟩ (by omega) hcv.1 (.inl rfl) (fun g u g0 g1 u0 u1 => ?_) (fun g g0 g1 => ?_) (fun g c g0 g1 gb c0 c1 => j4 g c g0 g1 gb c0 c1) ?_
  · rw [(and_0 g0 (by omega)).2]
    exact ⟨.inl, fun h => h.elim id (fun h => by omega)⟩
  · exact ⟨fun _ => .inl rfl, fun _ => (and_0 g0 (by omega)).1⟩
  · rcases j5 with j5 | ⟨g, c, k1, k2, k3, k4, k5, k6⟩
    · refine ⟨0, 0, by omega, by omega, (and_0 (by omega) (by omega)).1, by omega, hcv.1, ?_⟩
      have h1 := j4 0 0 (by omega) (by omega) (and_0 (by omega) (by omega)).1 (by omega) hcv.1
      have o1 := opt_r (W2_turn hb).s (p := pX2_pitches b - p) (zShl 1 (pX2_traders b) - 1 - 0) 0 0 (by omega)
      have o2 := opt_r hb (p := p + 1) (zOr 0 0) 0 (pX2_covers b - 0) (by omega)
      unfold VW at h1 ⊢
      omega
    · exact ⟨g, c, k1, k2, k3, k4, k5, k6⟩
theorem s_wa_some {n : Nat} (hn : 1000 ≤ n) {q w : BX3} {b : BX2} (hq : Pq q) (hw : Pq w) (hs : Same (pX3_street q) b) (hwb : pX3_street w = mTurn b) (hb : S2 b) {t s sp : Int} (t0 : 0 ≤ t) (t1 : t < pX2_traders b) (hr : mInRow b t s) (sp0 : 0 ≤ sp) (sp1 : sp ≤ pX2_covers b) : ∃ r, g_X3_worthAround n q s (s + pX2_fronts b t) t sp w = some r ∧ (0 ≤ r ∧ r ≤ 3000000) ∧ IsW b s (mAhead b t s) (s + pX2_fronts b t) (mBehind b t s) t sp r := by
  have hT := hb.tra
  have hcv := hb.cov
  have hP := hb.pit
  have sb := sets_b hb
  have hK := hq.aq.1.2.2.1
  have hl := mInRow_lt hr
  obtain ⟨tk1, tk2⟩ := turn_kinds hq hw hs hwb
  obtain ⟨lk, a1, a2, a3⟩ := s_X3_kindBeside hq.aq (t := t) (s - 1) s t0 (by rw [hs.2.2.2.2.1]; exact t1)
  obtain ⟨rk, b1, b2, b3⟩ := s_X3_kindBeside hq.aq (t := t) (s + pX2_fronts b t - 1) (s + pX2_fronts b t) t0 (by rw [hs.2.2.2.2.1]; exact t1)
  have hfr := hb.fr t0 t1
  obtain ⟨r, j1, j2, j3, j4, j5⟩ := s_wa60 n hn hq hw hs hwb hb (st := s) (en := s + pX2_fronts b t) (sp := sp) (busy := zShl 1 t) (lk := lk) (rk := rk) (by omega) (by omega) sp0 sp1 (by omega) b2 (fun g g0 g1 => or_lt hT ⟨g0, g1⟩ ⟨t0, t1⟩) n 0 0 (by omega) (by omega) (by omega) (by omega) (by omega)
  unfold g_X3_worthAround g_X3_worthAround_12 g_X3_worthAround_32 g_X3_worthAround_52
  rw [if_neg (by omega), if_neg (by omega), oR_ok (by omega) (by omega), a1, oB_some, if_neg (by omega), oR_ok (by omega) (by omega), b1, oB_some, j1]
  refine ⟨r, rfl, ⟨j2, j3⟩, ?_⟩
  have z1 : pX3_barred w lk = mAhead b t s := by
    rw [tk2 lk a2.1 a2.2, a3, hs.foe]
    exact cif_congr (hs.share _ _)
  have z2 : pX3_barred q rk = mBehind b t s := by
    rw [b3, hs.foe]
    exact cif_congr (hs.share _ _)
  rw [z1, z2] at j4 j5
  refine isW_of hb (busy := zShl 1 t) ⟨hl.1, by omega⟩ (by omega) sp0 (.inr ⟨t0, t1⟩) (fun g u g0 g1 u0 u1 => zbit_or t0 (by omega) u0 (by omega)) (fun g g0 g1 => ?_) (fun g c g0 g1 gb c0 c1 => j4 g c g0 g1 gb c0 c1) ?_
  · rw [and_1 g0 (by omega) t0 (by omega)]
    exact ⟨.inr, fun h => h.elim (fun h => by omega) id⟩
  · rcases j5 with j5 | ⟨g, c, k1, k2, k3, k4, k5, k6⟩
    · have hz : zAnd 0 (zShl 1 t) = 0 := (and_1 (by omega) (by omega) t0 (by omega)).2 (zbit_0 t0 (by omega))
      refine ⟨0, 0, by omega, by omega, hz, by omega, sp0, ?_⟩
      have h1 := j4 0 0 (by omega) (by omega) hz (by omega) sp0
      have o1 := opt_r (W2_turn hb).s (p := pX2_pitches b - s) (zShl 1 (pX2_traders b) - 1 - 0) (mAhead b t s) 0 (by omega)
      have o2 := opt_r hb (p := s + pX2_fronts b t) (zOr 0 (zShl 1 t)) (mBehind b t s) (sp - 0) (by omega)
      unfold VW at h1 ⊢
      omega
    · exact ⟨g, c, k1, k2, k3, k4, k5, k6⟩
