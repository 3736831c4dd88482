/-! bestIncome, coverValue, contribution. -/
theorem Same.pos {a b : BX2} (h : Same a b) (t p : Int) : mPos a t p ↔ mPos b t p := by
  unfold mPos; rw [h.inRow, h.rent, h.2.2.2.2.2.2.2.1]
theorem Same.foeF {a b : BX2} (h : Same a b) (t : Int) : ∀ k : Nat, foeF a t k = foeF b t k := by
  intro k
  induction k with
  | zero => rfl
  | succ k ih =>
    rw [foeF.eq_2, foeF.eq_2, ih]
    exact cif_congr (by rw [h.clash])
theorem Same.foe {a b : BX2} (h : Same a b) (t : Int) : foeV a t = foeV b t := by
  unfold foeV; rw [h.2.2.2.2.1]; exact h.foeF t _
theorem Same.behind {a b : BX2} (h : Same a b) (t p : Int) : mBehind a t p = mBehind b t p := by
  unfold mBehind
  rw [h.foe, h.2.2.2.2.2.2.1]
  exact cif_congr (h.share _ _)
theorem Same.Opt {a b : BX2} (h : Same a b) : ∀ (d : Nat) (p u z l : Int), Opt a d p u z l = Opt b d p u z l := by
  intro d
  induction d with
  | zero => intro p u z l; rfl
  | succ d ih =>
    intro p u z l
    rw [Opt.eq_2, Opt.eq_2, h.1, h.2.2.2.2.1, ih]
    by_cases hc : pX2_pitches b ≤ p
    · rw [if_pos hc, if_pos hc]
    · rw [if_neg hc, if_neg hc]
      refine zmx_congr rfl _ (fun t _ _ => ?_)
      rw [ih, h.rent, h.behind, h.for, h.2.2.2.2.2.2.1]
      exact cif_congr (by rw [h.pos])
theorem Same.optE {a b : BX2} (h : Same a b) (p u z l : Int) : opt a p u z l = opt b p u z l := by
  unfold opt; rw [h.1]; exact h.Opt _ _ _ _ _
theorem leftN_le {b : BX2} (hb : S2 b) (u : Int) : leftN b u ≤ zr (sNeed b) 0 (pX2_traders b) := by
  unfold leftN
  apply zr_mono
  intro i i0 i1
  have := sNeed_b hb i0 i1
  by_cases h : zbit u i
  · simp only [cif_pos h]; omega
  · simp only [cif_neg h]; omega
theorem s_X3_incomeWithout {q : BX3} (h : Pq q) {g c : Int} (hg : 0 ≤ g ∧ g < pX3_sets q) (c0 : 0 ≤ c) (c1 : c ≤ pX2_covers (pX3_street q) + 1) : g_X3_incomeWithout q g c = some (opt (pX3_street q) 0 g 0 c / 16) := by
  obtain ⟨⟨hs, hN0, hN1⟩, e1, e2, e3, e4, e5, e6, e7, e8⟩ := h
  have hp := hs.pit
  have sb := sets_b hs
  have kb := kinds_b hs
  have lb := lev_b hs
  have hTq : Tq q := by
    refine ⟨hs, ?_, ?_, ?_, e4, hN1⟩
    · rw [e1]; exact sb
    · rw [e2]; exact kb
    · rw [e3]; exact lb
  have hcv := hs.cov
  have hmin : 0 ≤ min c (pX3_levels q - 1) ∧ min c (pX3_levels q - 1) < pX3_levels q := by rw [e3]; omega
  have hix := hTq.ix (p := 0) (g := g) (k := 0) (l := min c (pX3_levels q - 1)) (by omega) hg (by rw [e2]; omega) hmin
  unfold tix at hix
  unfold g_X3_incomeWithout g_X3_level
  rw [s_X3_cell hTq (by omega) hg (by rw [e2]; omega), oB_some, oR_ok (by rw [e3]; omega) (by rw [e3]; omega), oB_some, qA_ok hix.1 hix.2 (by omega), e8 0 g 0 _ (by omega) (by omega) hg.1 hg.2 (by omega) (by rw [e2]; omega) hmin.1 hmin.2]
  have hb0 : pX3_barred q 0 = 0 := by
    have := e5 0 (by rw [e2]; omega)
    rw [kAll, kList_0] at this
    exact this
  have hsat : opt (pX3_street q) 0 g 0 (min c (pX3_levels q - 1)) = opt (pX3_street q) 0 g 0 c := by
    by_cases hle : c ≤ pX3_levels q - 1
    · rw [Int.min_eq_left hle]
    · have hl := leftN_le hs g
      have : pX3_levels q - 1 = zr (sNeed (pX3_street q)) 0 (pX2_traders (pX3_street q)) := by
        rw [e3] at hle ⊢
        unfold sLev at hle ⊢
        omega
      exact opt_sat hs 24 0 g 0 _ _ (by omega) (by omega) (by omega) (by omega)
  have hop := opt_r hs (p := 0) g 0 c (by omega)
  rw [hb0, hsat, qD_ok hop.1 (by omega), oR_ok (by omega) (by omega)]
def Bud (N : Int) (b : BX2) (bb : Nat) : Prop := pSize b ≤ N ∨ newN N b ≤ (bb : Int)
theorem prep {n : Nat} (hn : 20000 ≤ n) (bb : Nat) {x : BX5} {m : BX6} (I : Inv x m) (hB : Bud (pX3_tableN (pX5_planner x)) (pX5_market x) bb) : ∃ x', g_X5_preparePlan n bb x = some (0, x') ∧ Inv x' m ∧ Pq (pX5_planner x') ∧ Same (pX3_street (pX5_planner x')) (pX5_market x) ∧ pX5_market x' = pX5_market x ∧ pX5_draft x' = pX5_draft x ∧ pX5_trialPlanner x' = pX5_trialPlanner x ∧ pX5_history x' = pX5_history x ∧ pX5_planned x' = 1 ∧
    pX3_tableN (pX5_planner x') = (if pX5_planned x = 0 then newN (pX3_tableN (pX5_planner x)) (pX5_market x) else pX3_tableN (pX5_planner x)) := by
  obtain ⟨h1, h2, h3⟩ := I.2.2.2.2.2.1
  unfold g_X5_preparePlan
  by_cases hp : pX5_planned x = 0
  · obtain ⟨q', g1, g2, g3, g4⟩ := s_X3_plan hn h1 I.s bb hB
    rw [if_pos hp, if_pos hp, g1, oB2_some, if_pos rfl]
    refine ⟨_, rfl, ?_, ?_, ?_, ?_, ?_, ?_, ?_, ?_, ?_⟩
    · refine Inv_x I ?_ ?_ ?_ ?_ ?_ ?_ ?_ ?_
      · rw [eX5_market_planned, eX5_market_planner]
      · rw [eX5_history_planned, eX5_history_planner]
      · rw [eX5_draft_planned, eX5_draft_planner]; exact I.2.2.1
      · rw [eX5_text_planned, eX5_text_planner]
      · rw [eX5_textLength_planned, eX5_textLength_planner]
      · rw [eX5_errorAt_planned, eX5_errorAt_planner]
      · unfold PX
        rw [eX5_planner_planned, eX5_planner_planner, eX5_trialPlanner_planned, eX5_trialPlanner_planner, eX5_planned_planned, eX5_market_planned, eX5_market_planner]
        exact ⟨g2.1, h2, .inr ⟨rfl, g2, by rw [g3]; exact Same.rfl' _⟩⟩
      · refine IX_same I.2.2.2.2.2.2 ?_
        rw [eX5_insertion_planned, eX5_insertion_planner]
    · rw [eX5_planner_planned, eX5_planner_planner]; exact g2
    · rw [eX5_planner_planned, eX5_planner_planner, g3]; exact Same.rfl' _
    · rw [eX5_market_planned, eX5_market_planner]
    · rw [eX5_draft_planned, eX5_draft_planner]
    · rw [eX5_trialPlanner_planned, eX5_trialPlanner_planner]
    · rw [eX5_history_planned, eX5_history_planner]
    · rw [eX5_planned_planned]
    · rw [eX5_planner_planned, eX5_planner_planner, g4]
  · rw [if_neg hp, if_neg hp]
    rcases h3 with h | ⟨h4, h5, h6⟩
    · exact absurd h hp
    · exact ⟨x, rfl, I, h5, h6, rfl, rfl, rfl, rfl, h4, rfl⟩
theorem op_bestIncome {n : Nat} (hn : 20000 ≤ n) (bb : Nat) {x : BX5} {m : BX6} (I : Inv x m) (hB : Bud (pX3_tableN (pX5_planner x)) (pX5_market x) bb) : ∃ v x' w m', g_X5_bestIncome n bb x = some (0, v, x') ∧ g_X6_bestIncome n m = some (w, m') ∧ v = w ∧ Inv x' m' ∧ pX5_trialPlanner x' = pX5_trialPlanner x ∧ pX3_tableN (pX5_planner x') = (if pX5_planned x = 0 then newN (pX3_tableN (pX5_planner x)) (pX5_market x) else pX3_tableN (pX5_planner x)) := by
  have hc := I.s.cov
  obtain ⟨x', g1, g2, g3, g4, g5, g6, g7, g8, g9, g10⟩ := prep hn bb I hB
  unfold g_X5_bestIncome g_X6_bestIncome
  have hcv : pX2_covers (pX3_street (pX5_planner x')) = pX2_covers (pX5_market x) := g4.2.2.2.2.2.2.2.2.2.2
  have hset := sets_b g3.1.1
  obtain ⟨r', p1, p2, p3, p4⟩ := s_X6_plans (n := n) (by omega) I.s (r := sX6_thrown m 0) (by rw [eX6_a_thrown]; exact I.r) (c := pX2_covers (pX5_market x)) hc.1 (by omega)
  rw [g1, oB2_some, if_pos rfl, g5, s_X3_incomeWithout g3 (by rw [g3.2.1]; omega) hc.1 (by omega), oB_some, qA_ok (by omega) (by omega) (by omega), I.r.cov, p1, oB2_some, g4.optE]
  refine ⟨_, _, _, _, rfl, rfl, rfl, ?_, g7, g10⟩
  have IT := Inv_t g2 0
  exact Inv_m IT p2.1 p2.2.1 p2.2.2.1 p2.2.2.2.1 p2.2.2.2.2.1 p2.2.2.2.2.2.1
theorem op_coverValue {n : Nat} (hn : 20000 ≤ n) (bb : Nat) {x : BX5} {m : BX6} (I : Inv x m) (hB : Bud (pX3_tableN (pX5_planner x)) (pX5_market x) bb) : ∃ v x' w m', g_X5_coverValue n bb x = some (0, v, x') ∧ g_X6_coverValue n m = some (w, m') ∧ v = w ∧ Inv x' m' ∧ pX5_trialPlanner x' = pX5_trialPlanner x ∧ pX3_tableN (pX5_planner x') = (if pX5_planned x = 0 then newN (pX3_tableN (pX5_planner x)) (pX5_market x) else pX3_tableN (pX5_planner x)) := by
  have hc := I.s.cov
  have hp := I.s.pit
  obtain ⟨x', g1, g2, g3, g4, g5, g6, g7, g8, g9, g10⟩ := prep hn bb I hB
  unfold g_X5_coverValue g_X6_coverValue
  have hcv : pX2_covers (pX3_street (pX5_planner x')) = pX2_covers (pX5_market x) := g4.2.2.2.2.2.2.2.2.2.2
  have hset := sets_b g3.1.1
  obtain ⟨r1, p1, p2, p3, p4⟩ := s_X6_plans (n := n) (by omega) I.s (r := sX6_thrown m 0) (by rw [eX6_a_thrown]; exact I.r) (c := pX2_covers (pX5_market x)) hc.1 (by omega)
  have R1 : Rl (pX5_market x) (pX6_a r1) := by rw [p2.1, eX6_a_thrown]; exact I.r
  obtain ⟨r2, q1, q2, q3, q4⟩ := s_X6_plans (n := n) (by omega) I.s (r := r1) R1 (c := pX2_covers (pX5_market x) + 1) (by omega) (by omega)
  have o1 := opt_r I.s (p := 0) 0 0 (pX2_covers (pX5_market x)) (by omega)
  have o2 := opt_r I.s (p := 0) 0 0 (pX2_covers (pX5_market x) + 1) (by omega)
  rw [g1, oB2_some, if_pos rfl, g5, oR_ok (by omega) (by omega), s_X3_incomeWithout g3 (by rw [g3.2.1]; omega) (by omega) (by omega), oB_some, s_X3_incomeWithout g3 (by rw [g3.2.1]; omega) hc.1 (by omega), oB_some, g4.optE, g4.optE, oR_ok (by omega) (by omega), qA_ok (by omega) (by omega) (by omega), I.r.cov, p1, oB2_some, qA_ok (by omega) (by omega) (by omega), R1.cov, oR_ok (by omega) (by omega), q1, oB2_some, oR_ok (by omega) (by omega)]
  refine ⟨_, _, _, _, rfl, rfl, rfl, ?_, g7, g10⟩
  have IT := Inv_t g2 0
  have hf := p2.trans q2
  exact Inv_m IT hf.1 hf.2.1 hf.2.2.1 hf.2.2.2.1 hf.2.2.2.2.1 hf.2.2.2.2.2.1
