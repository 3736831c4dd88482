/-! append -/
theorem ofI_ushr (a b : Int) : Int32.ofInt (zUshr a b) = ((Int32.ofInt a).toUInt32 >>> ((Int32.ofInt b).toUInt32 &&& Int32.toUInt32 31)).toInt32 := Int32.ofInt_toInt _
theorem zUshr_255 {v k : Int} (h0 : 0 ≤ k) (h1 : k ≤ 24) : zAnd (zUshr v k) 255 = zAnd (zShr v k) 255 := by
  apply i32_inj
  · apply zt_ext
    intro i hi
    rw [zt_and, zt_and]
    have e255 : zt 255 i = decide (i < 8) := b_255 i
    rw [e255]
    by_cases h8 : i < 8
    · have a1 : zt (zUshr v k) i = zt v (k.toNat + i) := by
        unfold zt; rw [ofI_ushr, ofI_nat h0, b_ushr _ (by omega)]
      have a2 : zt (zShr v k) i = zt v (k.toNat + i) := by
        unfold zt; rw [ofI_shr, ofI_nat h0, b_sshr _ (by omega) _ hi, if_pos (by omega)]
      rw [a1, a2]
    · simp [h8]
  · exact zAnd_rng _ _
  · exact zAnd_rng _ _
theorem zAnd_255 (v : Int) : 0 ≤ zAnd v 255 ∧ zAnd v 255 ≤ 255 := by
  have h := zt_lt (x := Int32.ofInt v &&& Int32.ofInt 255) (m := 8) (by omega) (fun i h1 h2 => by
    rw [b_and]
    have e255 : bt (Int32.ofInt 255) i = decide (i < 8) := b_255 i
    rw [e255]
    have : ¬ i < 8 := by omega
    simp [this])
  have e : (2 : Int) ^ 8 = 256 := by decide
  rw [e] at h
  show 0 ≤ (Int32.ofInt v &&& Int32.ofInt 255).toInt ∧ (Int32.ofInt v &&& Int32.ofInt 255).toInt ≤ 255
  omega
def byteOf (v k : Int) : Int := zAnd (zShr v (24 - 8 * k)) 255
def Rest5 (x y : BX5) : Prop := pX5_errorAt y = pX5_errorAt x ∧ pX5_reader y = pX5_reader x ∧ pX5_market y = pX5_market x ∧ pX5_draft y = pX5_draft x ∧ pX5_history y = pX5_history x ∧ pX5_planner y = pX5_planner x ∧ pX5_trialPlanner y = pX5_trialPlanner x ∧ pX5_insertion y = pX5_insertion x ∧ pX5_queue y = pX5_queue x ∧ pX5_planned y = pX5_planned x
theorem Rest5.trans {x y z : BX5} (h : Rest5 x y) (k : Rest5 y z) : Rest5 x z := by
  obtain ⟨a1, a2, a3, a4, a5, a6, a7, a8, a9, a10⟩ := h
  obtain ⟨b1, b2, b3, b4, b5, b6, b7, b8, b9, b10⟩ := k
  exact ⟨b1.trans a1, b2.trans a2, b3.trans a3, b4.trans a4, b5.trans a5, b6.trans a6, b7.trans a7, b8.trans a8, b9.trans a9, b10.trans a10⟩
theorem s_X5_appendFour_3 (n : Nat) (v : Int) : ∀ (fu : Nat) (k : Int) (x : BX5), 0 ≤ k → k ≤ 4 → 4 - k < fu → 0 ≤ pX5_textLength x → pX5_textLength x + (4 - k) ≤ 600 →
    ∃ y, g_X5_appendFour_3 n fu v (24 - 8 * k) x = some y ∧ pX5_textLength y = pX5_textLength x + (4 - k) ∧ (∀ i, pX5_text y i = if pX5_textLength x ≤ i ∧ i < pX5_textLength x + (4 - k) then byteOf v (i - pX5_textLength x + k) else pX5_text x i) ∧ Rest5 x y := by
  intro fu
  induction fu with
  | zero => intro k x _ _ h0; omega
  | succ fu ih =>
    intro k x k0 k1 hf l0 l1
    rw [g_X5_appendFour_3.eq_2]
    by_cases hk : k = 4
    · rw [if_pos (by omega)]
      refine ⟨x, rfl, by omega, ?_, rfl, rfl, rfl, rfl, rfl, rfl, rfl, rfl, rfl, rfl⟩
      intro i; rw [if_neg (by omega)]
    · rw [if_neg (by omega), if_neg (by omega), qA_ok l0 (by omega) (by omega), oL_def, oR_ok (by omega) (by omega), oL_def, oR_ok (by omega) (by omega), zUshr_255 (by omega) (by omega), show 24 - 8 * k + -8 = 24 - 8 * (k + 1) by omega]
      have e1 : pX5_textLength (sX5_textLength (sX5_text x (updZ (pX5_text x) (pX5_textLength x) (zAnd (zShr v (24 - 8 * k)) 255))) (pX5_textLength x + 1)) = pX5_textLength x + 1 := eX5_textLength_textLength _ _
      obtain ⟨y, h1, h2, h3, h4⟩ := ih (k + 1) (sX5_textLength (sX5_text x (updZ (pX5_text x) (pX5_textLength x) (zAnd (zShr v (24 - 8 * k)) 255))) (pX5_textLength x + 1)) (by omega) (by omega) (by omega) (by rw [e1]; omega) (by rw [e1]; omega)
      rw [e1] at h2 h3
      refine ⟨y, h1, by omega, ?_, ?_⟩
      · intro i
        rw [h3 i, eX5_text_textLength, eX5_text_text, updZ_app]
        by_cases c1 : i = pX5_textLength x
        · rw [if_neg (by omega), if_pos c1, if_pos (by omega)]
          unfold byteOf
          rw [show i - pX5_textLength x + k = k by omega]
        · rw [if_neg c1]
          by_cases c2 : pX5_textLength x + 1 ≤ i ∧ i < pX5_textLength x + 1 + (4 - (k + 1))
          · rw [if_pos c2, if_pos (by omega), show i - (pX5_textLength x + 1) + (k + 1) = i - pX5_textLength x + k by omega]
          · rw [if_neg c2, if_neg (by omega)]
      · refine Rest5.trans ?_ h4
        unfold Rest5
        simp only [eX5_text_text, eX5_text_textLength, eX5_text_errorAt, eX5_text_reader, eX5_text_market, eX5_text_draft, eX5_text_history, eX5_text_planner, eX5_text_trialPlanner, eX5_text_insertion, eX5_text_queue, eX5_text_planned, eX5_textLength_text, eX5_textLength_textLength, eX5_textLength_errorAt, eX5_textLength_reader, eX5_textLength_market, eX5_textLength_draft, eX5_textLength_history, eX5_textLength_planner, eX5_textLength_trialPlanner, eX5_textLength_insertion, eX5_textLength_queue, eX5_textLength_planned, eX5_errorAt_text, eX5_errorAt_textLength, eX5_errorAt_errorAt, eX5_errorAt_reader, eX5_errorAt_market, eX5_errorAt_draft, eX5_errorAt_history, eX5_errorAt_planner, eX5_errorAt_trialPlanner, eX5_errorAt_insertion, eX5_errorAt_queue, eX5_errorAt_planned, eX5_reader_text, eX5_reader_textLength, eX5_reader_errorAt, eX5_reader_reader, eX5_reader_market, eX5_reader_draft, eX5_reader_history, eX5_reader_planner, eX5_reader_trialPlanner, eX5_reader_insertion, eX5_reader_queue, eX5_reader_planned, eX5_market_text, eX5_market_textLength, eX5_market_errorAt, eX5_market_reader, eX5_market_market, eX5_market_draft, eX5_market_history, eX5_market_planner, eX5_market_trialPlanner, eX5_market_insertion, eX5_market_queue, eX5_market_planned, eX5_draft_text, eX5_draft_textLength, eX5_draft_errorAt, eX5_draft_reader, eX5_draft_market, eX5_draft_draft, eX5_draft_history, eX5_draft_planner, eX5_draft_trialPlanner, eX5_draft_insertion, eX5_draft_queue, eX5_draft_planned, eX5_history_text, eX5_history_textLength, eX5_history_errorAt, eX5_history_reader, eX5_history_market, eX5_history_draft, eX5_history_history, eX5_history_planner, eX5_history_trialPlanner, eX5_history_insertion, eX5_history_queue, eX5_history_planned, eX5_planner_text, eX5_planner_textLength, eX5_planner_errorAt, eX5_planner_reader, eX5_planner_market, eX5_planner_draft, eX5_planner_history, eX5_planner_planner, eX5_planner_trialPlanner, eX5_planner_insertion, eX5_planner_queue, eX5_planner_planned, eX5_trialPlanner_text, eX5_trialPlanner_textLength, eX5_trialPlanner_errorAt, eX5_trialPlanner_reader, eX5_trialPlanner_market, eX5_trialPlanner_draft, eX5_trialPlanner_history, eX5_trialPlanner_planner, eX5_trialPlanner_trialPlanner, eX5_trialPlanner_insertion, eX5_trialPlanner_queue, eX5_trialPlanner_planned, eX5_insertion_text, eX5_insertion_textLength, eX5_insertion_errorAt, eX5_insertion_reader, eX5_insertion_market, eX5_insertion_draft, eX5_insertion_history, eX5_insertion_planner, eX5_insertion_trialPlanner, eX5_insertion_insertion, eX5_insertion_queue, eX5_insertion_planned, eX5_queue_text, eX5_queue_textLength, eX5_queue_errorAt, eX5_queue_reader, eX5_queue_market, eX5_queue_draft, eX5_queue_history, eX5_queue_planner, eX5_queue_trialPlanner, eX5_queue_insertion, eX5_queue_queue, eX5_queue_planned, eX5_planned_text, eX5_planned_textLength, eX5_planned_errorAt, eX5_planned_reader, eX5_planned_market, eX5_planned_draft, eX5_planned_history, eX5_planned_planner, eX5_planned_trialPlanner, eX5_planned_insertion, eX5_planned_queue, eX5_planned_planned]
        exact ⟨trivial, trivial, trivial, trivial, trivial, trivial, trivial, trivial, trivial, trivial⟩
theorem s_X5_appendFour {n : Nat} (hn : 100 ≤ n) (v : Int) {x : BX5} (l0 : 0 ≤ pX5_textLength x) (l1 : pX5_textLength x + 4 ≤ 600) :
    ∃ y, g_X5_appendFour n x v = some y ∧ pX5_textLength y = pX5_textLength x + 4 ∧ (∀ i, pX5_text y i = if pX5_textLength x ≤ i ∧ i < pX5_textLength x + 4 then byteOf v (i - pX5_textLength x) else pX5_text x i) ∧ Rest5 x y := by
  unfold g_X5_appendFour
  obtain ⟨y, h1, h2, h3, h4⟩ := s_X5_appendFour_3 n v n 0 x (by omega) (by omega) (by omega) l0 (by omega)
  refine ⟨y, h1, by omega, ?_, h4⟩
  intro i
  rw [h3 i]
  simp only [Int.sub_zero, Int.add_zero]
def argOf (v0 v1 v2 v3 v4 k : Int) : Int := if k < 4 then v0 else if k < 8 then v1 else if k < 12 then v2 else if k < 16 then v3 else v4
theorem s_X6_append_34 (n : Nat) (v0 v1 v2 v3 v4 : Int) : ∀ (fu : Nat) (k : Int) (r : BX6), 0 ≤ k → k ≤ 20 → 20 - k < fu → 0 ≤ pX6_buffered r → pX6_buffered r + (20 - k) ≤ 600 →
    ∃ r', g_X6_append_34 n fu v0 v1 v2 v3 v4 k r = some (pX6_buffered r + (20 - k), r') ∧ pX6_buffered r' = pX6_buffered r + (20 - k) ∧ (∀ i, pX6_buffer r' i = if pX6_buffered r ≤ i ∧ i < pX6_buffered r + (20 - k) then byteOf (argOf v0 v1 v2 v3 v4 (i - pX6_buffered r + k)) ((i - pX6_buffered r + k) % 4) else pX6_buffer r i) ∧
      pX6_a r' = pX6_a r ∧ pX6_kept r' = pX6_kept r ∧ pX6_keptMany r' = pX6_keptMany r ∧ pX6_errorAt r' = pX6_errorAt r ∧ pX6_thrown r' = pX6_thrown r := by
  intro fu
  induction fu with
  | zero => intro k x _ _ h0; omega
  | succ fu ih =>
    intro k r k0 k1 hf l0 l1
    rw [g_X6_append_34.eq_2]
    by_cases hk : k = 20
    · rw [if_pos (by omega)]
      refine ⟨r, by rw [hk]; simp, by omega, ?_, rfl, rfl, rfl, rfl, rfl⟩
      intro i; rw [if_neg (by omega)]
    · have key : ∀ t0, t0 = argOf v0 v1 v2 v3 v4 k → ∃ r', g_X6_append_87 n (g_X6_append_34 n fu) t0 v0 v1 v2 v3 v4 k r = some (pX6_buffered r + (20 - k), r') ∧ pX6_buffered r' = pX6_buffered r + (20 - k) ∧ (∀ i, pX6_buffer r' i = if pX6_buffered r ≤ i ∧ i < pX6_buffered r + (20 - k) then byteOf (argOf v0 v1 v2 v3 v4 (i - pX6_buffered r + k)) ((i - pX6_buffered r + k) % 4) else pX6_buffer r i) ∧ pX6_a r' = pX6_a r ∧ pX6_kept r' = pX6_kept r ∧ pX6_keptMany r' = pX6_keptMany r ∧ pX6_errorAt r' = pX6_errorAt r ∧ pX6_thrown r' = pX6_thrown r := by
        intro t0 ht0
        unfold g_X6_append_87
        rw [qA_ok l0 (by omega) (by omega), qD_ok k0 (by omega), oR_ok (by omega) (by omega), oL_def, oR_ok (by omega) (by omega), oL_def, oR_ok (by omega) (by omega)]
        have e1 : pX6_buffered (sX6_buffered (sX6_buffer r (updZ (pX6_buffer r) (pX6_buffered r) (zAnd (zShr t0 (24 - 8 * (k % 4))) 255))) (pX6_buffered r + 1)) = pX6_buffered r + 1 := eX6_buffered_buffered _ _
        obtain ⟨r', h1, h2, h3, h4, h5, h6, h7, h8⟩ := ih (k + 1) (sX6_buffered (sX6_buffer r (updZ (pX6_buffer r) (pX6_buffered r) (zAnd (zShr t0 (24 - 8 * (k % 4))) 255))) (pX6_buffered r + 1)) (by omega) (by omega) (by omega) (by rw [e1]; omega) (by rw [e1]; omega)
        rw [e1] at h1 h2 h3
        refine ⟨r', ?_, by omega, ?_, ?_, ?_, ?_, ?_, ?_⟩
        · rw [h1, show pX6_buffered r + 1 + (20 - (k + 1)) = pX6_buffered r + (20 - k) by omega]
        · intro i
          rw [h3 i, eX6_buffer_buffered, eX6_buffer_buffer, updZ_app]
          by_cases c1 : i = pX6_buffered r
          · rw [if_neg (by omega), if_pos c1, if_pos (by omega), show i - pX6_buffered r + k = k by omega, ht0]
            rfl
          · rw [if_neg c1]
            by_cases c2 : pX6_buffered r + 1 ≤ i ∧ i < pX6_buffered r + 1 + (20 - (k + 1))
            · rw [if_pos c2, if_pos (by omega), show i - (pX6_buffered r + 1) + (k + 1) = i - pX6_buffered r + k by omega]
            · rw [if_neg c2, if_neg (by omega)]
        · rw [h4, eX6_a_buffered, eX6_a_buffer]
        · rw [h5, eX6_kept_buffered, eX6_kept_buffer]
        · rw [h6, eX6_keptMany_buffered, eX6_keptMany_buffer]
        · rw [h7, eX6_errorAt_buffered, eX6_errorAt_buffer]
        · rw [h8, eX6_thrown_buffered, eX6_thrown_buffer]
      rw [if_neg (by omega)]
      by_cases c1 : 4 ≤ k
      · rw [if_pos c1]
        by_cases c2 : 8 ≤ k
        · rw [if_pos c2]
          by_cases c3 : 12 ≤ k
          · rw [if_pos c3]
            by_cases c4 : 16 ≤ k
            · rw [if_pos c4]; exact key v4 (by unfold argOf; rw [if_neg (by omega), if_neg (by omega), if_neg (by omega), if_neg (by omega)])
            · rw [if_neg c4]; exact key v3 (by unfold argOf; rw [if_neg (by omega), if_neg (by omega), if_neg (by omega), if_pos (by omega)])
          · rw [if_neg c3]; exact key v2 (by unfold argOf; rw [if_neg (by omega), if_neg (by omega), if_pos (by omega)])
        · rw [if_neg c2]; exact key v1 (by unfold argOf; rw [if_neg (by omega), if_pos (by omega)])
      · rw [if_neg c1]; exact key v0 (by unfold argOf; rw [if_pos (by omega)])
theorem op_append {n : Nat} (hn : 1000 ≤ n) {x : BX5} {m : BX6} (I : Inv x m) (v0 v1 v2 v3 v4 : Int) : ∃ cd v x' w m', g_X5_append n x v0 v1 v2 v3 v4 = some (cd, v, x') ∧ g_X6_append n m v0 v1 v2 v3 v4 = some (w, m') ∧ ok1 3 cd v w (pX6_thrown m') ∧ Inv x' m' := by
  obtain ⟨t1, t2, t3, t4⟩ := I.2.2.2.1
  unfold g_X5_append g_X6_append g_X6_append_19
  rw [oR_ok (by omega) (by omega), ← t1, oR_ok (by omega) (by omega)]
  by_cases h : pX5_textLength x + 20 ≤ 600
  · obtain ⟨y1, a1, b1, c1, d1⟩ := s_X5_appendFour (n := n) (by omega) v0 (x := x) t2 (by omega)
    obtain ⟨y2, a2, b2, c2, d2⟩ := s_X5_appendFour (n := n) (by omega) v1 (x := y1) (by omega) (by omega)
    obtain ⟨y3, a3, b3, c3, d3⟩ := s_X5_appendFour (n := n) (by omega) v2 (x := y2) (by omega) (by omega)
    obtain ⟨y4, a4, b4, c4, d4⟩ := s_X5_appendFour (n := n) (by omega) v3 (x := y3) (by omega) (by omega)
    obtain ⟨y5, a5, b5, c5, d5⟩ := s_X5_appendFour (n := n) (by omega) v4 (x := y4) (by omega) (by omega)
    have e0 : pX6_buffered (sX6_thrown m 0) = pX6_buffered m := eX6_buffered_thrown _ _
    obtain ⟨r', f1, f2, f3, f4, f5, f6, f7, f8⟩ := s_X6_append_34 n v0 v1 v2 v3 v4 n 0 (sX6_thrown m 0) (by omega) (by omega) (by omega) (by rw [e0]; omega) (by rw [e0]; omega)
    rw [if_pos h, a1, oB_some, a2, oB_some, a3, oB_some, a4, oB_some, a5, oB_some, if_pos h, if_pos (by omega), f1]
    refine ⟨_, _, _, _, _, rfl, rfl, .inl ⟨rfl, ?_, ?_⟩, ?_⟩
    · rw [f8, eX6_thrown_thrown]
    · rw [e0]; omega
    · obtain ⟨g1, g2, g3, g4, g5, g6, g7, g8, g9, g10⟩ := (((d1.trans d2).trans d3).trans d4).trans d5
      refine ⟨?_, ?_, ?_, ?_, ?_, ?_, ?_⟩
      · rw [g3, f4, eX6_a_thrown]; exact I.mr
      · rw [g5, f5, f6, eX6_kept_thrown, eX6_keptMany_thrown]; exact I.h
      · rw [g4]; exact I.2.2.1
      · refine ⟨?_, by omega, by omega, ?_⟩
        · rw [f2, e0]; omega
        · intro i i0 i1
          rw [f3 i, e0, ← t1, eX6_buffer_thrown]
          rw [c5 i, b4, c4 i, b3, c3 i, b2, c2 i, b1, c1 i]
          by_cases q5 : pX5_textLength x + 4 + 4 + 4 + 4 ≤ i ∧ i < pX5_textLength x + 4 + 4 + 4 + 4 + 4
          · rw [if_pos q5, if_pos (by omega)]
            unfold argOf
            rw [if_neg (by omega), if_neg (by omega), if_neg (by omega), if_neg (by omega), show (i - pX5_textLength x + 0) % 4 = i - (pX5_textLength x + 4 + 4 + 4 + 4) by omega]
            exact ⟨rfl, zAnd_255 _⟩
          · rw [if_neg q5]
            by_cases q4 : pX5_textLength x + 4 + 4 + 4 ≤ i ∧ i < pX5_textLength x + 4 + 4 + 4 + 4
            · rw [if_pos q4, if_pos (by omega)]
              unfold argOf
              rw [if_neg (by omega), if_neg (by omega), if_neg (by omega), if_pos (by omega), show (i - pX5_textLength x + 0) % 4 = i - (pX5_textLength x + 4 + 4 + 4) by omega]
              exact ⟨rfl, zAnd_255 _⟩
            · rw [if_neg q4]
              by_cases q3 : pX5_textLength x + 4 + 4 ≤ i ∧ i < pX5_textLength x + 4 + 4 + 4
              · rw [if_pos q3, if_pos (by omega)]
                unfold argOf
                rw [if_neg (by omega), if_neg (by omega), if_pos (by omega), show (i - pX5_textLength x + 0) % 4 = i - (pX5_textLength x + 4 + 4) by omega]
                exact ⟨rfl, zAnd_255 _⟩
              · rw [if_neg q3]
                by_cases q2 : pX5_textLength x + 4 ≤ i ∧ i < pX5_textLength x + 4 + 4
                · rw [if_pos q2, if_pos (by omega)]
                  unfold argOf
                  rw [if_neg (by omega), if_pos (by omega), show (i - pX5_textLength x + 0) % 4 = i - (pX5_textLength x + 4) by omega]
                  exact ⟨rfl, zAnd_255 _⟩
                · rw [if_neg q2]
                  by_cases q1 : pX5_textLength x ≤ i ∧ i < pX5_textLength x + 4
                  · rw [if_pos q1, if_pos (by omega)]
                    unfold argOf
                    rw [if_pos (by omega), show (i - pX5_textLength x + 0) % 4 = i - pX5_textLength x by omega]
                    exact ⟨rfl, zAnd_255 _⟩
                  · rw [if_neg q1, if_neg (by omega)]
                    exact t4 i i0 (by omega)
      · rw [g1, f7, eX6_errorAt_thrown]; exact I.2.2.2.2.1
      · unfold PX; rw [g6, g7, g10, g3]; exact I.2.2.2.2.2.1
      · unfold IX; rw [g8]; exact I.2.2.2.2.2.2
  · rw [if_neg h, if_neg h, if_neg (by omega)]
    exact ⟨_, _, _, _, _, rfl, rfl, .inr ⟨rfl, eX6_thrown_thrown _ _⟩, Inv_t I 1⟩
