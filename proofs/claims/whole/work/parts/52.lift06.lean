set_option maxHeartbeats 4000000 in
set_option maxRecDepth 100000 in
theorem l_X6_clash_14 : ∀ (Ft1 : Int32) (Fx1 : Int32) (Fx2 : Int32) (t1 : Int) (x1 : Int) (x2 : Int) (Fv_a : Nat → Int32) (Fv_thrown : Int32) (b_this : BX6) (r : Int × BX6), LI Ft1 t1 → LI Fx1 x1 → LI Fx2 x2 → LA Fv_a (pX6_a b_this) → LI Fv_thrown (pX6_thrown b_this) → g_X6_clash_14 t1 x1 x2 b_this = some r → ∃ R, f_X6_clash_14 Ft1 Fx1 Fx2 Fv_a Fv_thrown = some R ∧ LI (R.1) (r.1) ∧ LI (R.2) (pX6_thrown (r.2)) ∧ (pX6_a (r.2)) = (pX6_a b_this) ∧ (pX6_fresh (r.2)) = (pX6_fresh b_this) ∧ (pX6_kept (r.2)) = (pX6_kept b_this) ∧ (pX6_keptMany (r.2)) = (pX6_keptMany b_this) ∧ (pX6_buffer (r.2)) = (pX6_buffer b_this) ∧ (pX6_buffered (r.2)) = (pX6_buffered b_this) ∧ (pX6_size (r.2)) = (pX6_size b_this) ∧ (pX6_at (r.2)) = (pX6_at b_this) ∧ (pX6_behind (r.2)) = (pX6_behind b_this) ∧ (pX6_kind (r.2)) = (pX6_kind b_this) ∧ (pX6_wrong (r.2)) = (pX6_wrong b_this) ∧ (pX6_wrongAt (r.2)) = (pX6_wrongAt b_this) ∧ (pX6_errorAt (r.2)) = (pX6_errorAt b_this) ∧ (pX6_number (r.2)) = (pX6_number b_this) ∧ (pX6_best (r.2)) = (pX6_best b_this) ∧ (pX6_rentBy (r.2)) = (pX6_rentBy b_this) ∧ (pX6_bareBy (r.2)) = (pX6_bareBy b_this) ∧ (pX6_aheadBy (r.2)) = (pX6_aheadBy b_this) ∧ (pX6_isEdge (r.2)) = (pX6_isEdge b_this) ∧ (pX6_tried (r.2)) = (pX6_tried b_this) ∧ (pX6_stands (r.2)) = (pX6_stands b_this) ∧ (pX6_found (r.2)) = (pX6_found b_this) ∧ (pX6_foundOn (r.2)) = (pX6_foundOn b_this) ∧ (pX6_moving (r.2)) = (pX6_moving b_this) ∧ (pX6_movingMany (r.2)) = (pX6_movingMany b_this) ∧ (pX6_foundIncome (r.2)) = (pX6_foundIncome b_this) ∧ (pX6_foundMoves (r.2)) = (pX6_foundMoves b_this) := by
  intro Ft1 Fx1 Fx2 t1 x1 x2 Fv_a Fv_thrown b_this r h_t1 h_x1 h_x2 h_v_a h_v_thrown hg
  unfold g_X6_clash_14 at hg
  unfold f_X6_clash_14
  refine lI (LI_eq h_t1 (LI_n (X := 0) (x := 0) rfl)) hg (fun hc hg => ?_) (fun hc hg => ?_)
  · refine lA (EI_add (EI_add (EI_i (LI_n (X := 115) (x := 115) rfl)) (EI_mul (EI_i (LI_n (X := 8) (x := 8) rfl)) (EI_i h_x1))) (EI_i h_x2)) rfl hg (fun ha_1 hg => ?_)
    refine lI (LI_eq (LA_at h_v_a (EI_add (EI_add (EI_i (LI_n (X := 115) (x := 115) rfl)) (EI_mul (EI_i (LI_n (X := 8) (x := 8) rfl)) (EI_i h_x1))) (EI_i h_x2)) ha_1) (LI_n (X := 1) (x := 1) rfl)) hg (fun hc hg => ?_) (fun hc hg => ?_)
    · cases hg
      exact ⟨_, rfl, (LI_n (X := 1) (x := 1) rfl), (LI_cg (eX6_thrown_thrown _ _) h_t1), (eX6_a_thrown _ _), (eX6_fresh_thrown _ _), (eX6_kept_thrown _ _), (eX6_keptMany_thrown _ _), (eX6_buffer_thrown _ _), (eX6_buffered_thrown _ _), (eX6_size_thrown _ _), (eX6_at_thrown _ _), (eX6_behind_thrown _ _), (eX6_kind_thrown _ _), (eX6_wrong_thrown _ _), (eX6_wrongAt_thrown _ _), (eX6_errorAt_thrown _ _), (eX6_number_thrown _ _), (eX6_best_thrown _ _), (eX6_rentBy_thrown _ _), (eX6_bareBy_thrown _ _), (eX6_aheadBy_thrown _ _), (eX6_isEdge_thrown _ _), (eX6_tried_thrown _ _), (eX6_stands_thrown _ _), (eX6_found_thrown _ _), (eX6_foundOn_thrown _ _), (eX6_moving_thrown _ _), (eX6_movingMany_thrown _ _), (eX6_foundIncome_thrown _ _), (eX6_foundMoves_thrown _ _)⟩
    · cases hg
      exact ⟨_, rfl, (LI_n (X := 0) (x := 0) rfl), (LI_cg (eX6_thrown_thrown _ _) h_t1), (eX6_a_thrown _ _), (eX6_fresh_thrown _ _), (eX6_kept_thrown _ _), (eX6_keptMany_thrown _ _), (eX6_buffer_thrown _ _), (eX6_buffered_thrown _ _), (eX6_size_thrown _ _), (eX6_at_thrown _ _), (eX6_behind_thrown _ _), (eX6_kind_thrown _ _), (eX6_wrong_thrown _ _), (eX6_wrongAt_thrown _ _), (eX6_errorAt_thrown _ _), (eX6_number_thrown _ _), (eX6_best_thrown _ _), (eX6_rentBy_thrown _ _), (eX6_bareBy_thrown _ _), (eX6_aheadBy_thrown _ _), (eX6_isEdge_thrown _ _), (eX6_tried_thrown _ _), (eX6_stands_thrown _ _), (eX6_found_thrown _ _), (eX6_foundOn_thrown _ _), (eX6_moving_thrown _ _), (eX6_movingMany_thrown _ _), (eX6_foundIncome_thrown _ _), (eX6_foundMoves_thrown _ _)⟩
  · cases hg
    exact ⟨_, rfl, (LI_n (X := 0) (x := 0) rfl), (LI_cg (eX6_thrown_thrown _ _) h_t1), (eX6_a_thrown _ _), (eX6_fresh_thrown _ _), (eX6_kept_thrown _ _), (eX6_keptMany_thrown _ _), (eX6_buffer_thrown _ _), (eX6_buffered_thrown _ _), (eX6_size_thrown _ _), (eX6_at_thrown _ _), (eX6_behind_thrown _ _), (eX6_kind_thrown _ _), (eX6_wrong_thrown _ _), (eX6_wrongAt_thrown _ _), (eX6_errorAt_thrown _ _), (eX6_number_thrown _ _), (eX6_best_thrown _ _), (eX6_rentBy_thrown _ _), (eX6_bareBy_thrown _ _), (eX6_aheadBy_thrown _ _), (eX6_isEdge_thrown _ _), (eX6_tried_thrown _ _), (eX6_stands_thrown _ _), (eX6_found_thrown _ _), (eX6_foundOn_thrown _ _), (eX6_moving_thrown _ _), (eX6_movingMany_thrown _ _), (eX6_foundIncome_thrown _ _), (eX6_foundMoves_thrown _ _)⟩
set_option maxHeartbeats 4000000 in
set_option maxRecDepth 100000 in
theorem l_X6_clash : ∀ (Fx1 : Int32) (Fx2 : Int32) (x1 : Int) (x2 : Int) (Fv_a : Nat → Int32) (Fv_thrown : Int32) (b_this : BX6) (r : Int × BX6), LI Fx1 x1 → LI Fx2 x2 → LA Fv_a (pX6_a b_this) → LI Fv_thrown (pX6_thrown b_this) → g_X6_clash b_this x1 x2 = some r → ∃ R, f_X6_clash Fv_a Fv_thrown Fx1 Fx2 = some R ∧ LI (R.1) (r.1) ∧ LI (R.2) (pX6_thrown (r.2)) ∧ (pX6_a (r.2)) = (pX6_a b_this) ∧ (pX6_fresh (r.2)) = (pX6_fresh b_this) ∧ (pX6_kept (r.2)) = (pX6_kept b_this) ∧ (pX6_keptMany (r.2)) = (pX6_keptMany b_this) ∧ (pX6_buffer (r.2)) = (pX6_buffer b_this) ∧ (pX6_buffered (r.2)) = (pX6_buffered b_this) ∧ (pX6_size (r.2)) = (pX6_size b_this) ∧ (pX6_at (r.2)) = (pX6_at b_this) ∧ (pX6_behind (r.2)) = (pX6_behind b_this) ∧ (pX6_kind (r.2)) = (pX6_kind b_this) ∧ (pX6_wrong (r.2)) = (pX6_wrong b_this) ∧ (pX6_wrongAt (r.2)) = (pX6_wrongAt b_this) ∧ (pX6_errorAt (r.2)) = (pX6_errorAt b_this) ∧ (pX6_number (r.2)) = (pX6_number b_this) ∧ (pX6_best (r.2)) = (pX6_best b_this) ∧ (pX6_rentBy (r.2)) = (pX6_rentBy b_this) ∧ (pX6_bareBy (r.2)) = (pX6_bareBy b_this) ∧ (pX6_aheadBy (r.2)) = (pX6_aheadBy b_this) ∧ (pX6_isEdge (r.2)) = (pX6_isEdge b_this) ∧ (pX6_tried (r.2)) = (pX6_tried b_this) ∧ (pX6_stands (r.2)) = (pX6_stands b_this) ∧ (pX6_found (r.2)) = (pX6_found b_this) ∧ (pX6_foundOn (r.2)) = (pX6_foundOn b_this) ∧ (pX6_moving (r.2)) = (pX6_moving b_this) ∧ (pX6_movingMany (r.2)) = (pX6_movingMany b_this) ∧ (pX6_foundIncome (r.2)) = (pX6_foundIncome b_this) ∧ (pX6_foundMoves (r.2)) = (pX6_foundMoves b_this) := by
  intro Fx1 Fx2 x1 x2 Fv_a Fv_thrown b_this r h_x1 h_x2 h_v_a h_v_thrown hg
  unfold g_X6_clash at hg
  unfold f_X6_clash
  refine lB_1_1 (fun r hr => l_X6_areTrades  _ _ _ _ r h_x1 h_x2 hr) hg (fun Fr_2 r_2 hq hg => ?_)
  have q_2 := hq
  refine lI (LI_eq q_2 (LI_n (X := 0) (x := 0) rfl)) hg (fun hc hg => ?_) (fun hc hg => ?_)
  · refine lJ (l_X6_clash_14 _ _ _ _ _ _ _ _ b_this _ (LI_n (X := 1) (x := 1) rfl) h_x1 h_x2 h_v_a h_v_thrown hg) (fun R hq => ?_)
    obtain ⟨c0, c1, c2, c3, c4, c5, c6, c7, c8, c9, c10, c11, c12, c13, c14, c15, c16, c17, c18, c19, c20, c21, c22, c23, c24, c25, c26, c27, c28⟩ := hq
    exact ⟨c0, c1, c2, c3, c4, c5, c6, c7, c8, c9, c10, c11, c12, c13, c14, c15, c16, c17, c18, c19, c20, c21, c22, c23, c24, c25, c26, c27, c28⟩
  · refine lJ (l_X6_clash_14 _ _ _ _ _ _ _ _ b_this _ (LI_n (X := 0) (x := 0) rfl) h_x1 h_x2 h_v_a h_v_thrown hg) (fun R hq => ?_)
    obtain ⟨c0, c1, c2, c3, c4, c5, c6, c7, c8, c9, c10, c11, c12, c13, c14, c15, c16, c17, c18, c19, c20, c21, c22, c23, c24, c25, c26, c27, c28⟩ := hq
    exact ⟨c0, c1, c2, c3, c4, c5, c6, c7, c8, c9, c10, c11, c12, c13, c14, c15, c16, c17, c18, c19, c20, c21, c22, c23, c24, c25, c26, c27, c28⟩
set_option maxHeartbeats 4000000 in
set_option maxRecDepth 100000 in
theorem l_X6_clashes : ∀ (Fx1 : Int32) (Fx2 : Int32) (Fx3 : Int32) (x1 : Int) (x2 : Int) (x3 : Int) (Fv_o0 : Nat → Int32) (b_o0 : (Int → Int)) (r : (Int → Int)), LI Fx1 x1 → LI Fx2 x2 → LI Fx3 x3 → LA Fv_o0 b_o0 → g_X6_clashes b_o0 x1 x2 x3 = some r → ∃ R, f_X6_clashes Fv_o0 Fx1 Fx2 Fx3 = some R ∧ LA R r := by
  intro Fx1 Fx2 Fx3 x1 x2 x3 Fv_o0 b_o0 r h_x1 h_x2 h_x3 h_v_o0 hg
  unfold g_X6_clashes at hg
  unfold f_X6_clashes
  refine lA (EI_add (EI_add (EI_i (LI_n (X := 115) (x := 115) rfl)) (EI_mul (EI_i (LI_n (X := 8) (x := 8) rfl)) (EI_i h_x1))) (EI_i h_x2)) rfl hg (fun ha_1 hg => ?_)
  refine lL (LA_upd h_v_o0 (EI_add (EI_add (EI_i (LI_n (X := 115) (x := 115) rfl)) (EI_mul (EI_i (LI_n (X := 8) (x := 8) rfl)) (EI_i h_x1))) (EI_i h_x2)) ha_1 h_x3) hg (fun Fv_2 v_2 h_v_2 hg => ?_)
  refine lA (EI_add (EI_add (EI_i (LI_n (X := 115) (x := 115) rfl)) (EI_mul (EI_i (LI_n (X := 8) (x := 8) rfl)) (EI_i h_x2))) (EI_i h_x1)) rfl hg (fun ha_2 hg => ?_)
  refine lL (LA_upd h_v_2 (EI_add (EI_add (EI_i (LI_n (X := 115) (x := 115) rfl)) (EI_mul (EI_i (LI_n (X := 8) (x := 8) rfl)) (EI_i h_x2))) (EI_i h_x1)) ha_2 h_x3) hg (fun Fv_4 v_4 h_v_4 hg => ?_)
  cases hg
  exact ⟨_, rfl, h_v_4⟩
set_option maxHeartbeats 4000000 in
set_option maxRecDepth 100000 in
theorem l_X6_clashCost_14 {n : Nat} : ∀ (Ft1 : Int32) (Fx1 : Int32) (Fx2 : Int32) (t1 : Int) (x1 : Int) (x2 : Int) (Fv_a : Nat → Int32) (Fv_thrown : Int32) (Fv_best : Nat → Int32) (Fv_rentBy : Nat → Int32) (Fv_bareBy : Nat → Int32) (Fv_aheadBy : Nat → Int32) (b_this : BX6) (r : Int × BX6), LI Ft1 t1 → LI Fx1 x1 → LI Fx2 x2 → LA Fv_a (pX6_a b_this) → LI Fv_thrown (pX6_thrown b_this) → LA Fv_best (pX6_best b_this) → LA Fv_rentBy (pX6_rentBy b_this) → LA Fv_bareBy (pX6_bareBy b_this) → LA Fv_aheadBy (pX6_aheadBy b_this) → g_X6_clashCost_14 n t1 x1 x2 b_this = some r → ∃ R, f_X6_clashCost_14 n Ft1 Fx1 Fx2 Fv_a Fv_thrown Fv_best Fv_rentBy Fv_bareBy Fv_aheadBy = some R ∧ LI (R.1) (r.1) ∧ LA (R.2.1) (pX6_a (r.2)) ∧ LI (R.2.2.1) (pX6_thrown (r.2)) ∧ LA (R.2.2.2.1) (pX6_best (r.2)) ∧ LA (R.2.2.2.2.1) (pX6_rentBy (r.2)) ∧ LA (R.2.2.2.2.2.1) (pX6_bareBy (r.2)) ∧ LA (R.2.2.2.2.2.2) (pX6_aheadBy (r.2)) ∧ (pX6_fresh (r.2)) = (pX6_fresh b_this) ∧ (pX6_kept (r.2)) = (pX6_kept b_this) ∧ (pX6_keptMany (r.2)) = (pX6_keptMany b_this) ∧ (pX6_buffer (r.2)) = (pX6_buffer b_this) ∧ (pX6_buffered (r.2)) = (pX6_buffered b_this) ∧ (pX6_size (r.2)) = (pX6_size b_this) ∧ (pX6_at (r.2)) = (pX6_at b_this) ∧ (pX6_behind (r.2)) = (pX6_behind b_this) ∧ (pX6_kind (r.2)) = (pX6_kind b_this) ∧ (pX6_wrong (r.2)) = (pX6_wrong b_this) ∧ (pX6_wrongAt (r.2)) = (pX6_wrongAt b_this) ∧ (pX6_errorAt (r.2)) = (pX6_errorAt b_this) ∧ (pX6_number (r.2)) = (pX6_number b_this) ∧ (pX6_isEdge (r.2)) = (pX6_isEdge b_this) ∧ (pX6_tried (r.2)) = (pX6_tried b_this) ∧ (pX6_stands (r.2)) = (pX6_stands b_this) ∧ (pX6_found (r.2)) = (pX6_found b_this) ∧ (pX6_foundOn (r.2)) = (pX6_foundOn b_this) ∧ (pX6_moving (r.2)) = (pX6_moving b_this) ∧ (pX6_movingMany (r.2)) = (pX6_movingMany b_this) ∧ (pX6_foundIncome (r.2)) = (pX6_foundIncome b_this) ∧ (pX6_foundMoves (r.2)) = (pX6_foundMoves b_this) := by
  intro Ft1 Fx1 Fx2 t1 x1 x2 Fv_a Fv_thrown Fv_best Fv_rentBy Fv_bareBy Fv_aheadBy b_this r h_t1 h_x1 h_x2 h_v_a h_v_thrown h_v_best h_v_rentBy h_v_bareBy h_v_aheadBy hg
  unfold g_X6_clashCost_14 at hg
  unfold f_X6_clashCost_14
  refine lI (LI_lt (LI_n (X := 0) (x := 0) rfl) h_t1) hg (fun hc hg => ?_) (fun hc hg => ?_)
  · cases hg
    exact ⟨_, rfl, (LI_n (X := 0) (x := 0) rfl), (LA_cg (eX6_a_thrown _ _) h_v_a), (LI_cg (eX6_thrown_thrown _ _) h_t1), (LA_cg (eX6_best_thrown _ _) h_v_best), (LA_cg (eX6_rentBy_thrown _ _) h_v_rentBy), (LA_cg (eX6_bareBy_thrown _ _) h_v_bareBy), (LA_cg (eX6_aheadBy_thrown _ _) h_v_aheadBy), (eX6_fresh_thrown _ _), (eX6_kept_thrown _ _), (eX6_keptMany_thrown _ _), (eX6_buffer_thrown _ _), (eX6_buffered_thrown _ _), (eX6_size_thrown _ _), (eX6_at_thrown _ _), (eX6_behind_thrown _ _), (eX6_kind_thrown _ _), (eX6_wrong_thrown _ _), (eX6_wrongAt_thrown _ _), (eX6_errorAt_thrown _ _), (eX6_number_thrown _ _), (eX6_isEdge_thrown _ _), (eX6_tried_thrown _ _), (eX6_stands_thrown _ _), (eX6_found_thrown _ _), (eX6_foundOn_thrown _ _), (eX6_moving_thrown _ _), (eX6_movingMany_thrown _ _), (eX6_foundIncome_thrown _ _), (eX6_foundMoves_thrown _ _)⟩
  · refine lA (EI_add (EI_add (EI_i (LI_n (X := 115) (x := 115) rfl)) (EI_mul (EI_i (LI_n (X := 8) (x := 8) rfl)) (EI_i h_x1))) (EI_i h_x2)) rfl hg (fun ha_1 hg => ?_)
    refine lI (LI_eq (LA_at h_v_a (EI_add (EI_add (EI_i (LI_n (X := 115) (x := 115) rfl)) (EI_mul (EI_i (LI_n (X := 8) (x := 8) rfl)) (EI_i h_x1))) (EI_i h_x2)) ha_1) (LI_n (X := 0) (x := 0) rfl)) hg (fun hc hg => ?_) (fun hc hg => ?_)
    · cases hg
      exact ⟨_, rfl, (LI_n (X := 0) (x := 0) rfl), (LA_cg (eX6_a_thrown _ _) h_v_a), (LI_cg (eX6_thrown_thrown _ _) h_t1), (LA_cg (eX6_best_thrown _ _) h_v_best), (LA_cg (eX6_rentBy_thrown _ _) h_v_rentBy), (LA_cg (eX6_bareBy_thrown _ _) h_v_bareBy), (LA_cg (eX6_aheadBy_thrown _ _) h_v_aheadBy), (eX6_fresh_thrown _ _), (eX6_kept_thrown _ _), (eX6_keptMany_thrown _ _), (eX6_buffer_thrown _ _), (eX6_buffered_thrown _ _), (eX6_size_thrown _ _), (eX6_at_thrown _ _), (eX6_behind_thrown _ _), (eX6_kind_thrown _ _), (eX6_wrong_thrown _ _), (eX6_wrongAt_thrown _ _), (eX6_errorAt_thrown _ _), (eX6_number_thrown _ _), (eX6_isEdge_thrown _ _), (eX6_tried_thrown _ _), (eX6_stands_thrown _ _), (eX6_found_thrown _ _), (eX6_foundOn_thrown _ _), (eX6_moving_thrown _ _), (eX6_movingMany_thrown _ _), (eX6_foundIncome_thrown _ _), (eX6_foundMoves_thrown _ _)⟩
    · refine lA (EI_i (LI_n (X := 179) (x := 179) rfl)) rfl hg (fun ha_2 hg => ?_)
      refine lB_5_2 (fun r hr => l_X6_plans  _ _ _ _ _ _ _ (sX6_thrown b_this t1) r (LA_at h_v_a (EI_i (LI_n (X := 179) (x := 179) rfl)) ha_2) (LA_cg (eX6_a_thrown _ _) h_v_a) (LA_cg (eX6_best_thrown _ _) h_v_best) (LA_cg (eX6_rentBy_thrown _ _) h_v_rentBy) (LA_cg (eX6_bareBy_thrown _ _) h_v_bareBy) (LA_cg (eX6_aheadBy_thrown _ _) h_v_aheadBy) hr) hg (fun Fr_3 Fv_4 Fv_5 Fv_6 Fv_7 r_3 b_3 hq hg => ?_)
      obtain ⟨q_4, q_5, q_6, q_7, q_8, q_9, q_10, q_11, q_12, q_13, q_14, q_15, q_16, q_17, q_18, q_19, q_20, q_21, q_22, q_23, q_24, q_25, q_26, q_27, q_28, q_29, q_30, q_31, q_32⟩ := hq
      have qe_33 := Eq.trans q_9 (eX6_a_thrown _ _)
      have qe_34 := Eq.trans q_10 (eX6_fresh_thrown _ _)
      have qe_35 := Eq.trans q_11 (eX6_kept_thrown _ _)
      have qe_36 := Eq.trans q_12 (eX6_keptMany_thrown _ _)
      have qe_37 := Eq.trans q_13 (eX6_thrown_thrown _ _)
      have qe_38 := Eq.trans q_14 (eX6_buffer_thrown _ _)
      have qe_39 := Eq.trans q_15 (eX6_buffered_thrown _ _)
      have qe_40 := Eq.trans q_16 (eX6_size_thrown _ _)
      have qe_41 := Eq.trans q_17 (eX6_at_thrown _ _)
      have qe_42 := Eq.trans q_18 (eX6_behind_thrown _ _)
      have qe_43 := Eq.trans q_19 (eX6_kind_thrown _ _)
      have qe_44 := Eq.trans q_20 (eX6_wrong_thrown _ _)
      have qe_45 := Eq.trans q_21 (eX6_wrongAt_thrown _ _)
      have qe_46 := Eq.trans q_22 (eX6_errorAt_thrown _ _)
      have qe_47 := Eq.trans q_23 (eX6_number_thrown _ _)
      have qe_48 := Eq.trans q_24 (eX6_isEdge_thrown _ _)
      have qe_49 := Eq.trans q_25 (eX6_tried_thrown _ _)
      have qe_50 := Eq.trans q_26 (eX6_stands_thrown _ _)
      have qe_51 := Eq.trans q_27 (eX6_found_thrown _ _)
      have qe_52 := Eq.trans q_28 (eX6_foundOn_thrown _ _)
      have qe_53 := Eq.trans q_29 (eX6_moving_thrown _ _)
      have qe_54 := Eq.trans q_30 (eX6_movingMany_thrown _ _)
      have qe_55 := Eq.trans q_31 (eX6_foundIncome_thrown _ _)
      have qe_56 := Eq.trans q_32 (eX6_foundMoves_thrown _ _)
      have hl_57 := (LA_cg qe_33 h_v_a)
      have hl_58 := (LI_cg qe_37 h_t1)
      refine lB_1_1 (fun r hr => l_X6_clashes  _ _ _ _ _ _ _ (pX6_a b_3) r h_x1 h_x2 (LI_n (X := 0) (x := 0) rfl) hl_57 hr) hg (fun Fv_9 b_59 hq hg => ?_)
      have q_60 := hq
      refine lA (EI_i (LI_n (X := 179) (x := 179) rfl)) rfl hg (fun ha_61 hg => ?_)
      refine lB_5_2 (fun r hr => l_X6_plans  _ _ _ _ _ _ _ (sX6_a b_3 b_59) r (LA_at q_60 (EI_i (LI_n (X := 179) (x := 179) rfl)) ha_61) (LA_cg (eX6_a_a _ _) q_60) (LA_cg (eX6_best_a _ _) q_5) (LA_cg (eX6_rentBy_a _ _) q_6) (LA_cg (eX6_bareBy_a _ _) q_7) (LA_cg (eX6_aheadBy_a _ _) q_8) hr) hg (fun Fr_12 Fv_13 Fv_14 Fv_15 Fv_16 r_12 b_62 hq hg => ?_)
      obtain ⟨q_63, q_64, q_65, q_66, q_67, q_68, q_69, q_70, q_71, q_72, q_73, q_74, q_75, q_76, q_77, q_78, q_79, q_80, q_81, q_82, q_83, q_84, q_85, q_86, q_87, q_88, q_89, q_90, q_91⟩ := hq
      have qe_92 := Eq.trans q_68 (eX6_a_a _ _)
      have qe_93 := Eq.trans q_69 (eX6_fresh_a _ _)
      have qe_94 := Eq.trans q_70 (eX6_kept_a _ _)
      have qe_95 := Eq.trans q_71 (eX6_keptMany_a _ _)
      have qe_96 := Eq.trans q_72 (eX6_thrown_a _ _)
      have qe_97 := Eq.trans q_73 (eX6_buffer_a _ _)
      have qe_98 := Eq.trans q_74 (eX6_buffered_a _ _)
      have qe_99 := Eq.trans q_75 (eX6_size_a _ _)
      have qe_100 := Eq.trans q_76 (eX6_at_a _ _)
      have qe_101 := Eq.trans q_77 (eX6_behind_a _ _)
      have qe_102 := Eq.trans q_78 (eX6_kind_a _ _)
      have qe_103 := Eq.trans q_79 (eX6_wrong_a _ _)
      have qe_104 := Eq.trans q_80 (eX6_wrongAt_a _ _)
      have qe_105 := Eq.trans q_81 (eX6_errorAt_a _ _)
      have qe_106 := Eq.trans q_82 (eX6_number_a _ _)
      have qe_107 := Eq.trans q_83 (eX6_isEdge_a _ _)
      have qe_108 := Eq.trans q_84 (eX6_tried_a _ _)
      have qe_109 := Eq.trans q_85 (eX6_stands_a _ _)
      have qe_110 := Eq.trans q_86 (eX6_found_a _ _)
      have qe_111 := Eq.trans q_87 (eX6_foundOn_a _ _)
      have qe_112 := Eq.trans q_88 (eX6_moving_a _ _)
      have qe_113 := Eq.trans q_89 (eX6_movingMany_a _ _)
      have qe_114 := Eq.trans q_90 (eX6_foundIncome_a _ _)
      have qe_115 := Eq.trans q_91 (eX6_foundMoves_a _ _)
      have hl_116 := (LA_cg qe_92 q_60)
      have hl_117 := (LI_cg qe_96 hl_58)
      refine lB_1_1 (fun r hr => l_X6_clashes  _ _ _ _ _ _ _ (pX6_a b_62) r h_x1 h_x2 (LI_n (X := 1) (x := 1) rfl) hl_116 hr) hg (fun Fv_18 b_118 hq hg => ?_)
      have q_119 := hq
      refine lR hg (fun hr_120 hg => ?_)
      cases hg
      exact ⟨_, rfl, (LI_of (EI_sub (EI_i q_63) (EI_i q_4)) hr_120), (LA_cg (eX6_a_a _ _) q_119), (LI_cg (eX6_thrown_a _ _) hl_117), (LA_cg (eX6_best_a _ _) q_64), (LA_cg (eX6_rentBy_a _ _) q_65), (LA_cg (eX6_bareBy_a _ _) q_66), (LA_cg (eX6_aheadBy_a _ _) q_67), (Eq.trans (eX6_fresh_a _ _) (Eq.trans qe_93 qe_34)), (Eq.trans (eX6_kept_a _ _) (Eq.trans qe_94 qe_35)), (Eq.trans (eX6_keptMany_a _ _) (Eq.trans qe_95 qe_36)), (Eq.trans (eX6_buffer_a _ _) (Eq.trans qe_97 qe_38)), (Eq.trans (eX6_buffered_a _ _) (Eq.trans qe_98 qe_39)), (Eq.trans (eX6_size_a _ _) (Eq.trans qe_99 qe_40)), (Eq.trans (eX6_at_a _ _) (Eq.trans qe_100 qe_41)), (Eq.trans (eX6_behind_a _ _) (Eq.trans qe_101 qe_42)), (Eq.trans (eX6_kind_a _ _) (Eq.trans qe_102 qe_43)), (Eq.trans (eX6_wrong_a _ _) (Eq.trans qe_103 qe_44)), (Eq.trans (eX6_wrongAt_a _ _) (Eq.trans qe_104 qe_45)), (Eq.trans (eX6_errorAt_a _ _) (Eq.trans qe_105 qe_46)), (Eq.trans (eX6_number_a _ _) (Eq.trans qe_106 qe_47)), (Eq.trans (eX6_isEdge_a _ _) (Eq.trans qe_107 qe_48)), (Eq.trans (eX6_tried_a _ _) (Eq.trans qe_108 qe_49)), (Eq.trans (eX6_stands_a _ _) (Eq.trans qe_109 qe_50)), (Eq.trans (eX6_found_a _ _) (Eq.trans qe_110 qe_51)), (Eq.trans (eX6_foundOn_a _ _) (Eq.trans qe_111 qe_52)), (Eq.trans (eX6_moving_a _ _) (Eq.trans qe_112 qe_53)), (Eq.trans (eX6_movingMany_a _ _) (Eq.trans qe_113 qe_54)), (Eq.trans (eX6_foundIncome_a _ _) (Eq.trans qe_114 qe_55)), (Eq.trans (eX6_foundMoves_a _ _) (Eq.trans qe_115 qe_56))⟩
set_option maxHeartbeats 4000000 in
set_option maxRecDepth 100000 in
theorem l_X6_clashCost {n : Nat} : ∀ (Fx1 : Int32) (Fx2 : Int32) (x1 : Int) (x2 : Int) (Fv_a : Nat → Int32) (Fv_thrown : Int32) (Fv_best : Nat → Int32) (Fv_rentBy : Nat → Int32) (Fv_bareBy : Nat → Int32) (Fv_aheadBy : Nat → Int32) (b_this : BX6) (r : Int × BX6), LI Fx1 x1 → LI Fx2 x2 → LA Fv_a (pX6_a b_this) → LI Fv_thrown (pX6_thrown b_this) → LA Fv_best (pX6_best b_this) → LA Fv_rentBy (pX6_rentBy b_this) → LA Fv_bareBy (pX6_bareBy b_this) → LA Fv_aheadBy (pX6_aheadBy b_this) → g_X6_clashCost n b_this x1 x2 = some r → ∃ R, f_X6_clashCost n Fv_a Fv_thrown Fv_best Fv_rentBy Fv_bareBy Fv_aheadBy Fx1 Fx2 = some R ∧ LI (R.1) (r.1) ∧ LA (R.2.1) (pX6_a (r.2)) ∧ LI (R.2.2.1) (pX6_thrown (r.2)) ∧ LA (R.2.2.2.1) (pX6_best (r.2)) ∧ LA (R.2.2.2.2.1) (pX6_rentBy (r.2)) ∧ LA (R.2.2.2.2.2.1) (pX6_bareBy (r.2)) ∧ LA (R.2.2.2.2.2.2) (pX6_aheadBy (r.2)) ∧ (pX6_fresh (r.2)) = (pX6_fresh b_this) ∧ (pX6_kept (r.2)) = (pX6_kept b_this) ∧ (pX6_keptMany (r.2)) = (pX6_keptMany b_this) ∧ (pX6_buffer (r.2)) = (pX6_buffer b_this) ∧ (pX6_buffered (r.2)) = (pX6_buffered b_this) ∧ (pX6_size (r.2)) = (pX6_size b_this) ∧ (pX6_at (r.2)) = (pX6_at b_this) ∧ (pX6_behind (r.2)) = (pX6_behind b_this) ∧ (pX6_kind (r.2)) = (pX6_kind b_this) ∧ (pX6_wrong (r.2)) = (pX6_wrong b_this) ∧ (pX6_wrongAt (r.2)) = (pX6_wrongAt b_this) ∧ (pX6_errorAt (r.2)) = (pX6_errorAt b_this) ∧ (pX6_number (r.2)) = (pX6_number b_this) ∧ (pX6_isEdge (r.2)) = (pX6_isEdge b_this) ∧ (pX6_tried (r.2)) = (pX6_tried b_this) ∧ (pX6_stands (r.2)) = (pX6_stands b_this) ∧ (pX6_found (r.2)) = (pX6_found b_this) ∧ (pX6_foundOn (r.2)) = (pX6_foundOn b_this) ∧ (pX6_moving (r.2)) = (pX6_moving b_this) ∧ (pX6_movingMany (r.2)) = (pX6_movingMany b_this) ∧ (pX6_foundIncome (r.2)) = (pX6_foundIncome b_this) ∧ (pX6_foundMoves (r.2)) = (pX6_foundMoves b_this) := by
  intro Fx1 Fx2 x1 x2 Fv_a Fv_thrown Fv_best Fv_rentBy Fv_bareBy Fv_aheadBy b_this r h_x1 h_x2 h_v_a h_v_thrown h_v_best h_v_rentBy h_v_bareBy h_v_aheadBy hg
  unfold g_X6_clashCost at hg
  unfold f_X6_clashCost
  refine lB_1_1 (fun r hr => l_X6_areTrades  _ _ _ _ r h_x1 h_x2 hr) hg (fun Fr_20 r_20 hq hg => ?_)
  have q_121 := hq
  refine lI (LI_eq q_121 (LI_n (X := 0) (x := 0) rfl)) hg (fun hc hg => ?_) (fun hc hg => ?_)
  · refine lJ (l_X6_clashCost_14 _ _ _ _ _ _ _ _ _ _ _ _ b_this _ (LI_n (X := 1) (x := 1) rfl) h_x1 h_x2 h_v_a h_v_thrown h_v_best h_v_rentBy h_v_bareBy h_v_aheadBy hg) (fun R hq => ?_)
    obtain ⟨c0, c1, c2, c3, c4, c5, c6, c7, c8, c9, c10, c11, c12, c13, c14, c15, c16, c17, c18, c19, c20, c21, c22, c23, c24, c25, c26, c27, c28⟩ := hq
    exact ⟨c0, c1, c2, c3, c4, c5, c6, c7, c8, c9, c10, c11, c12, c13, c14, c15, c16, c17, c18, c19, c20, c21, c22, c23, c24, c25, c26, c27, c28⟩
  · refine lJ (l_X6_clashCost_14 _ _ _ _ _ _ _ _ _ _ _ _ b_this _ (LI_n (X := 0) (x := 0) rfl) h_x1 h_x2 h_v_a h_v_thrown h_v_best h_v_rentBy h_v_bareBy h_v_aheadBy hg) (fun R hq => ?_)
    obtain ⟨c0, c1, c2, c3, c4, c5, c6, c7, c8, c9, c10, c11, c12, c13, c14, c15, c16, c17, c18, c19, c20, c21, c22, c23, c24, c25, c26, c27, c28⟩ := hq
    exact ⟨c0, c1, c2, c3, c4, c5, c6, c7, c8, c9, c10, c11, c12, c13, c14, c15, c16, c17, c18, c19, c20, c21, c22, c23, c24, c25, c26, c27, c28⟩
set_option maxHeartbeats 4000000 in
set_option maxRecDepth 100000 in
theorem l_X6_clashesAt {n : Nat} : ∀ (Fx1 : Int32) (Fx2 : Int32) (Fx3 : Int32) (x1 : Int) (x2 : Int) (x3 : Int) (Fv_a : Nat → Int32) (b_this : BX6) (r : Int), LI Fx1 x1 → LI Fx2 x2 → LI Fx3 x3 → LA Fv_a (pX6_a b_this) → g_X6_clashesAt n b_this x1 x2 x3 = some r → ∃ R, f_X6_clashesAt n Fv_a Fx1 Fx2 Fx3 = some R ∧ LI R r := by
  intro Fx1 Fx2 Fx3 x1 x2 x3 Fv_a b_this r h_x1 h_x2 h_x3 h_v_a hg
  unfold g_X6_clashesAt at hg
  unfold f_X6_clashesAt
  refine lB_1_1 (fun r hr => l_X6_isPitch  _ _ _ b_this r h_x3 h_v_a hr) hg (fun Fr_1 r_1 hq hg => ?_)
  have q_1 := hq
  refine lI (LI_eq q_1 (LI_n (X := 0) (x := 0) rfl)) hg (fun hc hg => ?_) (fun hc hg => ?_)
  · cases hg
    exact ⟨_, rfl, (LI_n (X := 0) (x := 0) rfl)⟩
  · refine lA (EI_add (EI_i (LI_n (X := 50) (x := 50) rfl)) (EI_i h_x3)) rfl hg (fun ha_2 hg => ?_)
    refine lA (EI_add (EI_i (LI_n (X := 50) (x := 50) rfl)) (EI_i h_x2)) rfl hg (fun ha_3 hg => ?_)
    refine lI (LI_eq (LA_at h_v_a (EI_add (EI_i (LI_n (X := 50) (x := 50) rfl)) (EI_i h_x3)) ha_2) (LA_at h_v_a (EI_add (EI_i (LI_n (X := 50) (x := 50) rfl)) (EI_i h_x2)) ha_3)) hg (fun hc hg => ?_) (fun hc hg => ?_)
    · refine lB_1_1 (fun r hr => l_X6_on  _ _ _ b_this r h_x3 h_v_a hr) hg (fun Fr_5 r_5 hq hg => ?_)
      have q_4 := hq
      refine lI (LI_eq q_4 (LI_n (X := -1) (x := -1) rfl)) hg (fun hc hg => ?_) (fun hc hg => ?_)
      · cases hg
        exact ⟨_, rfl, (LI_n (X := 0) (x := 0) rfl)⟩
      · refine lB_1_1 (fun r hr => l_X6_on  _ _ _ b_this r h_x3 h_v_a hr) hg (fun Fr_7 r_7 hq hg => ?_)
        have q_5 := hq
        refine lB_1_1 (fun r hr => l_X6_doClash  _ _ _ _ _ b_this r h_x1 q_5 h_v_a hr) hg (fun Fr_9 r_9 hq hg => ?_)
        have q_6 := hq
        refine lI (LI_eq q_6 (LI_n (X := 0) (x := 0) rfl)) hg (fun hc hg => ?_) (fun hc hg => ?_)
        · cases hg
          exact ⟨_, rfl, (LI_n (X := 0) (x := 0) rfl)⟩
        · cases hg
          exact ⟨_, rfl, (LI_n (X := 1) (x := 1) rfl)⟩
    · cases hg
      exact ⟨_, rfl, (LI_n (X := 0) (x := 0) rfl)⟩
set_option maxHeartbeats 4000000 in
set_option maxRecDepth 100000 in
theorem l_X6_placed_29 {n : Nat} {K4 : Int32 → Int32 → (Nat → Int32) → Option (Int32)} {k4 : Int → Int → BX6 → Option (Int)} (hk4 : ∀ (Fx1 : Int32) (Fx2 : Int32) (x1 : Int) (x2 : Int) (Fv_a : Nat → Int32) (b_this : BX6) (r : Int), LI Fx1 x1 → LI Fx2 x2 → LA Fv_a (pX6_a b_this) → k4 x1 x2 b_this = some r → ∃ R, K4 Fx1 Fx2 Fv_a = some R ∧ LI R r) : ∀ (Ft0 : Int32) (Ft1 : Int32) (Fx2 : Int32) (t0 : Int) (t1 : Int) (x2 : Int) (Fv_a : Nat → Int32) (b_this : BX6) (r : Int), LI Ft0 t0 → LI Ft1 t1 → LI Fx2 x2 → LA Fv_a (pX6_a b_this) → g_X6_placed_29 n k4 t0 t1 x2 b_this = some r → ∃ R, f_X6_placed_29 n K4 Ft0 Ft1 Fx2 Fv_a = some R ∧ LI R r := by
  intro Ft0 Ft1 Fx2 t0 t1 x2 Fv_a b_this r h_t0 h_t1 h_x2 h_v_a hg
  unfold g_X6_placed_29 at hg
  unfold f_X6_placed_29
  refine lR hg (fun hr_1 hg => ?_)
  refine lL (LI_of (EI_add (EI_i h_t0) (EI_i h_t1)) hr_1) hg (fun Fy_1 y_1 h_y_1 hg => ?_)
  refine lR hg (fun hr_2 hg => ?_)
  refine lJ (hk4 _ _ _ _ _ b_this _ h_y_1 (LI_of (EI_add (EI_i h_x2) (EI_i (LI_n (X := 1) (x := 1) rfl))) hr_2) h_v_a hg) (fun R hq => ?_)
  have c0 := hq
  exact c0
set_option maxHeartbeats 4000000 in
set_option maxRecDepth 100000 in
theorem l_X6_placed_4 {n : Nat} : ∀ (fu : Nat), ∀ (Fx1 : Int32) (Fx2 : Int32) (x1 : Int) (x2 : Int) (Fv_a : Nat → Int32) (b_this : BX6) (r : Int), LI Fx1 x1 → LI Fx2 x2 → LA Fv_a (pX6_a b_this) → g_X6_placed_4 n fu x1 x2 b_this = some r → ∃ R, f_X6_placed_4 n fu Fx1 Fx2 Fv_a = some R ∧ LI R r := by
  intro fu
  induction fu with
  | zero => intro Fx1 Fx2 x1 x2 Fv_a b_this r h_x1 h_x2 h_v_a hg; rw [g_X6_placed_4.eq_1] at hg; cases hg
  | succ fu ih =>
    intro Fx1 Fx2 x1 x2 Fv_a b_this r h_x1 h_x2 h_v_a hg
    rw [g_X6_placed_4.eq_2] at hg
    rw [f_X6_placed_4.eq_2]
    refine lI (LI_le (LI_n (X := 8) (x := 8) rfl) h_x2) hg (fun hc hg => ?_) (fun hc hg => ?_)
    · cases hg
      exact ⟨_, rfl, h_x1⟩
    · refine lA (EI_add (EI_i (LI_n (X := 107) (x := 107) rfl)) (EI_i h_x2)) rfl hg (fun ha_3 hg => ?_)
      refine lI (LI_eq (LA_at h_v_a (EI_add (EI_i (LI_n (X := 107) (x := 107) rfl)) (EI_i h_x2)) ha_3) (LI_n (X := -1) (x := -1) rfl)) hg (fun hc hg => ?_) (fun hc hg => ?_)
      · refine lJ (l_X6_placed_29 ih _ _ _ _ _ _ _ b_this _ h_x1 (LI_n (X := 0) (x := 0) rfl) h_x2 h_v_a hg) (fun R hq => ?_)
        have c0 := hq
        exact c0
      · refine lJ (l_X6_placed_29 ih _ _ _ _ _ _ _ b_this _ h_x1 (LI_n (X := 1) (x := 1) rfl) h_x2 h_v_a hg) (fun R hq => ?_)
        have c0 := hq
        exact c0
set_option maxHeartbeats 4000000 in
set_option maxRecDepth 100000 in
theorem l_X6_placed {n : Nat} : ∀ (Fv_a : Nat → Int32) (b_this : BX6) (r : Int), LA Fv_a (pX6_a b_this) → g_X6_placed n b_this = some r → ∃ R, f_X6_placed n Fv_a = some R ∧ LI R r := by
  intro Fv_a b_this r h_v_a hg
  unfold g_X6_placed at hg
  unfold f_X6_placed
  refine lJ (l_X6_placed_4 n _ _ _ _ _ b_this _ (LI_n (X := 0) (x := 0) rfl) (LI_n (X := 0) (x := 0) rfl) h_v_a hg) (fun R hq => ?_)
  have c0 := hq
  exact c0
set_option maxHeartbeats 4000000 in
set_option maxRecDepth 100000 in
theorem l_X6_clear_16 {n : Nat} : ∀ (fu : Nat), ∀ (Fx1 : Int32) (Fx2 : Int32) (x1 : Int) (x2 : Int) (Fv_a : Nat → Int32) (Fv_kept : Nat → Int32) (Fv_keptMany : Int32) (Fv_thrown : Int32) (b_this : BX6) (r : Int × BX6), LI Fx1 x1 → LI Fx2 x2 → LA Fv_a (pX6_a b_this) → LA Fv_kept (pX6_kept b_this) → LI Fv_keptMany (pX6_keptMany b_this) → LI Fv_thrown (pX6_thrown b_this) → g_X6_clear_16 n fu x1 x2 b_this = some r → ∃ R, f_X6_clear_16 n fu Fx1 Fx2 Fv_a Fv_kept Fv_keptMany Fv_thrown = some R ∧ LI (R.1) (r.1) ∧ LA (R.2.1) (pX6_a (r.2)) ∧ LA (R.2.2.1) (pX6_kept (r.2)) ∧ LI (R.2.2.2.1) (pX6_keptMany (r.2)) ∧ LI (R.2.2.2.2) (pX6_thrown (r.2)) ∧ (pX6_fresh (r.2)) = (pX6_fresh b_this) ∧ (pX6_buffer (r.2)) = (pX6_buffer b_this) ∧ (pX6_buffered (r.2)) = (pX6_buffered b_this) ∧ (pX6_size (r.2)) = (pX6_size b_this) ∧ (pX6_at (r.2)) = (pX6_at b_this) ∧ (pX6_behind (r.2)) = (pX6_behind b_this) ∧ (pX6_kind (r.2)) = (pX6_kind b_this) ∧ (pX6_wrong (r.2)) = (pX6_wrong b_this) ∧ (pX6_wrongAt (r.2)) = (pX6_wrongAt b_this) ∧ (pX6_errorAt (r.2)) = (pX6_errorAt b_this) ∧ (pX6_number (r.2)) = (pX6_number b_this) ∧ (pX6_best (r.2)) = (pX6_best b_this) ∧ (pX6_rentBy (r.2)) = (pX6_rentBy b_this) ∧ (pX6_bareBy (r.2)) = (pX6_bareBy b_this) ∧ (pX6_aheadBy (r.2)) = (pX6_aheadBy b_this) ∧ (pX6_isEdge (r.2)) = (pX6_isEdge b_this) ∧ (pX6_tried (r.2)) = (pX6_tried b_this) ∧ (pX6_stands (r.2)) = (pX6_stands b_this) ∧ (pX6_found (r.2)) = (pX6_found b_this) ∧ (pX6_foundOn (r.2)) = (pX6_foundOn b_this) ∧ (pX6_moving (r.2)) = (pX6_moving b_this) ∧ (pX6_movingMany (r.2)) = (pX6_movingMany b_this) ∧ (pX6_foundIncome (r.2)) = (pX6_foundIncome b_this) ∧ (pX6_foundMoves (r.2)) = (pX6_foundMoves b_this) := by
  intro fu
  induction fu with
  | zero => intro Fx1 Fx2 x1 x2 Fv_a Fv_kept Fv_keptMany Fv_thrown b_this r h_x1 h_x2 h_v_a h_v_kept h_v_keptMany h_v_thrown hg; rw [g_X6_clear_16.eq_1] at hg; cases hg
  | succ fu ih =>
    intro Fx1 Fx2 x1 x2 Fv_a Fv_kept Fv_keptMany Fv_thrown b_this r h_x1 h_x2 h_v_a h_v_kept h_v_keptMany h_v_thrown hg
    rw [g_X6_clear_16.eq_2] at hg
    rw [f_X6_clear_16.eq_2]
    refine lI (LI_le (LI_n (X := 8) (x := 8) rfl) h_x2) hg (fun hc hg => ?_) (fun hc hg => ?_)
    · cases hg
      exact ⟨_, rfl, h_x1, h_v_a, h_v_kept, h_v_keptMany, h_v_thrown, rfl, rfl, rfl, rfl, rfl, rfl, rfl, rfl, rfl, rfl, rfl, rfl, rfl, rfl, rfl, rfl, rfl, rfl, rfl, rfl, rfl, rfl, rfl, rfl⟩
    · refine lA (EI_add (EI_i (LI_n (X := 107) (x := 107) rfl)) (EI_i h_x2)) rfl hg (fun ha_1 hg => ?_)
      refine lL (LA_upd h_v_a (EI_add (EI_i (LI_n (X := 107) (x := 107) rfl)) (EI_i h_x2)) ha_1 (LI_n (X := -1) (x := -1) rfl)) hg (fun Fv_2 v_2 h_v_2 hg => ?_)
      refine lR hg (fun hr_2 hg => ?_)
      refine lJ (ih _ _ _ _ _ _ _ _ (sX6_a b_this v_2) _ h_x1 (LI_of (EI_add (EI_i h_x2) (EI_i (LI_n (X := 1) (x := 1) rfl))) hr_2) (LA_cg (eX6_a_a _ _) h_v_2) (LA_cg (eX6_kept_a _ _) h_v_kept) (LI_cg (eX6_keptMany_a _ _) h_v_keptMany) (LI_cg (eX6_thrown_a _ _) h_v_thrown) hg) (fun R hq => ?_)
      obtain ⟨c0, c1, c2, c3, c4, c5, c6, c7, c8, c9, c10, c11, c12, c13, c14, c15, c16, c17, c18, c19, c20, c21, c22, c23, c24, c25, c26, c27, c28⟩ := hq
      exact ⟨c0, c1, c2, c3, c4, (c5).trans (eX6_fresh_a _ _), (c6).trans (eX6_buffer_a _ _), (c7).trans (eX6_buffered_a _ _), (c8).trans (eX6_size_a _ _), (c9).trans (eX6_at_a _ _), (c10).trans (eX6_behind_a _ _), (c11).trans (eX6_kind_a _ _), (c12).trans (eX6_wrong_a _ _), (c13).trans (eX6_wrongAt_a _ _), (c14).trans (eX6_errorAt_a _ _), (c15).trans (eX6_number_a _ _), (c16).trans (eX6_best_a _ _), (c17).trans (eX6_rentBy_a _ _), (c18).trans (eX6_bareBy_a _ _), (c19).trans (eX6_aheadBy_a _ _), (c20).trans (eX6_isEdge_a _ _), (c21).trans (eX6_tried_a _ _), (c22).trans (eX6_stands_a _ _), (c23).trans (eX6_found_a _ _), (c24).trans (eX6_foundOn_a _ _), (c25).trans (eX6_moving_a _ _), (c26).trans (eX6_movingMany_a _ _), (c27).trans (eX6_foundIncome_a _ _), (c28).trans (eX6_foundMoves_a _ _)⟩
set_option maxHeartbeats 4000000 in
set_option maxRecDepth 100000 in
theorem l_X6_clear {n : Nat} : ∀ (Fv_a : Nat → Int32) (Fv_kept : Nat → Int32) (Fv_keptMany : Int32) (Fv_thrown : Int32) (b_this : BX6) (r : Int × BX6), LA Fv_a (pX6_a b_this) → LA Fv_kept (pX6_kept b_this) → LI Fv_keptMany (pX6_keptMany b_this) → LI Fv_thrown (pX6_thrown b_this) → g_X6_clear n b_this = some r → ∃ R, f_X6_clear n Fv_a Fv_kept Fv_keptMany Fv_thrown = some R ∧ LI (R.1) (r.1) ∧ LA (R.2.1) (pX6_a (r.2)) ∧ LA (R.2.2.1) (pX6_kept (r.2)) ∧ LI (R.2.2.2.1) (pX6_keptMany (r.2)) ∧ LI (R.2.2.2.2) (pX6_thrown (r.2)) ∧ (pX6_fresh (r.2)) = (pX6_fresh b_this) ∧ (pX6_buffer (r.2)) = (pX6_buffer b_this) ∧ (pX6_buffered (r.2)) = (pX6_buffered b_this) ∧ (pX6_size (r.2)) = (pX6_size b_this) ∧ (pX6_at (r.2)) = (pX6_at b_this) ∧ (pX6_behind (r.2)) = (pX6_behind b_this) ∧ (pX6_kind (r.2)) = (pX6_kind b_this) ∧ (pX6_wrong (r.2)) = (pX6_wrong b_this) ∧ (pX6_wrongAt (r.2)) = (pX6_wrongAt b_this) ∧ (pX6_errorAt (r.2)) = (pX6_errorAt b_this) ∧ (pX6_number (r.2)) = (pX6_number b_this) ∧ (pX6_best (r.2)) = (pX6_best b_this) ∧ (pX6_rentBy (r.2)) = (pX6_rentBy b_this) ∧ (pX6_bareBy (r.2)) = (pX6_bareBy b_this) ∧ (pX6_aheadBy (r.2)) = (pX6_aheadBy b_this) ∧ (pX6_isEdge (r.2)) = (pX6_isEdge b_this) ∧ (pX6_tried (r.2)) = (pX6_tried b_this) ∧ (pX6_stands (r.2)) = (pX6_stands b_this) ∧ (pX6_found (r.2)) = (pX6_found b_this) ∧ (pX6_foundOn (r.2)) = (pX6_foundOn b_this) ∧ (pX6_moving (r.2)) = (pX6_moving b_this) ∧ (pX6_movingMany (r.2)) = (pX6_movingMany b_this) ∧ (pX6_foundIncome (r.2)) = (pX6_foundIncome b_this) ∧ (pX6_foundMoves (r.2)) = (pX6_foundMoves b_this) := by
  intro Fv_a Fv_kept Fv_keptMany Fv_thrown b_this r h_v_a h_v_kept h_v_keptMany h_v_thrown hg
  unfold g_X6_clear at hg
  unfold f_X6_clear
  refine lB_2_1 (fun r hr => l_X6_keeps  _ _ _ (sX6_thrown b_this 0) r (LA_cg (eX6_a_thrown _ _) h_v_a) (LA_cg (eX6_kept_thrown _ _) h_v_kept) (LI_cg (eX6_keptMany_thrown _ _) h_v_keptMany) hr) hg (fun Fv_3 Fv_4 b_3 hq hg => ?_)
  obtain ⟨q_4, q_5, q_6, q_7, q_8, q_9, q_10, q_11, q_12, q_13, q_14, q_15, q_16, q_17, q_18, q_19, q_20, q_21, q_22, q_23, q_24, q_25, q_26, q_27, q_28, q_29, q_30, q_31⟩ := hq
  have qe_32 := Eq.trans q_6 (eX6_a_thrown _ _)
  have qe_33 := Eq.trans q_7 (eX6_fresh_thrown _ _)
  have qe_34 := Eq.trans q_8 (eX6_thrown_thrown _ _)
  have qe_35 := Eq.trans q_9 (eX6_buffer_thrown _ _)
  have qe_36 := Eq.trans q_10 (eX6_buffered_thrown _ _)
  have qe_37 := Eq.trans q_11 (eX6_size_thrown _ _)
  have qe_38 := Eq.trans q_12 (eX6_at_thrown _ _)
  have qe_39 := Eq.trans q_13 (eX6_behind_thrown _ _)
  have qe_40 := Eq.trans q_14 (eX6_kind_thrown _ _)
  have qe_41 := Eq.trans q_15 (eX6_wrong_thrown _ _)
  have qe_42 := Eq.trans q_16 (eX6_wrongAt_thrown _ _)
  have qe_43 := Eq.trans q_17 (eX6_errorAt_thrown _ _)
  have qe_44 := Eq.trans q_18 (eX6_number_thrown _ _)
  have qe_45 := Eq.trans q_19 (eX6_best_thrown _ _)
  have qe_46 := Eq.trans q_20 (eX6_rentBy_thrown _ _)
  have qe_47 := Eq.trans q_21 (eX6_bareBy_thrown _ _)
  have qe_48 := Eq.trans q_22 (eX6_aheadBy_thrown _ _)
  have qe_49 := Eq.trans q_23 (eX6_isEdge_thrown _ _)
  have qe_50 := Eq.trans q_24 (eX6_tried_thrown _ _)
  have qe_51 := Eq.trans q_25 (eX6_stands_thrown _ _)
  have qe_52 := Eq.trans q_26 (eX6_found_thrown _ _)
  have qe_53 := Eq.trans q_27 (eX6_foundOn_thrown _ _)
  have qe_54 := Eq.trans q_28 (eX6_moving_thrown _ _)
  have qe_55 := Eq.trans q_29 (eX6_movingMany_thrown _ _)
  have qe_56 := Eq.trans q_30 (eX6_foundIncome_thrown _ _)
  have qe_57 := Eq.trans q_31 (eX6_foundMoves_thrown _ _)
  have hl_58 := (LA_cg qe_32 h_v_a)
  have hl_59 := (LI_cg qe_34 (LI_n (X := 0) (x := 0) rfl))
  refine lB_1_1 (fun r hr => l_X6_placed  _ b_3 r hl_58 hr) hg (fun Fr_6 r_6 hq hg => ?_)
  have q_60 := hq
  refine lJ (l_X6_clear_16 n _ _ _ _ _ _ _ _ b_3 _ q_60 (LI_n (X := 0) (x := 0) rfl) hl_58 q_4 q_5 hl_59 hg) (fun R hq => ?_)
  obtain ⟨c0, c1, c2, c3, c4, c5, c6, c7, c8, c9, c10, c11, c12, c13, c14, c15, c16, c17, c18, c19, c20, c21, c22, c23, c24, c25, c26, c27, c28⟩ := hq
  exact ⟨c0, c1, c2, c3, c4, (c5).trans qe_33, (c6).trans qe_35, (c7).trans qe_36, (c8).trans qe_37, (c9).trans qe_38, (c10).trans qe_39, (c11).trans qe_40, (c12).trans qe_41, (c13).trans qe_42, (c14).trans qe_43, (c15).trans qe_44, (c16).trans qe_45, (c17).trans qe_46, (c18).trans qe_47, (c19).trans qe_48, (c20).trans qe_49, (c21).trans qe_50, (c22).trans qe_51, (c23).trans qe_52, (c24).trans qe_53, (c25).trans qe_54, (c26).trans qe_55, (c27).trans qe_56, (c28).trans qe_57⟩
set_option maxHeartbeats 4000000 in
set_option maxRecDepth 100000 in
theorem l_X6_isAhead_55 {n : Nat} {K2 : Int32 → (Nat → Int32) → (Nat → Int32) → (Nat → Int32) → Option (Int32)} {k2 : Int → BX6 → Option (Int)} (hk2 : ∀ (Fx1 : Int32) (x1 : Int) (Fv_a : Nat → Int32) (Fv_stands : Nat → Int32) (Fv_foundOn : Nat → Int32) (b_this : BX6) (r : Int), LI Fx1 x1 → LA Fv_a (pX6_a b_this) → LA Fv_stands (pX6_stands b_this) → LA Fv_foundOn (pX6_foundOn b_this) → k2 x1 b_this = some r → ∃ R, K2 Fx1 Fv_a Fv_stands Fv_foundOn = some R ∧ LI R r) : ∀ (Ft0 : Int32) (Fx1 : Int32) (Fx2 : Int32) (t0 : Int) (x1 : Int) (x2 : Int) (Fv_a : Nat → Int32) (Fv_stands : Nat → Int32) (Fv_foundOn : Nat → Int32) (b_this : BX6) (r : Int), LI Ft0 t0 → LI Fx1 x1 → LI Fx2 x2 → LA Fv_a (pX6_a b_this) → LA Fv_stands (pX6_stands b_this) → LA Fv_foundOn (pX6_foundOn b_this) → g_X6_isAhead_55 n k2 t0 x1 x2 b_this = some r → ∃ R, f_X6_isAhead_55 n K2 Ft0 Fx1 Fx2 Fv_a Fv_stands Fv_foundOn = some R ∧ LI R r := by
  intro Ft0 Fx1 Fx2 t0 x1 x2 Fv_a Fv_stands Fv_foundOn b_this r h_t0 h_x1 h_x2 h_v_a h_v_stands h_v_foundOn hg
  unfold g_X6_isAhead_55 at hg
  unfold f_X6_isAhead_55
  refine lI (LI_eq h_x2 h_t0) hg (fun hc hg => ?_) (fun hc hg => ?_)
  · refine lR hg (fun hr_1 hg => ?_)
    refine lJ (hk2 _ _ _ _ _ b_this _ (LI_of (EI_add (EI_i h_x1) (EI_i (LI_n (X := 1) (x := 1) rfl))) hr_1) h_v_a h_v_stands h_v_foundOn hg) (fun R hq => ?_)
    have c0 := hq
    exact c0
  · refine lI (LI_le h_t0 h_x2) hg (fun hc hg => ?_) (fun hc hg => ?_)
    · cases hg
      exact ⟨_, rfl, (LI_n (X := 0) (x := 0) rfl)⟩
    · cases hg
      exact ⟨_, rfl, (LI_n (X := 1) (x := 1) rfl)⟩
set_option maxHeartbeats 4000000 in
set_option maxRecDepth 100000 in
theorem l_X6_isAhead_33 {n : Nat} {K2 : Int32 → (Nat → Int32) → (Nat → Int32) → (Nat → Int32) → Option (Int32)} {k2 : Int → BX6 → Option (Int)} (hk2 : ∀ (Fx1 : Int32) (x1 : Int) (Fv_a : Nat → Int32) (Fv_stands : Nat → Int32) (Fv_foundOn : Nat → Int32) (b_this : BX6) (r : Int), LI Fx1 x1 → LA Fv_a (pX6_a b_this) → LA Fv_stands (pX6_stands b_this) → LA Fv_foundOn (pX6_foundOn b_this) → k2 x1 b_this = some r → ∃ R, K2 Fx1 Fv_a Fv_stands Fv_foundOn = some R ∧ LI R r) : ∀ (Ft0 : Int32) (Fx1 : Int32) (t0 : Int) (x1 : Int) (Fv_a : Nat → Int32) (Fv_stands : Nat → Int32) (Fv_foundOn : Nat → Int32) (b_this : BX6) (r : Int), LI Ft0 t0 → LI Fx1 x1 → LA Fv_a (pX6_a b_this) → LA Fv_stands (pX6_stands b_this) → LA Fv_foundOn (pX6_foundOn b_this) → g_X6_isAhead_33 n k2 t0 x1 b_this = some r → ∃ R, f_X6_isAhead_33 n K2 Ft0 Fx1 Fv_a Fv_stands Fv_foundOn = some R ∧ LI R r := by
  intro Ft0 Fx1 t0 x1 Fv_a Fv_stands Fv_foundOn b_this r h_t0 h_x1 h_v_a h_v_stands h_v_foundOn hg
  unfold g_X6_isAhead_33 at hg
  unfold f_X6_isAhead_33
  refine lA (EI_i h_x1) rfl hg (fun ha_2 hg => ?_)
  refine lI (LI_eq (LA_at h_v_foundOn (EI_i h_x1) ha_2) (LI_n (X := -1) (x := -1) rfl)) hg (fun hc hg => ?_) (fun hc hg => ?_)
  · refine lJ (l_X6_isAhead_55 hk2 _ _ _ _ _ _ _ _ _ b_this _ (LI_n (X := 8) (x := 8) rfl) h_x1 h_t0 h_v_a h_v_stands h_v_foundOn hg) (fun R hq => ?_)
    have c0 := hq
    exact c0
  · refine lA (EI_i h_x1) rfl hg (fun ha_3 hg => ?_)
    refine lJ (l_X6_isAhead_55 hk2 _ _ _ _ _ _ _ _ _ b_this _ (LA_at h_v_foundOn (EI_i h_x1) ha_3) h_x1 h_t0 h_v_a h_v_stands h_v_foundOn hg) (fun R hq => ?_)
    have c0 := hq
    exact c0
set_option maxHeartbeats 4000000 in
set_option maxRecDepth 100000 in
theorem l_X6_isAhead_2 {n : Nat} : ∀ (fu : Nat), ∀ (Fx1 : Int32) (x1 : Int) (Fv_a : Nat → Int32) (Fv_stands : Nat → Int32) (Fv_foundOn : Nat → Int32) (b_this : BX6) (r : Int), LI Fx1 x1 → LA Fv_a (pX6_a b_this) → LA Fv_stands (pX6_stands b_this) → LA Fv_foundOn (pX6_foundOn b_this) → g_X6_isAhead_2 n fu x1 b_this = some r → ∃ R, f_X6_isAhead_2 n fu Fx1 Fv_a Fv_stands Fv_foundOn = some R ∧ LI R r := by
  intro fu
  induction fu with
  | zero => intro Fx1 x1 Fv_a Fv_stands Fv_foundOn b_this r h_x1 h_v_a h_v_stands h_v_foundOn hg; rw [g_X6_isAhead_2.eq_1] at hg; cases hg
  | succ fu ih =>
    intro Fx1 x1 Fv_a Fv_stands Fv_foundOn b_this r h_x1 h_v_a h_v_stands h_v_foundOn hg
    rw [g_X6_isAhead_2.eq_2] at hg
    rw [f_X6_isAhead_2.eq_2]
    refine lA (EI_i (LI_n (X := 1) (x := 1) rfl)) rfl hg (fun ha_4 hg => ?_)
    refine lI (LI_le (LA_at h_v_a (EI_i (LI_n (X := 1) (x := 1) rfl)) ha_4) h_x1) hg (fun hc hg => ?_) (fun hc hg => ?_)
    · cases hg
      exact ⟨_, rfl, (LI_n (X := 0) (x := 0) rfl)⟩
    · refine lA (EI_i h_x1) rfl hg (fun ha_5 hg => ?_)
      refine lI (LI_eq (LA_at h_v_stands (EI_i h_x1) ha_5) (LI_n (X := -1) (x := -1) rfl)) hg (fun hc hg => ?_) (fun hc hg => ?_)
      · refine lJ (l_X6_isAhead_33 ih _ _ _ _ _ _ _ b_this _ (LI_n (X := 8) (x := 8) rfl) h_x1 h_v_a h_v_stands h_v_foundOn hg) (fun R hq => ?_)
        have c0 := hq
        exact c0
      · refine lA (EI_i h_x1) rfl hg (fun ha_6 hg => ?_)
        refine lJ (l_X6_isAhead_33 ih _ _ _ _ _ _ _ b_this _ (LA_at h_v_stands (EI_i h_x1) ha_6) h_x1 h_v_a h_v_stands h_v_foundOn hg) (fun R hq => ?_)
        have c0 := hq
        exact c0
set_option maxHeartbeats 4000000 in
set_option maxRecDepth 100000 in
theorem l_X6_isAhead {n : Nat} : ∀ (Fv_a : Nat → Int32) (Fv_stands : Nat → Int32) (Fv_foundOn : Nat → Int32) (b_this : BX6) (r : Int), LA Fv_a (pX6_a b_this) → LA Fv_stands (pX6_stands b_this) → LA Fv_foundOn (pX6_foundOn b_this) → g_X6_isAhead n b_this = some r → ∃ R, f_X6_isAhead n Fv_a Fv_stands Fv_foundOn = some R ∧ LI R r := by
  intro Fv_a Fv_stands Fv_foundOn b_this r h_v_a h_v_stands h_v_foundOn hg
  unfold g_X6_isAhead at hg
  unfold f_X6_isAhead
  refine lJ (l_X6_isAhead_2 n _ _ _ _ _ b_this _ (LI_n (X := 0) (x := 0) rfl) h_v_a h_v_stands h_v_foundOn hg) (fun R hq => ?_)
  have c0 := hq
  exact c0
set_option maxHeartbeats 4000000 in
set_option maxRecDepth 100000 in
theorem l_X6_compares_199 {n : Nat} : ∀ (fu : Nat), ∀ (Fx4 : Int32) (x4 : Int) (Fv_stands : Nat → Int32) (Fv_found : Nat → Int32) (Fv_foundOn : Nat → Int32) (Fv_foundIncome : Int32) (Fv_foundMoves : Int32) (b_this : BX6) (r : BX6), LI Fx4 x4 → LA Fv_stands (pX6_stands b_this) → LA Fv_found (pX6_found b_this) → LA Fv_foundOn (pX6_foundOn b_this) → LI Fv_foundIncome (pX6_foundIncome b_this) → LI Fv_foundMoves (pX6_foundMoves b_this) → g_X6_compares_199 n fu x4 b_this = some r → ∃ R, f_X6_compares_199 n fu Fx4 Fv_stands Fv_found Fv_foundOn Fv_foundIncome Fv_foundMoves = some R ∧ LA (R.1) (pX6_found r) ∧ LA (R.2.1) (pX6_foundOn r) ∧ LI (R.2.2.1) (pX6_foundIncome r) ∧ LI (R.2.2.2) (pX6_foundMoves r) ∧ (pX6_a r) = (pX6_a b_this) ∧ (pX6_fresh r) = (pX6_fresh b_this) ∧ (pX6_kept r) = (pX6_kept b_this) ∧ (pX6_keptMany r) = (pX6_keptMany b_this) ∧ (pX6_thrown r) = (pX6_thrown b_this) ∧ (pX6_buffer r) = (pX6_buffer b_this) ∧ (pX6_buffered r) = (pX6_buffered b_this) ∧ (pX6_size r) = (pX6_size b_this) ∧ (pX6_at r) = (pX6_at b_this) ∧ (pX6_behind r) = (pX6_behind b_this) ∧ (pX6_kind r) = (pX6_kind b_this) ∧ (pX6_wrong r) = (pX6_wrong b_this) ∧ (pX6_wrongAt r) = (pX6_wrongAt b_this) ∧ (pX6_errorAt r) = (pX6_errorAt b_this) ∧ (pX6_number r) = (pX6_number b_this) ∧ (pX6_best r) = (pX6_best b_this) ∧ (pX6_rentBy r) = (pX6_rentBy b_this) ∧ (pX6_bareBy r) = (pX6_bareBy b_this) ∧ (pX6_aheadBy r) = (pX6_aheadBy b_this) ∧ (pX6_isEdge r) = (pX6_isEdge b_this) ∧ (pX6_tried r) = (pX6_tried b_this) ∧ (pX6_stands r) = (pX6_stands b_this) ∧ (pX6_moving r) = (pX6_moving b_this) ∧ (pX6_movingMany r) = (pX6_movingMany b_this) := by
  intro fu
  induction fu with
  | zero => intro Fx4 x4 Fv_stands Fv_found Fv_foundOn Fv_foundIncome Fv_foundMoves b_this r h_x4 h_v_stands h_v_found h_v_foundOn h_v_foundIncome h_v_foundMoves hg; rw [g_X6_compares_199.eq_1] at hg; cases hg
  | succ fu ih =>
    intro Fx4 x4 Fv_stands Fv_found Fv_foundOn Fv_foundIncome Fv_foundMoves b_this r h_x4 h_v_stands h_v_found h_v_foundOn h_v_foundIncome h_v_foundMoves hg
    rw [g_X6_compares_199.eq_2] at hg
    rw [f_X6_compares_199.eq_2]
    refine lI (LI_le (LI_n (X := 24) (x := 24) rfl) h_x4) hg (fun hc hg => ?_) (fun hc hg => ?_)
    · cases hg
      exact ⟨_, rfl, h_v_found, h_v_foundOn, h_v_foundIncome, h_v_foundMoves, rfl, rfl, rfl, rfl, rfl, rfl, rfl, rfl, rfl, rfl, rfl, rfl, rfl, rfl, rfl, rfl, rfl, rfl, rfl, rfl, rfl, rfl, rfl, rfl⟩
    · refine lA (EI_i h_x4) rfl hg (fun ha_1 hg => ?_)
      refine lA (EI_i h_x4) rfl hg (fun ha_2 hg => ?_)
      refine lL (LA_upd h_v_foundOn (EI_i h_x4) ha_2 (LA_at h_v_stands (EI_i h_x4) ha_2)) hg (fun Fv_3 v_3 h_v_3 hg => ?_)
      refine lR hg (fun hr_3 hg => ?_)
      refine lJ (ih _ _ _ _ _ _ _ (sX6_foundOn b_this v_3) _ (LI_of (EI_add (EI_i h_x4) (EI_i (LI_n (X := 1) (x := 1) rfl))) hr_3) (LA_cg (eX6_stands_foundOn _ _) h_v_stands) (LA_cg (eX6_found_foundOn _ _) h_v_found) (LA_cg (eX6_foundOn_foundOn _ _) h_v_3) (LI_cg (eX6_foundIncome_foundOn _ _) h_v_foundIncome) (LI_cg (eX6_foundMoves_foundOn _ _) h_v_foundMoves) hg) (fun R hq => ?_)
      obtain ⟨c0, c1, c2, c3, c4, c5, c6, c7, c8, c9, c10, c11, c12, c13, c14, c15, c16, c17, c18, c19, c20, c21, c22, c23, c24, c25, c26, c27⟩ := hq
      exact ⟨c0, c1, c2, c3, (c4).trans (eX6_a_foundOn _ _), (c5).trans (eX6_fresh_foundOn _ _), (c6).trans (eX6_kept_foundOn _ _), (c7).trans (eX6_keptMany_foundOn _ _), (c8).trans (eX6_thrown_foundOn _ _), (c9).trans (eX6_buffer_foundOn _ _), (c10).trans (eX6_buffered_foundOn _ _), (c11).trans (eX6_size_foundOn _ _), (c12).trans (eX6_at_foundOn _ _), (c13).trans (eX6_behind_foundOn _ _), (c14).trans (eX6_kind_foundOn _ _), (c15).trans (eX6_wrong_foundOn _ _), (c16).trans (eX6_wrongAt_foundOn _ _), (c17).trans (eX6_errorAt_foundOn _ _), (c18).trans (eX6_number_foundOn _ _), (c19).trans (eX6_best_foundOn _ _), (c20).trans (eX6_rentBy_foundOn _ _), (c21).trans (eX6_bareBy_foundOn _ _), (c22).trans (eX6_aheadBy_foundOn _ _), (c23).trans (eX6_isEdge_foundOn _ _), (c24).trans (eX6_tried_foundOn _ _), (c25).trans (eX6_stands_foundOn _ _), (c26).trans (eX6_moving_foundOn _ _), (c27).trans (eX6_movingMany_foundOn _ _)⟩
set_option maxHeartbeats 4000000 in
set_option maxRecDepth 100000 in
theorem l_X6_compares_169 {n : Nat} : ∀ (fu : Nat), ∀ (Fx4 : Int32) (x4 : Int) (Fv_tried : Nat → Int32) (Fv_stands : Nat → Int32) (Fv_found : Nat → Int32) (Fv_foundOn : Nat → Int32) (Fv_foundIncome : Int32) (Fv_foundMoves : Int32) (b_this : BX6) (r : BX6), LI Fx4 x4 → LA Fv_tried (pX6_tried b_this) → LA Fv_stands (pX6_stands b_this) → LA Fv_found (pX6_found b_this) → LA Fv_foundOn (pX6_foundOn b_this) → LI Fv_foundIncome (pX6_foundIncome b_this) → LI Fv_foundMoves (pX6_foundMoves b_this) → g_X6_compares_169 n fu x4 b_this = some r → ∃ R, f_X6_compares_169 n fu Fx4 Fv_tried Fv_stands Fv_found Fv_foundOn Fv_foundIncome Fv_foundMoves = some R ∧ LA (R.1) (pX6_found r) ∧ LA (R.2.1) (pX6_foundOn r) ∧ LI (R.2.2.1) (pX6_foundIncome r) ∧ LI (R.2.2.2) (pX6_foundMoves r) ∧ (pX6_a r) = (pX6_a b_this) ∧ (pX6_fresh r) = (pX6_fresh b_this) ∧ (pX6_kept r) = (pX6_kept b_this) ∧ (pX6_keptMany r) = (pX6_keptMany b_this) ∧ (pX6_thrown r) = (pX6_thrown b_this) ∧ (pX6_buffer r) = (pX6_buffer b_this) ∧ (pX6_buffered r) = (pX6_buffered b_this) ∧ (pX6_size r) = (pX6_size b_this) ∧ (pX6_at r) = (pX6_at b_this) ∧ (pX6_behind r) = (pX6_behind b_this) ∧ (pX6_kind r) = (pX6_kind b_this) ∧ (pX6_wrong r) = (pX6_wrong b_this) ∧ (pX6_wrongAt r) = (pX6_wrongAt b_this) ∧ (pX6_errorAt r) = (pX6_errorAt b_this) ∧ (pX6_number r) = (pX6_number b_this) ∧ (pX6_best r) = (pX6_best b_this) ∧ (pX6_rentBy r) = (pX6_rentBy b_this) ∧ (pX6_bareBy r) = (pX6_bareBy b_this) ∧ (pX6_aheadBy r) = (pX6_aheadBy b_this) ∧ (pX6_isEdge r) = (pX6_isEdge b_this) ∧ (pX6_tried r) = (pX6_tried b_this) ∧ (pX6_stands r) = (pX6_stands b_this) ∧ (pX6_moving r) = (pX6_moving b_this) ∧ (pX6_movingMany r) = (pX6_movingMany b_this) := by
  intro fu
  induction fu with
  | zero => intro Fx4 x4 Fv_tried Fv_stands Fv_found Fv_foundOn Fv_foundIncome Fv_foundMoves b_this r h_x4 h_v_tried h_v_stands h_v_found h_v_foundOn h_v_foundIncome h_v_foundMoves hg; rw [g_X6_compares_169.eq_1] at hg; cases hg
  | succ fu ih =>
    intro Fx4 x4 Fv_tried Fv_stands Fv_found Fv_foundOn Fv_foundIncome Fv_foundMoves b_this r h_x4 h_v_tried h_v_stands h_v_found h_v_foundOn h_v_foundIncome h_v_foundMoves hg
    rw [g_X6_compares_169.eq_2] at hg
    rw [f_X6_compares_169.eq_2]
    refine lI (LI_le (LI_n (X := 8) (x := 8) rfl) h_x4) hg (fun hc hg => ?_) (fun hc hg => ?_)
    · refine lJ (l_X6_compares_199 n _ _ _ _ _ _ _ b_this _ (LI_n (X := 0) (x := 0) rfl) h_v_stands h_v_found h_v_foundOn h_v_foundIncome h_v_foundMoves hg) (fun R hq => ?_)
      obtain ⟨c0, c1, c2, c3, c4, c5, c6, c7, c8, c9, c10, c11, c12, c13, c14, c15, c16, c17, c18, c19, c20, c21, c22, c23, c24, c25, c26, c27⟩ := hq
      exact ⟨c0, c1, c2, c3, c4, c5, c6, c7, c8, c9, c10, c11, c12, c13, c14, c15, c16, c17, c18, c19, c20, c21, c22, c23, c24, c25, c26, c27⟩
    · refine lA (EI_i h_x4) rfl hg (fun ha_4 hg => ?_)
      refine lA (EI_i h_x4) rfl hg (fun ha_5 hg => ?_)
      refine lL (LA_upd h_v_found (EI_i h_x4) ha_5 (LA_at h_v_tried (EI_i h_x4) ha_5)) hg (fun Fv_6 v_6 h_v_6 hg => ?_)
      refine lR hg (fun hr_6 hg => ?_)
      refine lJ (ih _ _ _ _ _ _ _ _ (sX6_found b_this v_6) _ (LI_of (EI_add (EI_i h_x4) (EI_i (LI_n (X := 1) (x := 1) rfl))) hr_6) (LA_cg (eX6_tried_found _ _) h_v_tried) (LA_cg (eX6_stands_found _ _) h_v_stands) (LA_cg (eX6_found_found _ _) h_v_6) (LA_cg (eX6_foundOn_found _ _) h_v_foundOn) (LI_cg (eX6_foundIncome_found _ _) h_v_foundIncome) (LI_cg (eX6_foundMoves_found _ _) h_v_foundMoves) hg) (fun R hq => ?_)
      obtain ⟨c0, c1, c2, c3, c4, c5, c6, c7, c8, c9, c10, c11, c12, c13, c14, c15, c16, c17, c18, c19, c20, c21, c22, c23, c24, c25, c26, c27⟩ := hq
      exact ⟨c0, c1, c2, c3, (c4).trans (eX6_a_found _ _), (c5).trans (eX6_fresh_found _ _), (c6).trans (eX6_kept_found _ _), (c7).trans (eX6_keptMany_found _ _), (c8).trans (eX6_thrown_found _ _), (c9).trans (eX6_buffer_found _ _), (c10).trans (eX6_buffered_found _ _), (c11).trans (eX6_size_found _ _), (c12).trans (eX6_at_found _ _), (c13).trans (eX6_behind_found _ _), (c14).trans (eX6_kind_found _ _), (c15).trans (eX6_wrong_found _ _), (c16).trans (eX6_wrongAt_found _ _), (c17).trans (eX6_errorAt_found _ _), (c18).trans (eX6_number_found _ _), (c19).trans (eX6_best_found _ _), (c20).trans (eX6_rentBy_found _ _), (c21).trans (eX6_bareBy_found _ _), (c22).trans (eX6_aheadBy_found _ _), (c23).trans (eX6_isEdge_found _ _), (c24).trans (eX6_tried_found _ _), (c25).trans (eX6_stands_found _ _), (c26).trans (eX6_moving_found _ _), (c27).trans (eX6_movingMany_found _ _)⟩
set_option maxHeartbeats 4000000 in
set_option maxRecDepth 100000 in
theorem l_X6_compares_156 {n : Nat} : ∀ (Fx1 : Int32) (Fx2 : Int32) (x1 : Int) (x2 : Int) (Fv_tried : Nat → Int32) (Fv_stands : Nat → Int32) (Fv_found : Nat → Int32) (Fv_foundOn : Nat → Int32) (Fv_foundIncome : Int32) (Fv_foundMoves : Int32) (b_this : BX6) (r : BX6), LI Fx1 x1 → LI Fx2 x2 → LA Fv_tried (pX6_tried b_this) → LA Fv_stands (pX6_stands b_this) → LA Fv_found (pX6_found b_this) → LA Fv_foundOn (pX6_foundOn b_this) → LI Fv_foundIncome (pX6_foundIncome b_this) → LI Fv_foundMoves (pX6_foundMoves b_this) → g_X6_compares_156 n x1 x2 b_this = some r → ∃ R, f_X6_compares_156 n Fx1 Fx2 Fv_tried Fv_stands Fv_found Fv_foundOn Fv_foundIncome Fv_foundMoves = some R ∧ LA (R.1) (pX6_found r) ∧ LA (R.2.1) (pX6_foundOn r) ∧ LI (R.2.2.1) (pX6_foundIncome r) ∧ LI (R.2.2.2) (pX6_foundMoves r) ∧ (pX6_a r) = (pX6_a b_this) ∧ (pX6_fresh r) = (pX6_fresh b_this) ∧ (pX6_kept r) = (pX6_kept b_this) ∧ (pX6_keptMany r) = (pX6_keptMany b_this) ∧ (pX6_thrown r) = (pX6_thrown b_this) ∧ (pX6_buffer r) = (pX6_buffer b_this) ∧ (pX6_buffered r) = (pX6_buffered b_this) ∧ (pX6_size r) = (pX6_size b_this) ∧ (pX6_at r) = (pX6_at b_this) ∧ (pX6_behind r) = (pX6_behind b_this) ∧ (pX6_kind r) = (pX6_kind b_this) ∧ (pX6_wrong r) = (pX6_wrong b_this) ∧ (pX6_wrongAt r) = (pX6_wrongAt b_this) ∧ (pX6_errorAt r) = (pX6_errorAt b_this) ∧ (pX6_number r) = (pX6_number b_this) ∧ (pX6_best r) = (pX6_best b_this) ∧ (pX6_rentBy r) = (pX6_rentBy b_this) ∧ (pX6_bareBy r) = (pX6_bareBy b_this) ∧ (pX6_aheadBy r) = (pX6_aheadBy b_this) ∧ (pX6_isEdge r) = (pX6_isEdge b_this) ∧ (pX6_tried r) = (pX6_tried b_this) ∧ (pX6_stands r) = (pX6_stands b_this) ∧ (pX6_moving r) = (pX6_moving b_this) ∧ (pX6_movingMany r) = (pX6_movingMany b_this) := by
  intro Fx1 Fx2 x1 x2 Fv_tried Fv_stands Fv_found Fv_foundOn Fv_foundIncome Fv_foundMoves b_this r h_x1 h_x2 h_v_tried h_v_stands h_v_found h_v_foundOn h_v_foundIncome h_v_foundMoves hg
  unfold g_X6_compares_156 at hg
  unfold f_X6_compares_156
  refine lJ (l_X6_compares_169 n _ _ _ _ _ _ _ _ (sX6_foundMoves (sX6_foundIncome b_this x1) x2) _ (LI_n (X := 0) (x := 0) rfl) (LA_cg (Eq.trans (eX6_tried_foundMoves _ _) (eX6_tried_foundIncome _ _)) h_v_tried) (LA_cg (Eq.trans (eX6_stands_foundMoves _ _) (eX6_stands_foundIncome _ _)) h_v_stands) (LA_cg (Eq.trans (eX6_found_foundMoves _ _) (eX6_found_foundIncome _ _)) h_v_found) (LA_cg (Eq.trans (eX6_foundOn_foundMoves _ _) (eX6_foundOn_foundIncome _ _)) h_v_foundOn) (LI_cg (Eq.trans (eX6_foundIncome_foundMoves _ _) (eX6_foundIncome_foundIncome _ _)) h_x1) (LI_cg (eX6_foundMoves_foundMoves _ _) h_x2) hg) (fun R hq => ?_)
  obtain ⟨c0, c1, c2, c3, c4, c5, c6, c7, c8, c9, c10, c11, c12, c13, c14, c15, c16, c17, c18, c19, c20, c21, c22, c23, c24, c25, c26, c27⟩ := hq
  exact ⟨c0, c1, c2, c3, (c4).trans (Eq.trans (eX6_a_foundMoves _ _) (eX6_a_foundIncome _ _)), (c5).trans (Eq.trans (eX6_fresh_foundMoves _ _) (eX6_fresh_foundIncome _ _)), (c6).trans (Eq.trans (eX6_kept_foundMoves _ _) (eX6_kept_foundIncome _ _)), (c7).trans (Eq.trans (eX6_keptMany_foundMoves _ _) (eX6_keptMany_foundIncome _ _)), (c8).trans (Eq.trans (eX6_thrown_foundMoves _ _) (eX6_thrown_foundIncome _ _)), (c9).trans (Eq.trans (eX6_buffer_foundMoves _ _) (eX6_buffer_foundIncome _ _)), (c10).trans (Eq.trans (eX6_buffered_foundMoves _ _) (eX6_buffered_foundIncome _ _)), (c11).trans (Eq.trans (eX6_size_foundMoves _ _) (eX6_size_foundIncome _ _)), (c12).trans (Eq.trans (eX6_at_foundMoves _ _) (eX6_at_foundIncome _ _)), (c13).trans (Eq.trans (eX6_behind_foundMoves _ _) (eX6_behind_foundIncome _ _)), (c14).trans (Eq.trans (eX6_kind_foundMoves _ _) (eX6_kind_foundIncome _ _)), (c15).trans (Eq.trans (eX6_wrong_foundMoves _ _) (eX6_wrong_foundIncome _ _)), (c16).trans (Eq.trans (eX6_wrongAt_foundMoves _ _) (eX6_wrongAt_foundIncome _ _)), (c17).trans (Eq.trans (eX6_errorAt_foundMoves _ _) (eX6_errorAt_foundIncome _ _)), (c18).trans (Eq.trans (eX6_number_foundMoves _ _) (eX6_number_foundIncome _ _)), (c19).trans (Eq.trans (eX6_best_foundMoves _ _) (eX6_best_foundIncome _ _)), (c20).trans (Eq.trans (eX6_rentBy_foundMoves _ _) (eX6_rentBy_foundIncome _ _)), (c21).trans (Eq.trans (eX6_bareBy_foundMoves _ _) (eX6_bareBy_foundIncome _ _)), (c22).trans (Eq.trans (eX6_aheadBy_foundMoves _ _) (eX6_aheadBy_foundIncome _ _)), (c23).trans (Eq.trans (eX6_isEdge_foundMoves _ _) (eX6_isEdge_foundIncome _ _)), (c24).trans (Eq.trans (eX6_tried_foundMoves _ _) (eX6_tried_foundIncome _ _)), (c25).trans (Eq.trans (eX6_stands_foundMoves _ _) (eX6_stands_foundIncome _ _)), (c26).trans (Eq.trans (eX6_moving_foundMoves _ _) (eX6_moving_foundIncome _ _)), (c27).trans (Eq.trans (eX6_movingMany_foundMoves _ _) (eX6_movingMany_foundIncome _ _))⟩
set_option maxHeartbeats 4000000 in
set_option maxRecDepth 100000 in
theorem l_X6_compares_142 {n : Nat} : ∀ (Ft0 : Int32) (Fx1 : Int32) (Fx2 : Int32) (t0 : Int) (x1 : Int) (x2 : Int) (Fv_tried : Nat → Int32) (Fv_stands : Nat → Int32) (Fv_found : Nat → Int32) (Fv_foundOn : Nat → Int32) (Fv_foundIncome : Int32) (Fv_foundMoves : Int32) (b_this : BX6) (r : BX6), LI Ft0 t0 → LI Fx1 x1 → LI Fx2 x2 → LA Fv_tried (pX6_tried b_this) → LA Fv_stands (pX6_stands b_this) → LA Fv_found (pX6_found b_this) → LA Fv_foundOn (pX6_foundOn b_this) → LI Fv_foundIncome (pX6_foundIncome b_this) → LI Fv_foundMoves (pX6_foundMoves b_this) → g_X6_compares_142 n t0 x1 x2 b_this = some r → ∃ R, f_X6_compares_142 n Ft0 Fx1 Fx2 Fv_tried Fv_stands Fv_found Fv_foundOn Fv_foundIncome Fv_foundMoves = some R ∧ LA (R.1) (pX6_found r) ∧ LA (R.2.1) (pX6_foundOn r) ∧ LI (R.2.2.1) (pX6_foundIncome r) ∧ LI (R.2.2.2) (pX6_foundMoves r) ∧ (pX6_a r) = (pX6_a b_this) ∧ (pX6_fresh r) = (pX6_fresh b_this) ∧ (pX6_kept r) = (pX6_kept b_this) ∧ (pX6_keptMany r) = (pX6_keptMany b_this) ∧ (pX6_thrown r) = (pX6_thrown b_this) ∧ (pX6_buffer r) = (pX6_buffer b_this) ∧ (pX6_buffered r) = (pX6_buffered b_this) ∧ (pX6_size r) = (pX6_size b_this) ∧ (pX6_at r) = (pX6_at b_this) ∧ (pX6_behind r) = (pX6_behind b_this) ∧ (pX6_kind r) = (pX6_kind b_this) ∧ (pX6_wrong r) = (pX6_wrong b_this) ∧ (pX6_wrongAt r) = (pX6_wrongAt b_this) ∧ (pX6_errorAt r) = (pX6_errorAt b_this) ∧ (pX6_number r) = (pX6_number b_this) ∧ (pX6_best r) = (pX6_best b_this) ∧ (pX6_rentBy r) = (pX6_rentBy b_this) ∧ (pX6_bareBy r) = (pX6_bareBy b_this) ∧ (pX6_aheadBy r) = (pX6_aheadBy b_this) ∧ (pX6_isEdge r) = (pX6_isEdge b_this) ∧ (pX6_tried r) = (pX6_tried b_this) ∧ (pX6_stands r) = (pX6_stands b_this) ∧ (pX6_moving r) = (pX6_moving b_this) ∧ (pX6_movingMany r) = (pX6_movingMany b_this) := by
  intro Ft0 Fx1 Fx2 t0 x1 x2 Fv_tried Fv_stands Fv_found Fv_foundOn Fv_foundIncome Fv_foundMoves b_this r h_t0 h_x1 h_x2 h_v_tried h_v_stands h_v_found h_v_foundOn h_v_foundIncome h_v_foundMoves hg
  unfold g_X6_compares_142 at hg
  unfold f_X6_compares_142
  refine lI (LI_eq h_v_foundIncome (LI_n (X := -1) (x := -1) rfl)) hg (fun hc hg => ?_) (fun hc hg => ?_)
  · refine lJ (l_X6_compares_156 _ _ _ _ _ _ _ _ _ _ b_this _ h_x1 h_x2 h_v_tried h_v_stands h_v_found h_v_foundOn h_v_foundIncome h_v_foundMoves hg) (fun R hq => ?_)
    obtain ⟨c0, c1, c2, c3, c4, c5, c6, c7, c8, c9, c10, c11, c12, c13, c14, c15, c16, c17, c18, c19, c20, c21, c22, c23, c24, c25, c26, c27⟩ := hq
    exact ⟨c0, c1, c2, c3, c4, c5, c6, c7, c8, c9, c10, c11, c12, c13, c14, c15, c16, c17, c18, c19, c20, c21, c22, c23, c24, c25, c26, c27⟩
  · refine lI (LI_eq h_t0 (LI_n (X := 0) (x := 0) rfl)) hg (fun hc hg => ?_) (fun hc hg => ?_)
    · refine lJ (l_X6_compares_156 _ _ _ _ _ _ _ _ _ _ b_this _ h_x1 h_x2 h_v_tried h_v_stands h_v_found h_v_foundOn h_v_foundIncome h_v_foundMoves hg) (fun R hq => ?_)
      obtain ⟨c0, c1, c2, c3, c4, c5, c6, c7, c8, c9, c10, c11, c12, c13, c14, c15, c16, c17, c18, c19, c20, c21, c22, c23, c24, c25, c26, c27⟩ := hq
      exact ⟨c0, c1, c2, c3, c4, c5, c6, c7, c8, c9, c10, c11, c12, c13, c14, c15, c16, c17, c18, c19, c20, c21, c22, c23, c24, c25, c26, c27⟩
    · cases hg
      exact ⟨_, rfl, h_v_found, h_v_foundOn, h_v_foundIncome, h_v_foundMoves, rfl, rfl, rfl, rfl, rfl, rfl, rfl, rfl, rfl, rfl, rfl, rfl, rfl, rfl, rfl, rfl, rfl, rfl, rfl, rfl, rfl, rfl, rfl, rfl⟩
set_option maxHeartbeats 4000000 in
set_option maxRecDepth 100000 in
theorem l_X6_compares_141 {n : Nat} : ∀ (Fx1 : Int32) (Fx2 : Int32) (x1 : Int) (x2 : Int) (Fv_tried : Nat → Int32) (Fv_stands : Nat → Int32) (Fv_found : Nat → Int32) (Fv_foundOn : Nat → Int32) (Fv_foundIncome : Int32) (Fv_foundMoves : Int32) (b_this : BX6) (r : BX6), LI Fx1 x1 → LI Fx2 x2 → LA Fv_tried (pX6_tried b_this) → LA Fv_stands (pX6_stands b_this) → LA Fv_found (pX6_found b_this) → LA Fv_foundOn (pX6_foundOn b_this) → LI Fv_foundIncome (pX6_foundIncome b_this) → LI Fv_foundMoves (pX6_foundMoves b_this) → g_X6_compares_141 n x1 x2 b_this = some r → ∃ R, f_X6_compares_141 n Fx1 Fx2 Fv_tried Fv_stands Fv_found Fv_foundOn Fv_foundIncome Fv_foundMoves = some R ∧ LA (R.1) (pX6_found r) ∧ LA (R.2.1) (pX6_foundOn r) ∧ LI (R.2.2.1) (pX6_foundIncome r) ∧ LI (R.2.2.2) (pX6_foundMoves r) ∧ (pX6_a r) = (pX6_a b_this) ∧ (pX6_fresh r) = (pX6_fresh b_this) ∧ (pX6_kept r) = (pX6_kept b_this) ∧ (pX6_keptMany r) = (pX6_keptMany b_this) ∧ (pX6_thrown r) = (pX6_thrown b_this) ∧ (pX6_buffer r) = (pX6_buffer b_this) ∧ (pX6_buffered r) = (pX6_buffered b_this) ∧ (pX6_size r) = (pX6_size b_this) ∧ (pX6_at r) = (pX6_at b_this) ∧ (pX6_behind r) = (pX6_behind b_this) ∧ (pX6_kind r) = (pX6_kind b_this) ∧ (pX6_wrong r) = (pX6_wrong b_this) ∧ (pX6_wrongAt r) = (pX6_wrongAt b_this) ∧ (pX6_errorAt r) = (pX6_errorAt b_this) ∧ (pX6_number r) = (pX6_number b_this) ∧ (pX6_best r) = (pX6_best b_this) ∧ (pX6_rentBy r) = (pX6_rentBy b_this) ∧ (pX6_bareBy r) = (pX6_bareBy b_this) ∧ (pX6_aheadBy r) = (pX6_aheadBy b_this) ∧ (pX6_isEdge r) = (pX6_isEdge b_this) ∧ (pX6_tried r) = (pX6_tried b_this) ∧ (pX6_stands r) = (pX6_stands b_this) ∧ (pX6_moving r) = (pX6_moving b_this) ∧ (pX6_movingMany r) = (pX6_movingMany b_this) := by
  intro Fx1 Fx2 x1 x2 Fv_tried Fv_stands Fv_found Fv_foundOn Fv_foundIncome Fv_foundMoves b_this r h_x1 h_x2 h_v_tried h_v_stands h_v_found h_v_foundOn h_v_foundIncome h_v_foundMoves hg
  unfold g_X6_compares_141 at hg
  unfold f_X6_compares_141
  refine lJ (l_X6_compares_142 _ _ _ _ _ _ _ _ _ _ _ _ b_this _ (LI_n (X := 0) (x := 0) rfl) h_x1 h_x2 h_v_tried h_v_stands h_v_found h_v_foundOn h_v_foundIncome h_v_foundMoves hg) (fun R hq => ?_)
  obtain ⟨c0, c1, c2, c3, c4, c5, c6, c7, c8, c9, c10, c11, c12, c13, c14, c15, c16, c17, c18, c19, c20, c21, c22, c23, c24, c25, c26, c27⟩ := hq
  exact ⟨c0, c1, c2, c3, c4, c5, c6, c7, c8, c9, c10, c11, c12, c13, c14, c15, c16, c17, c18, c19, c20, c21, c22, c23, c24, c25, c26, c27⟩
set_option maxHeartbeats 4000000 in
set_option maxRecDepth 100000 in
theorem l_X6_compares_137 {n : Nat} : ∀ (Fx1 : Int32) (Fx2 : Int32) (x1 : Int) (x2 : Int) (Fv_tried : Nat → Int32) (Fv_stands : Nat → Int32) (Fv_found : Nat → Int32) (Fv_foundOn : Nat → Int32) (Fv_foundIncome : Int32) (Fv_foundMoves : Int32) (b_this : BX6) (r : BX6), LI Fx1 x1 → LI Fx2 x2 → LA Fv_tried (pX6_tried b_this) → LA Fv_stands (pX6_stands b_this) → LA Fv_found (pX6_found b_this) → LA Fv_foundOn (pX6_foundOn b_this) → LI Fv_foundIncome (pX6_foundIncome b_this) → LI Fv_foundMoves (pX6_foundMoves b_this) → g_X6_compares_137 n x1 x2 b_this = some r → ∃ R, f_X6_compares_137 n Fx1 Fx2 Fv_tried Fv_stands Fv_found Fv_foundOn Fv_foundIncome Fv_foundMoves = some R ∧ LA (R.1) (pX6_found r) ∧ LA (R.2.1) (pX6_foundOn r) ∧ LI (R.2.2.1) (pX6_foundIncome r) ∧ LI (R.2.2.2) (pX6_foundMoves r) ∧ (pX6_a r) = (pX6_a b_this) ∧ (pX6_fresh r) = (pX6_fresh b_this) ∧ (pX6_kept r) = (pX6_kept b_this) ∧ (pX6_keptMany r) = (pX6_keptMany b_this) ∧ (pX6_thrown r) = (pX6_thrown b_this) ∧ (pX6_buffer r) = (pX6_buffer b_this) ∧ (pX6_buffered r) = (pX6_buffered b_this) ∧ (pX6_size r) = (pX6_size b_this) ∧ (pX6_at r) = (pX6_at b_this) ∧ (pX6_behind r) = (pX6_behind b_this) ∧ (pX6_kind r) = (pX6_kind b_this) ∧ (pX6_wrong r) = (pX6_wrong b_this) ∧ (pX6_wrongAt r) = (pX6_wrongAt b_this) ∧ (pX6_errorAt r) = (pX6_errorAt b_this) ∧ (pX6_number r) = (pX6_number b_this) ∧ (pX6_best r) = (pX6_best b_this) ∧ (pX6_rentBy r) = (pX6_rentBy b_this) ∧ (pX6_bareBy r) = (pX6_bareBy b_this) ∧ (pX6_aheadBy r) = (pX6_aheadBy b_this) ∧ (pX6_isEdge r) = (pX6_isEdge b_this) ∧ (pX6_tried r) = (pX6_tried b_this) ∧ (pX6_stands r) = (pX6_stands b_this) ∧ (pX6_moving r) = (pX6_moving b_this) ∧ (pX6_movingMany r) = (pX6_movingMany b_this) := by
  intro Fx1 Fx2 x1 x2 Fv_tried Fv_stands Fv_found Fv_foundOn Fv_foundIncome Fv_foundMoves b_this r h_x1 h_x2 h_v_tried h_v_stands h_v_found h_v_foundOn h_v_foundIncome h_v_foundMoves hg
  unfold g_X6_compares_137 at hg
  unfold f_X6_compares_137
  refine lJ (l_X6_compares_142 _ _ _ _ _ _ _ _ _ _ _ _ b_this _ (LI_n (X := 1) (x := 1) rfl) h_x1 h_x2 h_v_tried h_v_stands h_v_found h_v_foundOn h_v_foundIncome h_v_foundMoves hg) (fun R hq => ?_)
  obtain ⟨c0, c1, c2, c3, c4, c5, c6, c7, c8, c9, c10, c11, c12, c13, c14, c15, c16, c17, c18, c19, c20, c21, c22, c23, c24, c25, c26, c27⟩ := hq
  exact ⟨c0, c1, c2, c3, c4, c5, c6, c7, c8, c9, c10, c11, c12, c13, c14, c15, c16, c17, c18, c19, c20, c21, c22, c23, c24, c25, c26, c27⟩
set_option maxHeartbeats 4000000 in
set_option maxRecDepth 100000 in
theorem l_X6_compares_90 {n : Nat} {K14 : Int32 → Int32 → Int32 → (Nat → Int32) → (Nat → Int32) → (Nat → Int32) → (Nat → Int32) → (Nat → Int32) → Int32 → Int32 → Option ((Nat → Int32) × (Nat → Int32) × Int32 × Int32)} {k14 : Int → Int → Int → BX6 → Option (BX6)} (hk14 : ∀ (Fx1 : Int32) (Fx2 : Int32) (Fx3 : Int32) (x1 : Int) (x2 : Int) (x3 : Int) (Fv_a : Nat → Int32) (Fv_tried : Nat → Int32) (Fv_stands : Nat → Int32) (Fv_found : Nat → Int32) (Fv_foundOn : Nat → Int32) (Fv_foundIncome : Int32) (Fv_foundMoves : Int32) (b_this : BX6) (r : BX6), LI Fx1 x1 → LI Fx2 x2 → LI Fx3 x3 → LA Fv_a (pX6_a b_this) → LA Fv_tried (pX6_tried b_this) → LA Fv_stands (pX6_stands b_this) → LA Fv_found (pX6_found b_this) → LA Fv_foundOn (pX6_foundOn b_this) → LI Fv_foundIncome (pX6_foundIncome b_this) → LI Fv_foundMoves (pX6_foundMoves b_this) → k14 x1 x2 x3 b_this = some r → ∃ R, K14 Fx1 Fx2 Fx3 Fv_a Fv_tried Fv_stands Fv_found Fv_foundOn Fv_foundIncome Fv_foundMoves = some R ∧ LA (R.1) (pX6_found r) ∧ LA (R.2.1) (pX6_foundOn r) ∧ LI (R.2.2.1) (pX6_foundIncome r) ∧ LI (R.2.2.2) (pX6_foundMoves r) ∧ (pX6_a r) = (pX6_a b_this) ∧ (pX6_fresh r) = (pX6_fresh b_this) ∧ (pX6_kept r) = (pX6_kept b_this) ∧ (pX6_keptMany r) = (pX6_keptMany b_this) ∧ (pX6_thrown r) = (pX6_thrown b_this) ∧ (pX6_buffer r) = (pX6_buffer b_this) ∧ (pX6_buffered r) = (pX6_buffered b_this) ∧ (pX6_size r) = (pX6_size b_this) ∧ (pX6_at r) = (pX6_at b_this) ∧ (pX6_behind r) = (pX6_behind b_this) ∧ (pX6_kind r) = (pX6_kind b_this) ∧ (pX6_wrong r) = (pX6_wrong b_this) ∧ (pX6_wrongAt r) = (pX6_wrongAt b_this) ∧ (pX6_errorAt r) = (pX6_errorAt b_this) ∧ (pX6_number r) = (pX6_number b_this) ∧ (pX6_best r) = (pX6_best b_this) ∧ (pX6_rentBy r) = (pX6_rentBy b_this) ∧ (pX6_bareBy r) = (pX6_bareBy b_this) ∧ (pX6_aheadBy r) = (pX6_aheadBy b_this) ∧ (pX6_isEdge r) = (pX6_isEdge b_this) ∧ (pX6_tried r) = (pX6_tried b_this) ∧ (pX6_stands r) = (pX6_stands b_this) ∧ (pX6_moving r) = (pX6_moving b_this) ∧ (pX6_movingMany r) = (pX6_movingMany b_this)) : ∀ (Ft0 : Int32) (Ft1 : Int32) (Fx1 : Int32) (Fx3 : Int32) (t0 : Int) (t1 : Int) (x1 : Int) (x3 : Int) (Fv_a : Nat → Int32) (Fv_tried : Nat → Int32) (Fv_stands : Nat → Int32) (Fv_found : Nat → Int32) (Fv_foundOn : Nat → Int32) (Fv_foundIncome : Int32) (Fv_foundMoves : Int32) (b_this : BX6) (r : BX6), LI Ft0 t0 → LI Ft1 t1 → LI Fx1 x1 → LI Fx3 x3 → LA Fv_a (pX6_a b_this) → LA Fv_tried (pX6_tried b_this) → LA Fv_stands (pX6_stands b_this) → LA Fv_found (pX6_found b_this) → LA Fv_foundOn (pX6_foundOn b_this) → LI Fv_foundIncome (pX6_foundIncome b_this) → LI Fv_foundMoves (pX6_foundMoves b_this) → g_X6_compares_90 n k14 t0 t1 x1 x3 b_this = some r → ∃ R, f_X6_compares_90 n K14 Ft0 Ft1 Fx1 Fx3 Fv_a Fv_tried Fv_stands Fv_found Fv_foundOn Fv_foundIncome Fv_foundMoves = some R ∧ LA (R.1) (pX6_found r) ∧ LA (R.2.1) (pX6_foundOn r) ∧ LI (R.2.2.1) (pX6_foundIncome r) ∧ LI (R.2.2.2) (pX6_foundMoves r) ∧ (pX6_a r) = (pX6_a b_this) ∧ (pX6_fresh r) = (pX6_fresh b_this) ∧ (pX6_kept r) = (pX6_kept b_this) ∧ (pX6_keptMany r) = (pX6_keptMany b_this) ∧ (pX6_thrown r) = (pX6_thrown b_this) ∧ (pX6_buffer r) = (pX6_buffer b_this) ∧ (pX6_buffered r) = (pX6_buffered b_this) ∧ (pX6_size r) = (pX6_size b_this) ∧ (pX6_at r) = (pX6_at b_this) ∧ (pX6_behind r) = (pX6_behind b_this) ∧ (pX6_kind r) = (pX6_kind b_this) ∧ (pX6_wrong r) = (pX6_wrong b_this) ∧ (pX6_wrongAt r) = (pX6_wrongAt b_this) ∧ (pX6_errorAt r) = (pX6_errorAt b_this) ∧ (pX6_number r) = (pX6_number b_this) ∧ (pX6_best r) = (pX6_best b_this) ∧ (pX6_rentBy r) = (pX6_rentBy b_this) ∧ (pX6_bareBy r) = (pX6_bareBy b_this) ∧ (pX6_aheadBy r) = (pX6_aheadBy b_this) ∧ (pX6_isEdge r) = (pX6_isEdge b_this) ∧ (pX6_tried r) = (pX6_tried b_this) ∧ (pX6_stands r) = (pX6_stands b_this) ∧ (pX6_moving r) = (pX6_moving b_this) ∧ (pX6_movingMany r) = (pX6_movingMany b_this) := by
  intro Ft0 Ft1 Fx1 Fx3 t0 t1 x1 x3 Fv_a Fv_tried Fv_stands Fv_found Fv_foundOn Fv_foundIncome Fv_foundMoves b_this r h_t0 h_t1 h_x1 h_x3 h_v_a h_v_tried h_v_stands h_v_found h_v_foundOn h_v_foundIncome h_v_foundMoves hg
  unfold g_X6_compares_90 at hg
  unfold f_X6_compares_90
  refine lR hg (fun hr_7 hg => ?_)
  refine lL (LI_of (EI_add (EI_i h_t0) (EI_i h_t1)) hr_7) hg (fun Fy_7 y_7 h_y_7 hg => ?_)
  refine lR hg (fun hr_8 hg => ?_)
  refine lJ (hk14 _ _ _ _ _ _ _ _ _ _ _ _ _ b_this _ h_x1 h_y_7 (LI_of (EI_add (EI_i h_x3) (EI_i (LI_n (X := 1) (x := 1) rfl))) hr_8) h_v_a h_v_tried h_v_stands h_v_found h_v_foundOn h_v_foundIncome h_v_foundMoves hg) (fun R hq => ?_)
  obtain ⟨c0, c1, c2, c3, c4, c5, c6, c7, c8, c9, c10, c11, c12, c13, c14, c15, c16, c17, c18, c19, c20, c21, c22, c23, c24, c25, c26, c27⟩ := hq
  exact ⟨c0, c1, c2, c3, c4, c5, c6, c7, c8, c9, c10, c11, c12, c13, c14, c15, c16, c17, c18, c19, c20, c21, c22, c23, c24, c25, c26, c27⟩
set_option maxHeartbeats 4000000 in
set_option maxRecDepth 100000 in
theorem l_X6_compares_89 {n : Nat} {K14 : Int32 → Int32 → Int32 → (Nat → Int32) → (Nat → Int32) → (Nat → Int32) → (Nat → Int32) → (Nat → Int32) → Int32 → Int32 → Option ((Nat → Int32) × (Nat → Int32) × Int32 × Int32)} {k14 : Int → Int → Int → BX6 → Option (BX6)} (hk14 : ∀ (Fx1 : Int32) (Fx2 : Int32) (Fx3 : Int32) (x1 : Int) (x2 : Int) (x3 : Int) (Fv_a : Nat → Int32) (Fv_tried : Nat → Int32) (Fv_stands : Nat → Int32) (Fv_found : Nat → Int32) (Fv_foundOn : Nat → Int32) (Fv_foundIncome : Int32) (Fv_foundMoves : Int32) (b_this : BX6) (r : BX6), LI Fx1 x1 → LI Fx2 x2 → LI Fx3 x3 → LA Fv_a (pX6_a b_this) → LA Fv_tried (pX6_tried b_this) → LA Fv_stands (pX6_stands b_this) → LA Fv_found (pX6_found b_this) → LA Fv_foundOn (pX6_foundOn b_this) → LI Fv_foundIncome (pX6_foundIncome b_this) → LI Fv_foundMoves (pX6_foundMoves b_this) → k14 x1 x2 x3 b_this = some r → ∃ R, K14 Fx1 Fx2 Fx3 Fv_a Fv_tried Fv_stands Fv_found Fv_foundOn Fv_foundIncome Fv_foundMoves = some R ∧ LA (R.1) (pX6_found r) ∧ LA (R.2.1) (pX6_foundOn r) ∧ LI (R.2.2.1) (pX6_foundIncome r) ∧ LI (R.2.2.2) (pX6_foundMoves r) ∧ (pX6_a r) = (pX6_a b_this) ∧ (pX6_fresh r) = (pX6_fresh b_this) ∧ (pX6_kept r) = (pX6_kept b_this) ∧ (pX6_keptMany r) = (pX6_keptMany b_this) ∧ (pX6_thrown r) = (pX6_thrown b_this) ∧ (pX6_buffer r) = (pX6_buffer b_this) ∧ (pX6_buffered r) = (pX6_buffered b_this) ∧ (pX6_size r) = (pX6_size b_this) ∧ (pX6_at r) = (pX6_at b_this) ∧ (pX6_behind r) = (pX6_behind b_this) ∧ (pX6_kind r) = (pX6_kind b_this) ∧ (pX6_wrong r) = (pX6_wrong b_this) ∧ (pX6_wrongAt r) = (pX6_wrongAt b_this) ∧ (pX6_errorAt r) = (pX6_errorAt b_this) ∧ (pX6_number r) = (pX6_number b_this) ∧ (pX6_best r) = (pX6_best b_this) ∧ (pX6_rentBy r) = (pX6_rentBy b_this) ∧ (pX6_bareBy r) = (pX6_bareBy b_this) ∧ (pX6_aheadBy r) = (pX6_aheadBy b_this) ∧ (pX6_isEdge r) = (pX6_isEdge b_this) ∧ (pX6_tried r) = (pX6_tried b_this) ∧ (pX6_stands r) = (pX6_stands b_this) ∧ (pX6_moving r) = (pX6_moving b_this) ∧ (pX6_movingMany r) = (pX6_movingMany b_this)) : ∀ (Ft0 : Int32) (Fx1 : Int32) (Fx3 : Int32) (t0 : Int) (x1 : Int) (x3 : Int) (Fv_a : Nat → Int32) (Fv_tried : Nat → Int32) (Fv_stands : Nat → Int32) (Fv_found : Nat → Int32) (Fv_foundOn : Nat → Int32) (Fv_foundIncome : Int32) (Fv_foundMoves : Int32) (b_this : BX6) (r : BX6), LI Ft0 t0 → LI Fx1 x1 → LI Fx3 x3 → LA Fv_a (pX6_a b_this) → LA Fv_tried (pX6_tried b_this) → LA Fv_stands (pX6_stands b_this) → LA Fv_found (pX6_found b_this) → LA Fv_foundOn (pX6_foundOn b_this) → LI Fv_foundIncome (pX6_foundIncome b_this) → LI Fv_foundMoves (pX6_foundMoves b_this) → g_X6_compares_89 n k14 t0 x1 x3 b_this = some r → ∃ R, f_X6_compares_89 n K14 Ft0 Fx1 Fx3 Fv_a Fv_tried Fv_stands Fv_found Fv_foundOn Fv_foundIncome Fv_foundMoves = some R ∧ LA (R.1) (pX6_found r) ∧ LA (R.2.1) (pX6_foundOn r) ∧ LI (R.2.2.1) (pX6_foundIncome r) ∧ LI (R.2.2.2) (pX6_foundMoves r) ∧ (pX6_a r) = (pX6_a b_this) ∧ (pX6_fresh r) = (pX6_fresh b_this) ∧ (pX6_kept r) = (pX6_kept b_this) ∧ (pX6_keptMany r) = (pX6_keptMany b_this) ∧ (pX6_thrown r) = (pX6_thrown b_this) ∧ (pX6_buffer r) = (pX6_buffer b_this) ∧ (pX6_buffered r) = (pX6_buffered b_this) ∧ (pX6_size r) = (pX6_size b_this) ∧ (pX6_at r) = (pX6_at b_this) ∧ (pX6_behind r) = (pX6_behind b_this) ∧ (pX6_kind r) = (pX6_kind b_this) ∧ (pX6_wrong r) = (pX6_wrong b_this) ∧ (pX6_wrongAt r) = (pX6_wrongAt b_this) ∧ (pX6_errorAt r) = (pX6_errorAt b_this) ∧ (pX6_number r) = (pX6_number b_this) ∧ (pX6_best r) = (pX6_best b_this) ∧ (pX6_rentBy r) = (pX6_rentBy b_this) ∧ (pX6_bareBy r) = (pX6_bareBy b_this) ∧ (pX6_aheadBy r) = (pX6_aheadBy b_this) ∧ (pX6_isEdge r) = (pX6_isEdge b_this) ∧ (pX6_tried r) = (pX6_tried b_this) ∧ (pX6_stands r) = (pX6_stands b_this) ∧ (pX6_moving r) = (pX6_moving b_this) ∧ (pX6_movingMany r) = (pX6_movingMany b_this) := by
  intro Ft0 Fx1 Fx3 t0 x1 x3 Fv_a Fv_tried Fv_stands Fv_found Fv_foundOn Fv_foundIncome Fv_foundMoves b_this r h_t0 h_x1 h_x3 h_v_a h_v_tried h_v_stands h_v_found h_v_foundOn h_v_foundIncome h_v_foundMoves hg
  unfold g_X6_compares_89 at hg
  unfold f_X6_compares_89
  refine lJ (l_X6_compares_90 hk14 _ _ _ _ _ _ _ _ _ _ _ _ _ _ _ b_this _ h_t0 (LI_n (X := 0) (x := 0) rfl) h_x1 h_x3 h_v_a h_v_tried h_v_stands h_v_found h_v_foundOn h_v_foundIncome h_v_foundMoves hg) (fun R hq => ?_)
  obtain ⟨c0, c1, c2, c3, c4, c5, c6, c7, c8, c9, c10, c11, c12, c13, c14, c15, c16, c17, c18, c19, c20, c21, c22, c23, c24, c25, c26, c27⟩ := hq
  exact ⟨c0, c1, c2, c3, c4, c5, c6, c7, c8, c9, c10, c11, c12, c13, c14, c15, c16, c17, c18, c19, c20, c21, c22, c23, c24, c25, c26, c27⟩
set_option maxHeartbeats 4000000 in
set_option maxRecDepth 100000 in
theorem l_X6_compares_51 {n : Nat} {K14 : Int32 → Int32 → Int32 → (Nat → Int32) → (Nat → Int32) → (Nat → Int32) → (Nat → Int32) → (Nat → Int32) → Int32 → Int32 → Option ((Nat → Int32) × (Nat → Int32) × Int32 × Int32)} {k14 : Int → Int → Int → BX6 → Option (BX6)} (hk14 : ∀ (Fx1 : Int32) (Fx2 : Int32) (Fx3 : Int32) (x1 : Int) (x2 : Int) (x3 : Int) (Fv_a : Nat → Int32) (Fv_tried : Nat → Int32) (Fv_stands : Nat → Int32) (Fv_found : Nat → Int32) (Fv_foundOn : Nat → Int32) (Fv_foundIncome : Int32) (Fv_foundMoves : Int32) (b_this : BX6) (r : BX6), LI Fx1 x1 → LI Fx2 x2 → LI Fx3 x3 → LA Fv_a (pX6_a b_this) → LA Fv_tried (pX6_tried b_this) → LA Fv_stands (pX6_stands b_this) → LA Fv_found (pX6_found b_this) → LA Fv_foundOn (pX6_foundOn b_this) → LI Fv_foundIncome (pX6_foundIncome b_this) → LI Fv_foundMoves (pX6_foundMoves b_this) → k14 x1 x2 x3 b_this = some r → ∃ R, K14 Fx1 Fx2 Fx3 Fv_a Fv_tried Fv_stands Fv_found Fv_foundOn Fv_foundIncome Fv_foundMoves = some R ∧ LA (R.1) (pX6_found r) ∧ LA (R.2.1) (pX6_foundOn r) ∧ LI (R.2.2.1) (pX6_foundIncome r) ∧ LI (R.2.2.2) (pX6_foundMoves r) ∧ (pX6_a r) = (pX6_a b_this) ∧ (pX6_fresh r) = (pX6_fresh b_this) ∧ (pX6_kept r) = (pX6_kept b_this) ∧ (pX6_keptMany r) = (pX6_keptMany b_this) ∧ (pX6_thrown r) = (pX6_thrown b_this) ∧ (pX6_buffer r) = (pX6_buffer b_this) ∧ (pX6_buffered r) = (pX6_buffered b_this) ∧ (pX6_size r) = (pX6_size b_this) ∧ (pX6_at r) = (pX6_at b_this) ∧ (pX6_behind r) = (pX6_behind b_this) ∧ (pX6_kind r) = (pX6_kind b_this) ∧ (pX6_wrong r) = (pX6_wrong b_this) ∧ (pX6_wrongAt r) = (pX6_wrongAt b_this) ∧ (pX6_errorAt r) = (pX6_errorAt b_this) ∧ (pX6_number r) = (pX6_number b_this) ∧ (pX6_best r) = (pX6_best b_this) ∧ (pX6_rentBy r) = (pX6_rentBy b_this) ∧ (pX6_bareBy r) = (pX6_bareBy b_this) ∧ (pX6_aheadBy r) = (pX6_aheadBy b_this) ∧ (pX6_isEdge r) = (pX6_isEdge b_this) ∧ (pX6_tried r) = (pX6_tried b_this) ∧ (pX6_stands r) = (pX6_stands b_this) ∧ (pX6_moving r) = (pX6_moving b_this) ∧ (pX6_movingMany r) = (pX6_movingMany b_this)) : ∀ (Ft0 : Int32) (Ft1 : Int32) (Fx2 : Int32) (Fx3 : Int32) (t0 : Int) (t1 : Int) (x2 : Int) (x3 : Int) (Fv_a : Nat → Int32) (Fv_tried : Nat → Int32) (Fv_stands : Nat → Int32) (Fv_found : Nat → Int32) (Fv_foundOn : Nat → Int32) (Fv_foundIncome : Int32) (Fv_foundMoves : Int32) (b_this : BX6) (r : BX6), LI Ft0 t0 → LI Ft1 t1 → LI Fx2 x2 → LI Fx3 x3 → LA Fv_a (pX6_a b_this) → LA Fv_tried (pX6_tried b_this) → LA Fv_stands (pX6_stands b_this) → LA Fv_found (pX6_found b_this) → LA Fv_foundOn (pX6_foundOn b_this) → LI Fv_foundIncome (pX6_foundIncome b_this) → LI Fv_foundMoves (pX6_foundMoves b_this) → g_X6_compares_51 n k14 t0 t1 x2 x3 b_this = some r → ∃ R, f_X6_compares_51 n K14 Ft0 Ft1 Fx2 Fx3 Fv_a Fv_tried Fv_stands Fv_found Fv_foundOn Fv_foundIncome Fv_foundMoves = some R ∧ LA (R.1) (pX6_found r) ∧ LA (R.2.1) (pX6_foundOn r) ∧ LI (R.2.2.1) (pX6_foundIncome r) ∧ LI (R.2.2.2) (pX6_foundMoves r) ∧ (pX6_a r) = (pX6_a b_this) ∧ (pX6_fresh r) = (pX6_fresh b_this) ∧ (pX6_kept r) = (pX6_kept b_this) ∧ (pX6_keptMany r) = (pX6_keptMany b_this) ∧ (pX6_thrown r) = (pX6_thrown b_this) ∧ (pX6_buffer r) = (pX6_buffer b_this) ∧ (pX6_buffered r) = (pX6_buffered b_this) ∧ (pX6_size r) = (pX6_size b_this) ∧ (pX6_at r) = (pX6_at b_this) ∧ (pX6_behind r) = (pX6_behind b_this) ∧ (pX6_kind r) = (pX6_kind b_this) ∧ (pX6_wrong r) = (pX6_wrong b_this) ∧ (pX6_wrongAt r) = (pX6_wrongAt b_this) ∧ (pX6_errorAt r) = (pX6_errorAt b_this) ∧ (pX6_number r) = (pX6_number b_this) ∧ (pX6_best r) = (pX6_best b_this) ∧ (pX6_rentBy r) = (pX6_rentBy b_this) ∧ (pX6_bareBy r) = (pX6_bareBy b_this) ∧ (pX6_aheadBy r) = (pX6_aheadBy b_this) ∧ (pX6_isEdge r) = (pX6_isEdge b_this) ∧ (pX6_tried r) = (pX6_tried b_this) ∧ (pX6_stands r) = (pX6_stands b_this) ∧ (pX6_moving r) = (pX6_moving b_this) ∧ (pX6_movingMany r) = (pX6_movingMany b_this) := by
  intro Ft0 Ft1 Fx2 Fx3 t0 t1 x2 x3 Fv_a Fv_tried Fv_stands Fv_found Fv_foundOn Fv_foundIncome Fv_foundMoves b_this r h_t0 h_t1 h_x2 h_x3 h_v_a h_v_tried h_v_stands h_v_found h_v_foundOn h_v_foundIncome h_v_foundMoves hg
  unfold g_X6_compares_51 at hg
  unfold f_X6_compares_51
  refine lR hg (fun hr_9 hg => ?_)
  refine lL (LI_of (EI_add (EI_i h_t0) (EI_i h_t1)) hr_9) hg (fun Fy_8 y_8 h_y_8 hg => ?_)
  refine lA (EI_add (EI_i (LI_n (X := 107) (x := 107) rfl)) (EI_i h_x3)) rfl hg (fun ha_10 hg => ?_)
  refine lI (LI_eq (LA_at h_v_a (EI_add (EI_i (LI_n (X := 107) (x := 107) rfl)) (EI_i h_x3)) ha_10) (LI_n (X := -1) (x := -1) rfl)) hg (fun hc hg => ?_) (fun hc hg => ?_)
  · refine lJ (l_X6_compares_89 hk14 _ _ _ _ _ _ _ _ _ _ _ _ _ b_this _ h_x2 h_y_8 h_x3 h_v_a h_v_tried h_v_stands h_v_found h_v_foundOn h_v_foundIncome h_v_foundMoves hg) (fun R hq => ?_)
    obtain ⟨c0, c1, c2, c3, c4, c5, c6, c7, c8, c9, c10, c11, c12, c13, c14, c15, c16, c17, c18, c19, c20, c21, c22, c23, c24, c25, c26, c27⟩ := hq
    exact ⟨c0, c1, c2, c3, c4, c5, c6, c7, c8, c9, c10, c11, c12, c13, c14, c15, c16, c17, c18, c19, c20, c21, c22, c23, c24, c25, c26, c27⟩
  · refine lA (EI_i h_x3) rfl hg (fun ha_11 hg => ?_)
    refine lA (EI_add (EI_i (LI_n (X := 107) (x := 107) rfl)) (EI_i h_x3)) rfl hg (fun ha_12 hg => ?_)
    refine lI (LI_eq (LA_at h_v_tried (EI_i h_x3) ha_11) (LA_at h_v_a (EI_add (EI_i (LI_n (X := 107) (x := 107) rfl)) (EI_i h_x3)) ha_12)) hg (fun hc hg => ?_) (fun hc hg => ?_)
    · refine lJ (l_X6_compares_89 hk14 _ _ _ _ _ _ _ _ _ _ _ _ _ b_this _ h_x2 h_y_8 h_x3 h_v_a h_v_tried h_v_stands h_v_found h_v_foundOn h_v_foundIncome h_v_foundMoves hg) (fun R hq => ?_)
      obtain ⟨c0, c1, c2, c3, c4, c5, c6, c7, c8, c9, c10, c11, c12, c13, c14, c15, c16, c17, c18, c19, c20, c21, c22, c23, c24, c25, c26, c27⟩ := hq
      exact ⟨c0, c1, c2, c3, c4, c5, c6, c7, c8, c9, c10, c11, c12, c13, c14, c15, c16, c17, c18, c19, c20, c21, c22, c23, c24, c25, c26, c27⟩
    · refine lJ (l_X6_compares_90 hk14 _ _ _ _ _ _ _ _ _ _ _ _ _ _ _ b_this _ h_x2 (LI_n (X := 1) (x := 1) rfl) h_y_8 h_x3 h_v_a h_v_tried h_v_stands h_v_found h_v_foundOn h_v_foundIncome h_v_foundMoves hg) (fun R hq => ?_)
      obtain ⟨c0, c1, c2, c3, c4, c5, c6, c7, c8, c9, c10, c11, c12, c13, c14, c15, c16, c17, c18, c19, c20, c21, c22, c23, c24, c25, c26, c27⟩ := hq
      exact ⟨c0, c1, c2, c3, c4, c5, c6, c7, c8, c9, c10, c11, c12, c13, c14, c15, c16, c17, c18, c19, c20, c21, c22, c23, c24, c25, c26, c27⟩
set_option maxHeartbeats 4000000 in
set_option maxRecDepth 100000 in
theorem l_X6_compares_14 {n : Nat} : ∀ (fu : Nat), ∀ (Fx1 : Int32) (Fx2 : Int32) (Fx3 : Int32) (x1 : Int) (x2 : Int) (x3 : Int) (Fv_a : Nat → Int32) (Fv_tried : Nat → Int32) (Fv_stands : Nat → Int32) (Fv_found : Nat → Int32) (Fv_foundOn : Nat → Int32) (Fv_foundIncome : Int32) (Fv_foundMoves : Int32) (b_this : BX6) (r : BX6), LI Fx1 x1 → LI Fx2 x2 → LI Fx3 x3 → LA Fv_a (pX6_a b_this) → LA Fv_tried (pX6_tried b_this) → LA Fv_stands (pX6_stands b_this) → LA Fv_found (pX6_found b_this) → LA Fv_foundOn (pX6_foundOn b_this) → LI Fv_foundIncome (pX6_foundIncome b_this) → LI Fv_foundMoves (pX6_foundMoves b_this) → g_X6_compares_14 n fu x1 x2 x3 b_this = some r → ∃ R, f_X6_compares_14 n fu Fx1 Fx2 Fx3 Fv_a Fv_tried Fv_stands Fv_found Fv_foundOn Fv_foundIncome Fv_foundMoves = some R ∧ LA (R.1) (pX6_found r) ∧ LA (R.2.1) (pX6_foundOn r) ∧ LI (R.2.2.1) (pX6_foundIncome r) ∧ LI (R.2.2.2) (pX6_foundMoves r) ∧ (pX6_a r) = (pX6_a b_this) ∧ (pX6_fresh r) = (pX6_fresh b_this) ∧ (pX6_kept r) = (pX6_kept b_this) ∧ (pX6_keptMany r) = (pX6_keptMany b_this) ∧ (pX6_thrown r) = (pX6_thrown b_this) ∧ (pX6_buffer r) = (pX6_buffer b_this) ∧ (pX6_buffered r) = (pX6_buffered b_this) ∧ (pX6_size r) = (pX6_size b_this) ∧ (pX6_at r) = (pX6_at b_this) ∧ (pX6_behind r) = (pX6_behind b_this) ∧ (pX6_kind r) = (pX6_kind b_this) ∧ (pX6_wrong r) = (pX6_wrong b_this) ∧ (pX6_wrongAt r) = (pX6_wrongAt b_this) ∧ (pX6_errorAt r) = (pX6_errorAt b_this) ∧ (pX6_number r) = (pX6_number b_this) ∧ (pX6_best r) = (pX6_best b_this) ∧ (pX6_rentBy r) = (pX6_rentBy b_this) ∧ (pX6_bareBy r) = (pX6_bareBy b_this) ∧ (pX6_aheadBy r) = (pX6_aheadBy b_this) ∧ (pX6_isEdge r) = (pX6_isEdge b_this) ∧ (pX6_tried r) = (pX6_tried b_this) ∧ (pX6_stands r) = (pX6_stands b_this) ∧ (pX6_moving r) = (pX6_moving b_this) ∧ (pX6_movingMany r) = (pX6_movingMany b_this) := by
  intro fu
  induction fu with
  | zero => intro Fx1 Fx2 Fx3 x1 x2 x3 Fv_a Fv_tried Fv_stands Fv_found Fv_foundOn Fv_foundIncome Fv_foundMoves b_this r h_x1 h_x2 h_x3 h_v_a h_v_tried h_v_stands h_v_found h_v_foundOn h_v_foundIncome h_v_foundMoves hg; rw [g_X6_compares_14.eq_1] at hg; cases hg
  | succ fu ih =>
    intro Fx1 Fx2 Fx3 x1 x2 x3 Fv_a Fv_tried Fv_stands Fv_found Fv_foundOn Fv_foundIncome Fv_foundMoves b_this r h_x1 h_x2 h_x3 h_v_a h_v_tried h_v_stands h_v_found h_v_foundOn h_v_foundIncome h_v_foundMoves hg
    rw [g_X6_compares_14.eq_2] at hg
    rw [f_X6_compares_14.eq_2]
    refine lA (EI_i (LI_n (X := 74) (x := 74) rfl)) rfl hg (fun ha_13 hg => ?_)
    refine lI (LI_le (LA_at h_v_a (EI_i (LI_n (X := 74) (x := 74) rfl)) ha_13) h_x3) hg (fun hc hg => ?_) (fun hc hg => ?_)
    · refine lI (LI_lt h_x1 h_v_foundIncome) hg (fun hc hg => ?_) (fun hc hg => ?_)
      · refine lJ (l_X6_compares_137 _ _ _ _ _ _ _ _ _ _ b_this _ h_x1 h_x2 h_v_tried h_v_stands h_v_found h_v_foundOn h_v_foundIncome h_v_foundMoves hg) (fun R hq => ?_)
        obtain ⟨c0, c1, c2, c3, c4, c5, c6, c7, c8, c9, c10, c11, c12, c13, c14, c15, c16, c17, c18, c19, c20, c21, c22, c23, c24, c25, c26, c27⟩ := hq
        exact ⟨c0, c1, c2, c3, c4, c5, c6, c7, c8, c9, c10, c11, c12, c13, c14, c15, c16, c17, c18, c19, c20, c21, c22, c23, c24, c25, c26, c27⟩
      · refine lI (LI_eq h_x1 h_v_foundIncome) hg (fun hc hg => ?_) (fun hc hg => ?_)
        · refine lI (LI_lt h_v_foundMoves h_x2) hg (fun hc hg => ?_) (fun hc hg => ?_)
          · refine lJ (l_X6_compares_137 _ _ _ _ _ _ _ _ _ _ b_this _ h_x1 h_x2 h_v_tried h_v_stands h_v_found h_v_foundOn h_v_foundIncome h_v_foundMoves hg) (fun R hq => ?_)
            obtain ⟨c0, c1, c2, c3, c4, c5, c6, c7, c8, c9, c10, c11, c12, c13, c14, c15, c16, c17, c18, c19, c20, c21, c22, c23, c24, c25, c26, c27⟩ := hq
            exact ⟨c0, c1, c2, c3, c4, c5, c6, c7, c8, c9, c10, c11, c12, c13, c14, c15, c16, c17, c18, c19, c20, c21, c22, c23, c24, c25, c26, c27⟩
          · refine lI (LI_eq h_x2 h_v_foundMoves) hg (fun hc hg => ?_) (fun hc hg => ?_)
            · refine lB_1_1 (fun r hr => l_X6_isAhead  _ _ _ b_this r h_v_a h_v_stands h_v_foundOn hr) hg (fun Fr_13 r_13 hq hg => ?_)
              have q_14 := hq
              refine lI (LI_eq q_14 (LI_n (X := 0) (x := 0) rfl)) hg (fun hc hg => ?_) (fun hc hg => ?_)
              · refine lJ (l_X6_compares_137 _ _ _ _ _ _ _ _ _ _ b_this _ h_x1 h_x2 h_v_tried h_v_stands h_v_found h_v_foundOn h_v_foundIncome h_v_foundMoves hg) (fun R hq => ?_)
                obtain ⟨c0, c1, c2, c3, c4, c5, c6, c7, c8, c9, c10, c11, c12, c13, c14, c15, c16, c17, c18, c19, c20, c21, c22, c23, c24, c25, c26, c27⟩ := hq
                exact ⟨c0, c1, c2, c3, c4, c5, c6, c7, c8, c9, c10, c11, c12, c13, c14, c15, c16, c17, c18, c19, c20, c21, c22, c23, c24, c25, c26, c27⟩
              · refine lJ (l_X6_compares_141 _ _ _ _ _ _ _ _ _ _ b_this _ h_x1 h_x2 h_v_tried h_v_stands h_v_found h_v_foundOn h_v_foundIncome h_v_foundMoves hg) (fun R hq => ?_)
                obtain ⟨c0, c1, c2, c3, c4, c5, c6, c7, c8, c9, c10, c11, c12, c13, c14, c15, c16, c17, c18, c19, c20, c21, c22, c23, c24, c25, c26, c27⟩ := hq
                exact ⟨c0, c1, c2, c3, c4, c5, c6, c7, c8, c9, c10, c11, c12, c13, c14, c15, c16, c17, c18, c19, c20, c21, c22, c23, c24, c25, c26, c27⟩
            · refine lJ (l_X6_compares_141 _ _ _ _ _ _ _ _ _ _ b_this _ h_x1 h_x2 h_v_tried h_v_stands h_v_found h_v_foundOn h_v_foundIncome h_v_foundMoves hg) (fun R hq => ?_)
              obtain ⟨c0, c1, c2, c3, c4, c5, c6, c7, c8, c9, c10, c11, c12, c13, c14, c15, c16, c17, c18, c19, c20, c21, c22, c23, c24, c25, c26, c27⟩ := hq
              exact ⟨c0, c1, c2, c3, c4, c5, c6, c7, c8, c9, c10, c11, c12, c13, c14, c15, c16, c17, c18, c19, c20, c21, c22, c23, c24, c25, c26, c27⟩
        · refine lJ (l_X6_compares_141 _ _ _ _ _ _ _ _ _ _ b_this _ h_x1 h_x2 h_v_tried h_v_stands h_v_found h_v_foundOn h_v_foundIncome h_v_foundMoves hg) (fun R hq => ?_)
          obtain ⟨c0, c1, c2, c3, c4, c5, c6, c7, c8, c9, c10, c11, c12, c13, c14, c15, c16, c17, c18, c19, c20, c21, c22, c23, c24, c25, c26, c27⟩ := hq
          exact ⟨c0, c1, c2, c3, c4, c5, c6, c7, c8, c9, c10, c11, c12, c13, c14, c15, c16, c17, c18, c19, c20, c21, c22, c23, c24, c25, c26, c27⟩
    · refine lA (EI_i h_x3) rfl hg (fun ha_15 hg => ?_)
      refine lI (LI_eq (LA_at h_v_tried (EI_i h_x3) ha_15) (LI_n (X := -1) (x := -1) rfl)) hg (fun hc hg => ?_) (fun hc hg => ?_)
      · refine lJ (l_X6_compares_51 ih _ _ _ _ _ _ _ _ _ _ _ _ _ _ _ b_this _ h_x1 (LI_n (X := 0) (x := 0) rfl) h_x2 h_x3 h_v_a h_v_tried h_v_stands h_v_found h_v_foundOn h_v_foundIncome h_v_foundMoves hg) (fun R hq => ?_)
        obtain ⟨c0, c1, c2, c3, c4, c5, c6, c7, c8, c9, c10, c11, c12, c13, c14, c15, c16, c17, c18, c19, c20, c21, c22, c23, c24, c25, c26, c27⟩ := hq
        exact ⟨c0, c1, c2, c3, c4, c5, c6, c7, c8, c9, c10, c11, c12, c13, c14, c15, c16, c17, c18, c19, c20, c21, c22, c23, c24, c25, c26, c27⟩
      · refine lA (EI_i h_x3) rfl hg (fun ha_16 hg => ?_)
        refine lB_1_1 (fun r hr => l_X6_rentOf  _ _ _ _ _ b_this r h_x3 (LA_at h_v_tried (EI_i h_x3) ha_16) h_v_a hr) hg (fun Fr_17 r_17 hq hg => ?_)
        have q_17 := hq
        refine lJ (l_X6_compares_51 ih _ _ _ _ _ _ _ _ _ _ _ _ _ _ _ b_this _ h_x1 q_17 h_x2 h_x3 h_v_a h_v_tried h_v_stands h_v_found h_v_foundOn h_v_foundIncome h_v_foundMoves hg) (fun R hq => ?_)
        obtain ⟨c0, c1, c2, c3, c4, c5, c6, c7, c8, c9, c10, c11, c12, c13, c14, c15, c16, c17, c18, c19, c20, c21, c22, c23, c24, c25, c26, c27⟩ := hq
        exact ⟨c0, c1, c2, c3, c4, c5, c6, c7, c8, c9, c10, c11, c12, c13, c14, c15, c16, c17, c18, c19, c20, c21, c22, c23, c24, c25, c26, c27⟩
set_option maxHeartbeats 4000000 in
set_option maxRecDepth 100000 in
theorem l_X6_compares {n : Nat} : ∀ (Fv_a : Nat → Int32) (Fv_tried : Nat → Int32) (Fv_stands : Nat → Int32) (Fv_found : Nat → Int32) (Fv_foundOn : Nat → Int32) (Fv_foundIncome : Int32) (Fv_foundMoves : Int32) (b_this : BX6) (r : BX6), LA Fv_a (pX6_a b_this) → LA Fv_tried (pX6_tried b_this) → LA Fv_stands (pX6_stands b_this) → LA Fv_found (pX6_found b_this) → LA Fv_foundOn (pX6_foundOn b_this) → LI Fv_foundIncome (pX6_foundIncome b_this) → LI Fv_foundMoves (pX6_foundMoves b_this) → g_X6_compares n b_this = some r → ∃ R, f_X6_compares n Fv_a Fv_tried Fv_stands Fv_found Fv_foundOn Fv_foundIncome Fv_foundMoves = some R ∧ LA (R.1) (pX6_found r) ∧ LA (R.2.1) (pX6_foundOn r) ∧ LI (R.2.2.1) (pX6_foundIncome r) ∧ LI (R.2.2.2) (pX6_foundMoves r) ∧ (pX6_a r) = (pX6_a b_this) ∧ (pX6_fresh r) = (pX6_fresh b_this) ∧ (pX6_kept r) = (pX6_kept b_this) ∧ (pX6_keptMany r) = (pX6_keptMany b_this) ∧ (pX6_thrown r) = (pX6_thrown b_this) ∧ (pX6_buffer r) = (pX6_buffer b_this) ∧ (pX6_buffered r) = (pX6_buffered b_this) ∧ (pX6_size r) = (pX6_size b_this) ∧ (pX6_at r) = (pX6_at b_this) ∧ (pX6_behind r) = (pX6_behind b_this) ∧ (pX6_kind r) = (pX6_kind b_this) ∧ (pX6_wrong r) = (pX6_wrong b_this) ∧ (pX6_wrongAt r) = (pX6_wrongAt b_this) ∧ (pX6_errorAt r) = (pX6_errorAt b_this) ∧ (pX6_number r) = (pX6_number b_this) ∧ (pX6_best r) = (pX6_best b_this) ∧ (pX6_rentBy r) = (pX6_rentBy b_this) ∧ (pX6_bareBy r) = (pX6_bareBy b_this) ∧ (pX6_aheadBy r) = (pX6_aheadBy b_this) ∧ (pX6_isEdge r) = (pX6_isEdge b_this) ∧ (pX6_tried r) = (pX6_tried b_this) ∧ (pX6_stands r) = (pX6_stands b_this) ∧ (pX6_moving r) = (pX6_moving b_this) ∧ (pX6_movingMany r) = (pX6_movingMany b_this) := by
  intro Fv_a Fv_tried Fv_stands Fv_found Fv_foundOn Fv_foundIncome Fv_foundMoves b_this r h_v_a h_v_tried h_v_stands h_v_found h_v_foundOn h_v_foundIncome h_v_foundMoves hg
  unfold g_X6_compares at hg
  unfold f_X6_compares
  refine lB_1_1 (fun r hr => l_X6_isSound  _ _ _ b_this r h_v_a h_v_tried h_v_stands hr) hg (fun Fr_19 r_19 hq hg => ?_)
  have q_18 := hq
  refine lI (LI_eq q_18 (LI_n (X := 0) (x := 0) rfl)) hg (fun hc hg => ?_) (fun hc hg => ?_)
  · cases hg
    exact ⟨_, rfl, h_v_found, h_v_foundOn, h_v_foundIncome, h_v_foundMoves, rfl, rfl, rfl, rfl, rfl, rfl, rfl, rfl, rfl, rfl, rfl, rfl, rfl, rfl, rfl, rfl, rfl, rfl, rfl, rfl, rfl, rfl, rfl, rfl⟩
  · refine lJ (l_X6_compares_14 n _ _ _ _ _ _ _ _ _ _ _ _ _ b_this _ (LI_n (X := 0) (x := 0) rfl) (LI_n (X := 0) (x := 0) rfl) (LI_n (X := 0) (x := 0) rfl) h_v_a h_v_tried h_v_stands h_v_found h_v_foundOn h_v_foundIncome h_v_foundMoves hg) (fun R hq => ?_)
    obtain ⟨c0, c1, c2, c3, c4, c5, c6, c7, c8, c9, c10, c11, c12, c13, c14, c15, c16, c17, c18, c19, c20, c21, c22, c23, c24, c25, c26, c27⟩ := hq
    exact ⟨c0, c1, c2, c3, c4, c5, c6, c7, c8, c9, c10, c11, c12, c13, c14, c15, c16, c17, c18, c19, c20, c21, c22, c23, c24, c25, c26, c27⟩
set_option maxHeartbeats 4000000 in
set_option maxRecDepth 100000 in
theorem l_X6_isTrader : ∀ (Fx1 : Int32) (x1 : Int) (Fv_a : Nat → Int32) (b_this : BX6) (r : Int), LI Fx1 x1 → LA Fv_a (pX6_a b_this) → g_X6_isTrader b_this x1 = some r → ∃ R, f_X6_isTrader Fv_a Fx1 = some R ∧ LI R r := by
  intro Fx1 x1 Fv_a b_this r h_x1 h_v_a hg
  unfold g_X6_isTrader at hg
  unfold f_X6_isTrader
  refine lA (EI_i (LI_n (X := 74) (x := 74) rfl)) rfl hg (fun ha_1 hg => ?_)
  refine lR hg (fun hr_2 hg => ?_)
  refine lB_1_1 (fun r hr => l_X6_isIn  _ _ _ _ _ _ r (LJ_i h_x1) (LJ_n (X := 0) (x := 0) rfl) (LJ_i (LI_of (EI_sub (EI_i (LA_at h_v_a (EI_i (LI_n (X := 74) (x := 74) rfl)) ha_1)) (EI_i (LI_n (X := 1) (x := 1) rfl))) hr_2)) hr) hg (fun Fr_2 r_2 hq hg => ?_)
  have q_3 := hq
  refine lG (LI_eq (LI_nar q_3) q_3) hg (fun hn_4 hg => ?_)
  cases hg
  exact ⟨_, rfl, q_3⟩
set_option maxHeartbeats 4000000 in
set_option maxRecDepth 100000 in
theorem l_X6_contribution_14 {n : Nat} : ∀ (Ft1 : Int32) (Fx1 : Int32) (t1 : Int) (x1 : Int) (Fv_a : Nat → Int32) (Fv_thrown : Int32) (Fv_best : Nat → Int32) (Fv_rentBy : Nat → Int32) (Fv_bareBy : Nat → Int32) (Fv_aheadBy : Nat → Int32) (b_this : BX6) (r : Int × BX6), LI Ft1 t1 → LI Fx1 x1 → LA Fv_a (pX6_a b_this) → LI Fv_thrown (pX6_thrown b_this) → LA Fv_best (pX6_best b_this) → LA Fv_rentBy (pX6_rentBy b_this) → LA Fv_bareBy (pX6_bareBy b_this) → LA Fv_aheadBy (pX6_aheadBy b_this) → g_X6_contribution_14 n t1 x1 b_this = some r → ∃ R, f_X6_contribution_14 n Ft1 Fx1 Fv_a Fv_thrown Fv_best Fv_rentBy Fv_bareBy Fv_aheadBy = some R ∧ LI (R.1) (r.1) ∧ LI (R.2.1) (pX6_thrown (r.2)) ∧ LA (R.2.2.1) (pX6_best (r.2)) ∧ LA (R.2.2.2.1) (pX6_rentBy (r.2)) ∧ LA (R.2.2.2.2.1) (pX6_bareBy (r.2)) ∧ LA (R.2.2.2.2.2) (pX6_aheadBy (r.2)) ∧ (pX6_a (r.2)) = (pX6_a b_this) ∧ (pX6_fresh (r.2)) = (pX6_fresh b_this) ∧ (pX6_kept (r.2)) = (pX6_kept b_this) ∧ (pX6_keptMany (r.2)) = (pX6_keptMany b_this) ∧ (pX6_buffer (r.2)) = (pX6_buffer b_this) ∧ (pX6_buffered (r.2)) = (pX6_buffered b_this) ∧ (pX6_size (r.2)) = (pX6_size b_this) ∧ (pX6_at (r.2)) = (pX6_at b_this) ∧ (pX6_behind (r.2)) = (pX6_behind b_this) ∧ (pX6_kind (r.2)) = (pX6_kind b_this) ∧ (pX6_wrong (r.2)) = (pX6_wrong b_this) ∧ (pX6_wrongAt (r.2)) = (pX6_wrongAt b_this) ∧ (pX6_errorAt (r.2)) = (pX6_errorAt b_this) ∧ (pX6_number (r.2)) = (pX6_number b_this) ∧ (pX6_isEdge (r.2)) = (pX6_isEdge b_this) ∧ (pX6_tried (r.2)) = (pX6_tried b_this) ∧ (pX6_stands (r.2)) = (pX6_stands b_this) ∧ (pX6_found (r.2)) = (pX6_found b_this) ∧ (pX6_foundOn (r.2)) = (pX6_foundOn b_this) ∧ (pX6_moving (r.2)) = (pX6_moving b_this) ∧ (pX6_movingMany (r.2)) = (pX6_movingMany b_this) ∧ (pX6_foundIncome (r.2)) = (pX6_foundIncome b_this) ∧ (pX6_foundMoves (r.2)) = (pX6_foundMoves b_this) := by
  intro Ft1 Fx1 t1 x1 Fv_a Fv_thrown Fv_best Fv_rentBy Fv_bareBy Fv_aheadBy b_this r h_t1 h_x1 h_v_a h_v_thrown h_v_best h_v_rentBy h_v_bareBy h_v_aheadBy hg
  unfold g_X6_contribution_14 at hg
  unfold f_X6_contribution_14
  refine lI (LI_le h_t1 (LI_n (X := 0) (x := 0) rfl)) hg (fun hc hg => ?_) (fun hc hg => ?_)
  · refine lA (EI_i (LI_n (X := 179) (x := 179) rfl)) rfl hg (fun ha_1 hg => ?_)
    refine lB_5_2 (fun r hr => l_X6_plans  _ _ _ _ _ _ _ (sX6_thrown b_this t1) r (LA_at h_v_a (EI_i (LI_n (X := 179) (x := 179) rfl)) ha_1) (LA_cg (eX6_a_thrown _ _) h_v_a) (LA_cg (eX6_best_thrown _ _) h_v_best) (LA_cg (eX6_rentBy_thrown _ _) h_v_rentBy) (LA_cg (eX6_bareBy_thrown _ _) h_v_bareBy) (LA_cg (eX6_aheadBy_thrown _ _) h_v_aheadBy) hr) hg (fun Fr_2 Fv_3 Fv_4 Fv_5 Fv_6 r_2 b_2 hq hg => ?_)
    obtain ⟨q_3, q_4, q_5, q_6, q_7, q_8, q_9, q_10, q_11, q_12, q_13, q_14, q_15, q_16, q_17, q_18, q_19, q_20, q_21, q_22, q_23, q_24, q_25, q_26, q_27, q_28, q_29, q_30, q_31⟩ := hq
    have qe_32 := Eq.trans q_8 (eX6_a_thrown _ _)
    have qe_33 := Eq.trans q_9 (eX6_fresh_thrown _ _)
    have qe_34 := Eq.trans q_10 (eX6_kept_thrown _ _)
    have qe_35 := Eq.trans q_11 (eX6_keptMany_thrown _ _)
    have qe_36 := Eq.trans q_12 (eX6_thrown_thrown _ _)
    have qe_37 := Eq.trans q_13 (eX6_buffer_thrown _ _)
    have qe_38 := Eq.trans q_14 (eX6_buffered_thrown _ _)
    have qe_39 := Eq.trans q_15 (eX6_size_thrown _ _)
    have qe_40 := Eq.trans q_16 (eX6_at_thrown _ _)
    have qe_41 := Eq.trans q_17 (eX6_behind_thrown _ _)
    have qe_42 := Eq.trans q_18 (eX6_kind_thrown _ _)
    have qe_43 := Eq.trans q_19 (eX6_wrong_thrown _ _)
    have qe_44 := Eq.trans q_20 (eX6_wrongAt_thrown _ _)
    have qe_45 := Eq.trans q_21 (eX6_errorAt_thrown _ _)
    have qe_46 := Eq.trans q_22 (eX6_number_thrown _ _)
    have qe_47 := Eq.trans q_23 (eX6_isEdge_thrown _ _)
    have qe_48 := Eq.trans q_24 (eX6_tried_thrown _ _)
    have qe_49 := Eq.trans q_25 (eX6_stands_thrown _ _)
    have qe_50 := Eq.trans q_26 (eX6_found_thrown _ _)
    have qe_51 := Eq.trans q_27 (eX6_foundOn_thrown _ _)
    have qe_52 := Eq.trans q_28 (eX6_moving_thrown _ _)
    have qe_53 := Eq.trans q_29 (eX6_movingMany_thrown _ _)
    have qe_54 := Eq.trans q_30 (eX6_foundIncome_thrown _ _)
    have qe_55 := Eq.trans q_31 (eX6_foundMoves_thrown _ _)
    have hl_56 := (LA_cg qe_32 h_v_a)
    have hl_57 := (LI_cg qe_36 h_t1)
    refine lA (EI_i (LI_n (X := 179) (x := 179) rfl)) rfl hg (fun ha_58 hg => ?_)
    refine lB_1_1 (fun r hr => l_X6_at  _ _ _ _ _ _ _ _ r (LI_n (X := 0) (x := 0) rfl) (LI_shl (LI_n (X := 1) (x := 1) rfl) h_x1) (LI_n (X := 8) (x := 8) rfl) (LA_at hl_56 (EI_i (LI_n (X := 179) (x := 179) rfl)) ha_58) hr) hg (fun Fr_9 r_9 hq hg => ?_)
    have q_59 := hq
    refine lA (EI_i q_59) rfl hg (fun ha_60 hg => ?_)
    refine lD hg (fun hd_61 hg => ?_)
    refine lR hg (fun hr_62 hg => ?_)
    cases hg
    exact ⟨_, rfl, (LI_of (EI_sub (EI_i q_3) (EI_div (LA_at q_4 (EI_i q_59) ha_60) (LI_n (X := 16) (x := 16) rfl) hd_61)) hr_62), hl_57, q_4, q_5, q_6, q_7, qe_32, qe_33, qe_34, qe_35, qe_37, qe_38, qe_39, qe_40, qe_41, qe_42, qe_43, qe_44, qe_45, qe_46, qe_47, qe_48, qe_49, qe_50, qe_51, qe_52, qe_53, qe_54, qe_55⟩
  · cases hg
    exact ⟨_, rfl, (LI_n (X := 0) (x := 0) rfl), (LI_cg (eX6_thrown_thrown _ _) h_t1), (LA_cg (eX6_best_thrown _ _) h_v_best), (LA_cg (eX6_rentBy_thrown _ _) h_v_rentBy), (LA_cg (eX6_bareBy_thrown _ _) h_v_bareBy), (LA_cg (eX6_aheadBy_thrown _ _) h_v_aheadBy), (eX6_a_thrown _ _), (eX6_fresh_thrown _ _), (eX6_kept_thrown _ _), (eX6_keptMany_thrown _ _), (eX6_buffer_thrown _ _), (eX6_buffered_thrown _ _), (eX6_size_thrown _ _), (eX6_at_thrown _ _), (eX6_behind_thrown _ _), (eX6_kind_thrown _ _), (eX6_wrong_thrown _ _), (eX6_wrongAt_thrown _ _), (eX6_errorAt_thrown _ _), (eX6_number_thrown _ _), (eX6_isEdge_thrown _ _), (eX6_tried_thrown _ _), (eX6_stands_thrown _ _), (eX6_found_thrown _ _), (eX6_foundOn_thrown _ _), (eX6_moving_thrown _ _), (eX6_movingMany_thrown _ _), (eX6_foundIncome_thrown _ _), (eX6_foundMoves_thrown _ _)⟩
set_option maxHeartbeats 4000000 in
set_option maxRecDepth 100000 in
theorem l_X6_contribution {n : Nat} : ∀ (Fx1 : Int32) (x1 : Int) (Fv_a : Nat → Int32) (Fv_thrown : Int32) (Fv_best : Nat → Int32) (Fv_rentBy : Nat → Int32) (Fv_bareBy : Nat → Int32) (Fv_aheadBy : Nat → Int32) (b_this : BX6) (r : Int × BX6), LI Fx1 x1 → LA Fv_a (pX6_a b_this) → LI Fv_thrown (pX6_thrown b_this) → LA Fv_best (pX6_best b_this) → LA Fv_rentBy (pX6_rentBy b_this) → LA Fv_bareBy (pX6_bareBy b_this) → LA Fv_aheadBy (pX6_aheadBy b_this) → g_X6_contribution n b_this x1 = some r → ∃ R, f_X6_contribution n Fv_a Fv_thrown Fv_best Fv_rentBy Fv_bareBy Fv_aheadBy Fx1 = some R ∧ LI (R.1) (r.1) ∧ LI (R.2.1) (pX6_thrown (r.2)) ∧ LA (R.2.2.1) (pX6_best (r.2)) ∧ LA (R.2.2.2.1) (pX6_rentBy (r.2)) ∧ LA (R.2.2.2.2.1) (pX6_bareBy (r.2)) ∧ LA (R.2.2.2.2.2) (pX6_aheadBy (r.2)) ∧ (pX6_a (r.2)) = (pX6_a b_this) ∧ (pX6_fresh (r.2)) = (pX6_fresh b_this) ∧ (pX6_kept (r.2)) = (pX6_kept b_this) ∧ (pX6_keptMany (r.2)) = (pX6_keptMany b_this) ∧ (pX6_buffer (r.2)) = (pX6_buffer b_this) ∧ (pX6_buffered (r.2)) = (pX6_buffered b_this) ∧ (pX6_size (r.2)) = (pX6_size b_this) ∧ (pX6_at (r.2)) = (pX6_at b_this) ∧ (pX6_behind (r.2)) = (pX6_behind b_this) ∧ (pX6_kind (r.2)) = (pX6_kind b_this) ∧ (pX6_wrong (r.2)) = (pX6_wrong b_this) ∧ (pX6_wrongAt (r.2)) = (pX6_wrongAt b_this) ∧ (pX6_errorAt (r.2)) = (pX6_errorAt b_this) ∧ (pX6_number (r.2)) = (pX6_number b_this) ∧ (pX6_isEdge (r.2)) = (pX6_isEdge b_this) ∧ (pX6_tried (r.2)) = (pX6_tried b_this) ∧ (pX6_stands (r.2)) = (pX6_stands b_this) ∧ (pX6_found (r.2)) = (pX6_found b_this) ∧ (pX6_foundOn (r.2)) = (pX6_foundOn b_this) ∧ (pX6_moving (r.2)) = (pX6_moving b_this) ∧ (pX6_movingMany (r.2)) = (pX6_movingMany b_this) ∧ (pX6_foundIncome (r.2)) = (pX6_foundIncome b_this) ∧ (pX6_foundMoves (r.2)) = (pX6_foundMoves b_this) := by
  intro Fx1 x1 Fv_a Fv_thrown Fv_best Fv_rentBy Fv_bareBy Fv_aheadBy b_this r h_x1 h_v_a h_v_thrown h_v_best h_v_rentBy h_v_bareBy h_v_aheadBy hg
  unfold g_X6_contribution at hg
  unfold f_X6_contribution
  refine lB_1_1 (fun r hr => l_X6_isTrader  _ _ _ b_this r h_x1 h_v_a hr) hg (fun Fr_12 r_12 hq hg => ?_)
  have q_63 := hq
  refine lI (LI_eq q_63 (LI_n (X := 0) (x := 0) rfl)) hg (fun hc hg => ?_) (fun hc hg => ?_)
  · refine lJ (l_X6_contribution_14 _ _ _ _ _ _ _ _ _ _ b_this _ (LI_n (X := 1) (x := 1) rfl) h_x1 h_v_a h_v_thrown h_v_best h_v_rentBy h_v_bareBy h_v_aheadBy hg) (fun R hq => ?_)
    obtain ⟨c0, c1, c2, c3, c4, c5, c6, c7, c8, c9, c10, c11, c12, c13, c14, c15, c16, c17, c18, c19, c20, c21, c22, c23, c24, c25, c26, c27, c28⟩ := hq
    exact ⟨c0, c1, c2, c3, c4, c5, c6, c7, c8, c9, c10, c11, c12, c13, c14, c15, c16, c17, c18, c19, c20, c21, c22, c23, c24, c25, c26, c27, c28⟩
  · refine lJ (l_X6_contribution_14 _ _ _ _ _ _ _ _ _ _ b_this _ (LI_n (X := 0) (x := 0) rfl) h_x1 h_v_a h_v_thrown h_v_best h_v_rentBy h_v_bareBy h_v_aheadBy hg) (fun R hq => ?_)
    obtain ⟨c0, c1, c2, c3, c4, c5, c6, c7, c8, c9, c10, c11, c12, c13, c14, c15, c16, c17, c18, c19, c20, c21, c22, c23, c24, c25, c26, c27, c28⟩ := hq
    exact ⟨c0, c1, c2, c3, c4, c5, c6, c7, c8, c9, c10, c11, c12, c13, c14, c15, c16, c17, c18, c19, c20, c21, c22, c23, c24, c25, c26, c27, c28⟩
set_option maxHeartbeats 4000000 in
set_option maxRecDepth 100000 in
theorem l_X6_coverValue {n : Nat} : ∀ (Fv_a : Nat → Int32) (Fv_thrown : Int32) (Fv_best : Nat → Int32) (Fv_rentBy : Nat → Int32) (Fv_bareBy : Nat → Int32) (Fv_aheadBy : Nat → Int32) (b_this : BX6) (r : Int × BX6), LA Fv_a (pX6_a b_this) → LI Fv_thrown (pX6_thrown b_this) → LA Fv_best (pX6_best b_this) → LA Fv_rentBy (pX6_rentBy b_this) → LA Fv_bareBy (pX6_bareBy b_this) → LA Fv_aheadBy (pX6_aheadBy b_this) → g_X6_coverValue n b_this = some r → ∃ R, f_X6_coverValue n Fv_a Fv_thrown Fv_best Fv_rentBy Fv_bareBy Fv_aheadBy = some R ∧ LI (R.1) (r.1) ∧ LI (R.2.1) (pX6_thrown (r.2)) ∧ LA (R.2.2.1) (pX6_best (r.2)) ∧ LA (R.2.2.2.1) (pX6_rentBy (r.2)) ∧ LA (R.2.2.2.2.1) (pX6_bareBy (r.2)) ∧ LA (R.2.2.2.2.2) (pX6_aheadBy (r.2)) ∧ (pX6_a (r.2)) = (pX6_a b_this) ∧ (pX6_fresh (r.2)) = (pX6_fresh b_this) ∧ (pX6_kept (r.2)) = (pX6_kept b_this) ∧ (pX6_keptMany (r.2)) = (pX6_keptMany b_this) ∧ (pX6_buffer (r.2)) = (pX6_buffer b_this) ∧ (pX6_buffered (r.2)) = (pX6_buffered b_this) ∧ (pX6_size (r.2)) = (pX6_size b_this) ∧ (pX6_at (r.2)) = (pX6_at b_this) ∧ (pX6_behind (r.2)) = (pX6_behind b_this) ∧ (pX6_kind (r.2)) = (pX6_kind b_this) ∧ (pX6_wrong (r.2)) = (pX6_wrong b_this) ∧ (pX6_wrongAt (r.2)) = (pX6_wrongAt b_this) ∧ (pX6_errorAt (r.2)) = (pX6_errorAt b_this) ∧ (pX6_number (r.2)) = (pX6_number b_this) ∧ (pX6_isEdge (r.2)) = (pX6_isEdge b_this) ∧ (pX6_tried (r.2)) = (pX6_tried b_this) ∧ (pX6_stands (r.2)) = (pX6_stands b_this) ∧ (pX6_found (r.2)) = (pX6_found b_this) ∧ (pX6_foundOn (r.2)) = (pX6_foundOn b_this) ∧ (pX6_moving (r.2)) = (pX6_moving b_this) ∧ (pX6_movingMany (r.2)) = (pX6_movingMany b_this) ∧ (pX6_foundIncome (r.2)) = (pX6_foundIncome b_this) ∧ (pX6_foundMoves (r.2)) = (pX6_foundMoves b_this) := by
  intro Fv_a Fv_thrown Fv_best Fv_rentBy Fv_bareBy Fv_aheadBy b_this r h_v_a h_v_thrown h_v_best h_v_rentBy h_v_bareBy h_v_aheadBy hg
  unfold g_X6_coverValue at hg
  unfold f_X6_coverValue
  refine lA (EI_i (LI_n (X := 179) (x := 179) rfl)) rfl hg (fun ha_1 hg => ?_)
  refine lB_5_2 (fun r hr => l_X6_plans  _ _ _ _ _ _ _ (sX6_thrown b_this 0) r (LA_at h_v_a (EI_i (LI_n (X := 179) (x := 179) rfl)) ha_1) (LA_cg (eX6_a_thrown _ _) h_v_a) (LA_cg (eX6_best_thrown _ _) h_v_best) (LA_cg (eX6_rentBy_thrown _ _) h_v_rentBy) (LA_cg (eX6_bareBy_thrown _ _) h_v_bareBy) (LA_cg (eX6_aheadBy_thrown _ _) h_v_aheadBy) hr) hg (fun Fr_2 Fv_3 Fv_4 Fv_5 Fv_6 r_2 b_2 hq hg => ?_)
  obtain ⟨q_3, q_4, q_5, q_6, q_7, q_8, q_9, q_10, q_11, q_12, q_13, q_14, q_15, q_16, q_17, q_18, q_19, q_20, q_21, q_22, q_23, q_24, q_25, q_26, q_27, q_28, q_29, q_30, q_31⟩ := hq
  have qe_32 := Eq.trans q_8 (eX6_a_thrown _ _)
  have qe_33 := Eq.trans q_9 (eX6_fresh_thrown _ _)
  have qe_34 := Eq.trans q_10 (eX6_kept_thrown _ _)
  have qe_35 := Eq.trans q_11 (eX6_keptMany_thrown _ _)
  have qe_36 := Eq.trans q_12 (eX6_thrown_thrown _ _)
  have qe_37 := Eq.trans q_13 (eX6_buffer_thrown _ _)
  have qe_38 := Eq.trans q_14 (eX6_buffered_thrown _ _)
  have qe_39 := Eq.trans q_15 (eX6_size_thrown _ _)
  have qe_40 := Eq.trans q_16 (eX6_at_thrown _ _)
  have qe_41 := Eq.trans q_17 (eX6_behind_thrown _ _)
  have qe_42 := Eq.trans q_18 (eX6_kind_thrown _ _)
  have qe_43 := Eq.trans q_19 (eX6_wrong_thrown _ _)
  have qe_44 := Eq.trans q_20 (eX6_wrongAt_thrown _ _)
  have qe_45 := Eq.trans q_21 (eX6_errorAt_thrown _ _)
  have qe_46 := Eq.trans q_22 (eX6_number_thrown _ _)
  have qe_47 := Eq.trans q_23 (eX6_isEdge_thrown _ _)
  have qe_48 := Eq.trans q_24 (eX6_tried_thrown _ _)
  have qe_49 := Eq.trans q_25 (eX6_stands_thrown _ _)
  have qe_50 := Eq.trans q_26 (eX6_found_thrown _ _)
  have qe_51 := Eq.trans q_27 (eX6_foundOn_thrown _ _)
  have qe_52 := Eq.trans q_28 (eX6_moving_thrown _ _)
  have qe_53 := Eq.trans q_29 (eX6_movingMany_thrown _ _)
  have qe_54 := Eq.trans q_30 (eX6_foundIncome_thrown _ _)
  have qe_55 := Eq.trans q_31 (eX6_foundMoves_thrown _ _)
  have hl_56 := (LA_cg qe_32 h_v_a)
  have hl_57 := (LI_cg qe_36 (LI_n (X := 0) (x := 0) rfl))
  refine lA (EI_i (LI_n (X := 179) (x := 179) rfl)) rfl hg (fun ha_58 hg => ?_)
  refine lR hg (fun hr_59 hg => ?_)
  refine lB_5_2 (fun r hr => l_X6_plans  _ _ _ _ _ _ _ b_2 r (LI_of (EI_add (EI_i (LA_at hl_56 (EI_i (LI_n (X := 179) (x := 179) rfl)) ha_58)) (EI_i (LI_n (X := 1) (x := 1) rfl))) hr_59) hl_56 q_4 q_5 q_6 q_7 hr) hg (fun Fr_9 Fv_10 Fv_11 Fv_12 Fv_13 r_9 b_60 hq hg => ?_)
  obtain ⟨q_61, q_62, q_63, q_64, q_65, q_66, q_67, q_68, q_69, q_70, q_71, q_72, q_73, q_74, q_75, q_76, q_77, q_78, q_79, q_80, q_81, q_82, q_83, q_84, q_85, q_86, q_87, q_88, q_89⟩ := hq
  have hl_90 := (LA_cg q_66 hl_56)
  have hl_91 := (LI_cg q_70 hl_57)
  refine lR hg (fun hr_92 hg => ?_)
  cases hg
  exact ⟨_, rfl, (LI_of (EI_sub (EI_i q_61) (EI_i q_3)) hr_92), hl_91, q_62, q_63, q_64, q_65, (Eq.trans q_66 qe_32), (Eq.trans q_67 qe_33), (Eq.trans q_68 qe_34), (Eq.trans q_69 qe_35), (Eq.trans q_71 qe_37), (Eq.trans q_72 qe_38), (Eq.trans q_73 qe_39), (Eq.trans q_74 qe_40), (Eq.trans q_75 qe_41), (Eq.trans q_76 qe_42), (Eq.trans q_77 qe_43), (Eq.trans q_78 qe_44), (Eq.trans q_79 qe_45), (Eq.trans q_80 qe_46), (Eq.trans q_81 qe_47), (Eq.trans q_82 qe_48), (Eq.trans q_83 qe_49), (Eq.trans q_84 qe_50), (Eq.trans q_85 qe_51), (Eq.trans q_86 qe_52), (Eq.trans q_87 qe_53), (Eq.trans q_88 qe_54), (Eq.trans q_89 qe_55)⟩
set_option maxHeartbeats 4000000 in
set_option maxRecDepth 100000 in
theorem l_X6_usedCovers_47 {n : Nat} {K4 : Int32 → Int32 → (Nat → Int32) → Option (Int32)} {k4 : Int → Int → BX6 → Option (Int)} (hk4 : ∀ (Fx1 : Int32) (Fx2 : Int32) (x1 : Int) (x2 : Int) (Fv_a : Nat → Int32) (b_this : BX6) (r : Int), LI Fx1 x1 → LI Fx2 x2 → LA Fv_a (pX6_a b_this) → k4 x1 x2 b_this = some r → ∃ R, K4 Fx1 Fx2 Fv_a = some R ∧ LI R r) : ∀ (Ft0 : Int32) (Ft1 : Int32) (Fx2 : Int32) (t0 : Int) (t1 : Int) (x2 : Int) (Fv_a : Nat → Int32) (b_this : BX6) (r : Int), LI Ft0 t0 → LI Ft1 t1 → LI Fx2 x2 → LA Fv_a (pX6_a b_this) → g_X6_usedCovers_47 n k4 t0 t1 x2 b_this = some r → ∃ R, f_X6_usedCovers_47 n K4 Ft0 Ft1 Fx2 Fv_a = some R ∧ LI R r := by
  intro Ft0 Ft1 Fx2 t0 t1 x2 Fv_a b_this r h_t0 h_t1 h_x2 h_v_a hg
  unfold g_X6_usedCovers_47 at hg
  unfold f_X6_usedCovers_47
  refine lR hg (fun hr_1 hg => ?_)
  refine lL (LI_of (EI_add (EI_i h_t0) (EI_i h_t1)) hr_1) hg (fun Fy_1 y_1 h_y_1 hg => ?_)
  refine lR hg (fun hr_2 hg => ?_)
  refine lJ (hk4 _ _ _ _ _ b_this _ h_y_1 (LI_of (EI_add (EI_i h_x2) (EI_i (LI_n (X := 1) (x := 1) rfl))) hr_2) h_v_a hg) (fun R hq => ?_)
  have c0 := hq
  exact c0
set_option maxHeartbeats 4000000 in
set_option maxRecDepth 100000 in
theorem l_X6_usedCovers_4 {n : Nat} : ∀ (fu : Nat), ∀ (Fx1 : Int32) (Fx2 : Int32) (x1 : Int) (x2 : Int) (Fv_a : Nat → Int32) (b_this : BX6) (r : Int), LI Fx1 x1 → LI Fx2 x2 → LA Fv_a (pX6_a b_this) → g_X6_usedCovers_4 n fu x1 x2 b_this = some r → ∃ R, f_X6_usedCovers_4 n fu Fx1 Fx2 Fv_a = some R ∧ LI R r := by
  intro fu
  induction fu with
  | zero => intro Fx1 Fx2 x1 x2 Fv_a b_this r h_x1 h_x2 h_v_a hg; rw [g_X6_usedCovers_4.eq_1] at hg; cases hg
  | succ fu ih =>
    intro Fx1 Fx2 x1 x2 Fv_a b_this r h_x1 h_x2 h_v_a hg
    rw [g_X6_usedCovers_4.eq_2] at hg
    rw [f_X6_usedCovers_4.eq_2]
    refine lA (EI_i (LI_n (X := 74) (x := 74) rfl)) rfl hg (fun ha_3 hg => ?_)
    refine lI (LI_le (LA_at h_v_a (EI_i (LI_n (X := 74) (x := 74) rfl)) ha_3) h_x2) hg (fun hc hg => ?_) (fun hc hg => ?_)
    · cases hg
      exact ⟨_, rfl, h_x1⟩
    · refine lA (EI_add (EI_i (LI_n (X := 107) (x := 107) rfl)) (EI_i h_x2)) rfl hg (fun ha_4 hg => ?_)
      refine lI (LI_eq (LA_at h_v_a (EI_add (EI_i (LI_n (X := 107) (x := 107) rfl)) (EI_i h_x2)) ha_4) (LI_n (X := -1) (x := -1) rfl)) hg (fun hc hg => ?_) (fun hc hg => ?_)
      · refine lJ (l_X6_usedCovers_47 ih _ _ _ _ _ _ _ b_this _ h_x1 (LI_n (X := 0) (x := 0) rfl) h_x2 h_v_a hg) (fun R hq => ?_)
        have c0 := hq
        exact c0
      · refine lA (EI_add (EI_i (LI_n (X := 107) (x := 107) rfl)) (EI_i h_x2)) rfl hg (fun ha_5 hg => ?_)
        refine lB_1_1 (fun r hr => l_X6_bare  _ _ _ _ _ b_this r h_x2 (LA_at h_v_a (EI_add (EI_i (LI_n (X := 107) (x := 107) rfl)) (EI_i h_x2)) ha_5) h_v_a hr) hg (fun Fr_5 r_5 hq hg => ?_)
        have q_6 := hq
        refine lJ (l_X6_usedCovers_47 ih _ _ _ _ _ _ _ b_this _ h_x1 q_6 h_x2 h_v_a hg) (fun R hq => ?_)
        have c0 := hq
        exact c0
set_option maxHeartbeats 4000000 in
set_option maxRecDepth 100000 in
theorem l_X6_usedCovers {n : Nat} : ∀ (Fv_a : Nat → Int32) (b_this : BX6) (r : Int), LA Fv_a (pX6_a b_this) → g_X6_usedCovers n b_this = some r → ∃ R, f_X6_usedCovers n Fv_a = some R ∧ LI R r := by
  intro Fv_a b_this r h_v_a hg
  unfold g_X6_usedCovers at hg
  unfold f_X6_usedCovers
  refine lJ (l_X6_usedCovers_4 n _ _ _ _ _ b_this _ (LI_n (X := 0) (x := 0) rfl) (LI_n (X := 0) (x := 0) rfl) h_v_a hg) (fun R hq => ?_)
  have c0 := hq
  exact c0
set_option maxHeartbeats 4000000 in
set_option maxRecDepth 100000 in
theorem l_X6_coversUsed {n : Nat} : ∀ (Fv_a : Nat → Int32) (Fv_thrown : Int32) (b_this : BX6) (r : Int × BX6), LA Fv_a (pX6_a b_this) → LI Fv_thrown (pX6_thrown b_this) → g_X6_coversUsed n b_this = some r → ∃ R, f_X6_coversUsed n Fv_a Fv_thrown = some R ∧ LI (R.1) (r.1) ∧ LI (R.2) (pX6_thrown (r.2)) ∧ (pX6_a (r.2)) = (pX6_a b_this) ∧ (pX6_fresh (r.2)) = (pX6_fresh b_this) ∧ (pX6_kept (r.2)) = (pX6_kept b_this) ∧ (pX6_keptMany (r.2)) = (pX6_keptMany b_this) ∧ (pX6_buffer (r.2)) = (pX6_buffer b_this) ∧ (pX6_buffered (r.2)) = (pX6_buffered b_this) ∧ (pX6_size (r.2)) = (pX6_size b_this) ∧ (pX6_at (r.2)) = (pX6_at b_this) ∧ (pX6_behind (r.2)) = (pX6_behind b_this) ∧ (pX6_kind (r.2)) = (pX6_kind b_this) ∧ (pX6_wrong (r.2)) = (pX6_wrong b_this) ∧ (pX6_wrongAt (r.2)) = (pX6_wrongAt b_this) ∧ (pX6_errorAt (r.2)) = (pX6_errorAt b_this) ∧ (pX6_number (r.2)) = (pX6_number b_this) ∧ (pX6_best (r.2)) = (pX6_best b_this) ∧ (pX6_rentBy (r.2)) = (pX6_rentBy b_this) ∧ (pX6_bareBy (r.2)) = (pX6_bareBy b_this) ∧ (pX6_aheadBy (r.2)) = (pX6_aheadBy b_this) ∧ (pX6_isEdge (r.2)) = (pX6_isEdge b_this) ∧ (pX6_tried (r.2)) = (pX6_tried b_this) ∧ (pX6_stands (r.2)) = (pX6_stands b_this) ∧ (pX6_found (r.2)) = (pX6_found b_this) ∧ (pX6_foundOn (r.2)) = (pX6_foundOn b_this) ∧ (pX6_moving (r.2)) = (pX6_moving b_this) ∧ (pX6_movingMany (r.2)) = (pX6_movingMany b_this) ∧ (pX6_foundIncome (r.2)) = (pX6_foundIncome b_this) ∧ (pX6_foundMoves (r.2)) = (pX6_foundMoves b_this) := by
  intro Fv_a Fv_thrown b_this r h_v_a h_v_thrown hg
  unfold g_X6_coversUsed at hg
  unfold f_X6_coversUsed
  refine lB_1_1 (fun r hr => l_X6_usedCovers  _ (sX6_thrown b_this 0) r (LA_cg (eX6_a_thrown _ _) h_v_a) hr) hg (fun Fr_1 r_1 hq hg => ?_)
  have q_1 := hq
  cases hg
  exact ⟨_, rfl, q_1, (LI_cg (eX6_thrown_thrown _ _) (LI_n (X := 0) (x := 0) rfl)), (eX6_a_thrown _ _), (eX6_fresh_thrown _ _), (eX6_kept_thrown _ _), (eX6_keptMany_thrown _ _), (eX6_buffer_thrown _ _), (eX6_buffered_thrown _ _), (eX6_size_thrown _ _), (eX6_at_thrown _ _), (eX6_behind_thrown _ _), (eX6_kind_thrown _ _), (eX6_wrong_thrown _ _), (eX6_wrongAt_thrown _ _), (eX6_errorAt_thrown _ _), (eX6_number_thrown _ _), (eX6_best_thrown _ _), (eX6_rentBy_thrown _ _), (eX6_bareBy_thrown _ _), (eX6_aheadBy_thrown _ _), (eX6_isEdge_thrown _ _), (eX6_tried_thrown _ _), (eX6_stands_thrown _ _), (eX6_found_thrown _ _), (eX6_foundOn_thrown _ _), (eX6_moving_thrown _ _), (eX6_movingMany_thrown _ _), (eX6_foundIncome_thrown _ _), (eX6_foundMoves_thrown _ _)⟩
set_option maxHeartbeats 4000000 in
set_option maxRecDepth 100000 in
theorem l_X6_is : ∀ (Fx1 : Int32) (x1 : Int) (Fv_kind : Int32) (Fv_wrong : Int32) (b_this : BX6) (r : Int), LI Fx1 x1 → LI Fv_kind (pX6_kind b_this) → LI Fv_wrong (pX6_wrong b_this) → g_X6_is b_this x1 = some r → ∃ R, f_X6_is Fv_kind Fv_wrong Fx1 = some R ∧ LI R r := by
  intro Fx1 x1 Fv_kind Fv_wrong b_this r h_x1 h_v_kind h_v_wrong hg
  unfold g_X6_is at hg
  unfold f_X6_is
  refine lI (LI_eq h_v_wrong (LI_n (X := 0) (x := 0) rfl)) hg (fun hc hg => ?_) (fun hc hg => ?_)
  · refine lI (LI_eq h_v_kind h_x1) hg (fun hc hg => ?_) (fun hc hg => ?_)
    · cases hg
      exact ⟨_, rfl, (LI_n (X := 1) (x := 1) rfl)⟩
    · cases hg
      exact ⟨_, rfl, (LI_n (X := 0) (x := 0) rfl)⟩
  · cases hg
    exact ⟨_, rfl, (LI_n (X := 0) (x := 0) rfl)⟩
set_option maxHeartbeats 4000000 in
set_option maxRecDepth 100000 in
theorem l_X6_see : ∀ (Fx1 : Int32) (x1 : Int) (Fv_buffer : Nat → Int32) (Fv_size : Int32) (b_this : BX6) (r : Int), LI Fx1 x1 → LA Fv_buffer (pX6_buffer b_this) → LI Fv_size (pX6_size b_this) → g_X6_see b_this x1 = some r → ∃ R, f_X6_see Fv_buffer Fv_size Fx1 = some R ∧ LI R r := by
  intro Fx1 x1 Fv_buffer Fv_size b_this r h_x1 h_v_buffer h_v_size hg
  unfold g_X6_see at hg
  unfold f_X6_see
  refine lI (LI_le h_v_size h_x1) hg (fun hc hg => ?_) (fun hc hg => ?_)
  · cases hg
    exact ⟨_, rfl, (LI_n (X := -1) (x := -1) rfl)⟩
  · refine lA (EI_i h_x1) rfl hg (fun ha_1 hg => ?_)
    cases hg
    exact ⟨_, rfl, (LA_at h_v_buffer (EI_i h_x1) ha_1)⟩
set_option maxHeartbeats 4000000 in
set_option maxRecDepth 100000 in
theorem l_X6_isDigit : ∀ (Fx0 : Int32) (x0 : Int) (r : Int), LI Fx0 x0 → g_X6_isDigit x0 = some r → ∃ R, f_X6_isDigit Fx0 = some R ∧ LI R r := by
  intro Fx0 x0 r h_x0 hg
  unfold g_X6_isDigit at hg
  unfold f_X6_isDigit
  refine lB_1_1 (fun r hr => l_X6_isIn  _ _ _ _ _ _ r (LJ_i h_x0) (LJ_n (X := 48) (x := 48) rfl) (LJ_n (X := 57) (x := 57) rfl) hr) hg (fun Fr_1 r_1 hq hg => ?_)
  have q_1 := hq
  refine lG (LI_eq (LI_nar q_1) q_1) hg (fun hn_2 hg => ?_)
  cases hg
  exact ⟨_, rfl, q_1⟩
set_option maxHeartbeats 4000000 in
set_option maxRecDepth 100000 in
theorem l_X6_isSmall : ∀ (Fx0 : Int32) (x0 : Int) (r : Int), LI Fx0 x0 → g_X6_isSmall x0 = some r → ∃ R, f_X6_isSmall Fx0 = some R ∧ LI R r := by
  intro Fx0 x0 r h_x0 hg
  unfold g_X6_isSmall at hg
  unfold f_X6_isSmall
  refine lB_1_1 (fun r hr => l_X6_isIn  _ _ _ _ _ _ r (LJ_i h_x0) (LJ_n (X := 97) (x := 97) rfl) (LJ_n (X := 122) (x := 122) rfl) hr) hg (fun Fr_1 r_1 hq hg => ?_)
  have q_1 := hq
  refine lG (LI_eq (LI_nar q_1) q_1) hg (fun hn_2 hg => ?_)
  cases hg
  exact ⟨_, rfl, q_1⟩
set_option maxHeartbeats 4000000 in
set_option maxRecDepth 100000 in
theorem l_X6_keyAt_97 {n : Nat} {K4 : Int32 → Int32 → (Nat → Int32) → Int32 → Int32 → Option (Int32)} {k4 : Int → Int → BX6 → Option (Int)} (hk4 : ∀ (Fx1 : Int32) (Fx2 : Int32) (x1 : Int) (x2 : Int) (Fv_buffer : Nat → Int32) (Fv_at : Int32) (Fv_behind : Int32) (b_this : BX6) (r : Int), LI Fx1 x1 → LI Fx2 x2 → LA Fv_buffer (pX6_buffer b_this) → LI Fv_at (pX6_at b_this) → LI Fv_behind (pX6_behind b_this) → k4 x1 x2 b_this = some r → ∃ R, K4 Fx1 Fx2 Fv_buffer Fv_at Fv_behind = some R ∧ LI R r) : ∀ (fu : Nat), ∀ (Fx1 : Int32) (Fx2 : Int32) (x1 : Int) (x2 : Int) (Fv_buffer : Nat → Int32) (Fv_at : Int32) (Fv_behind : Int32) (b_this : BX6) (r : Int), LI Fx1 x1 → LI Fx2 x2 → LA Fv_buffer (pX6_buffer b_this) → LI Fv_at (pX6_at b_this) → LI Fv_behind (pX6_behind b_this) → g_X6_keyAt_97 n k4 fu x1 x2 b_this = some r → ∃ R, f_X6_keyAt_97 n K4 fu Fx1 Fx2 Fv_buffer Fv_at Fv_behind = some R ∧ LI R r := by
  intro fu
  induction fu with
  | zero => intro Fx1 Fx2 x1 x2 Fv_buffer Fv_at Fv_behind b_this r h_x1 h_x2 h_v_buffer h_v_at h_v_behind hg; rw [g_X6_keyAt_97.eq_1] at hg; cases hg
  | succ fu ih =>
    intro Fx1 Fx2 x1 x2 Fv_buffer Fv_at Fv_behind b_this r h_x1 h_x2 h_v_buffer h_v_at h_v_behind hg
    rw [g_X6_keyAt_97.eq_2] at hg
    rw [f_X6_keyAt_97.eq_2]
    refine lG Iff.rfl hg (fun hn_1 hg => ?_)
    refine lA (EI_i h_x2) rfl hg (fun ha_2 hg => ?_)
    refine lI (LI_eq (LI_js (EI_i h_x2) ha_2) (LI_n (X := 32) (x := 32) rfl)) hg (fun hc hg => ?_) (fun hc hg => ?_)
    · refine lR hg (fun hr_3 hg => ?_)
      refine lR hg (fun hr_4 hg => ?_)
      refine lJ (hk4 _ _ _ _ _ _ _ b_this _ (LI_of (EI_add (EI_i h_x1) (EI_i (LI_n (X := 1) (x := 1) rfl))) hr_3) (LI_of (EI_add (EI_i h_x2) (EI_i (LI_n (X := 1) (x := 1) rfl))) hr_4) h_v_buffer h_v_at h_v_behind hg) (fun R hq => ?_)
      have c0 := hq
      exact c0
    · refine lR hg (fun hr_5 hg => ?_)
      refine lJ (ih _ _ _ _ _ _ _ b_this _ h_x1 (LI_of (EI_add (EI_i h_x2) (EI_i (LI_n (X := 1) (x := 1) rfl))) hr_5) h_v_buffer h_v_at h_v_behind hg) (fun R hq => ?_)
      have c0 := hq
      exact c0
set_option maxHeartbeats 4000000 in
set_option maxRecDepth 100000 in
theorem l_X6_keyAt_69 {n : Nat} {K4 : Int32 → Int32 → (Nat → Int32) → Int32 → Int32 → Option (Int32)} {k4 : Int → Int → BX6 → Option (Int)} (hk4 : ∀ (Fx1 : Int32) (Fx2 : Int32) (x1 : Int) (x2 : Int) (Fv_buffer : Nat → Int32) (Fv_at : Int32) (Fv_behind : Int32) (b_this : BX6) (r : Int), LI Fx1 x1 → LI Fx2 x2 → LA Fv_buffer (pX6_buffer b_this) → LI Fv_at (pX6_at b_this) → LI Fv_behind (pX6_behind b_this) → k4 x1 x2 b_this = some r → ∃ R, K4 Fx1 Fx2 Fv_buffer Fv_at Fv_behind = some R ∧ LI R r) : ∀ (Fx1 : Int32) (Fx2 : Int32) (Fx3 : Int32) (x1 : Int) (x2 : Int) (x3 : Int) (Fv_buffer : Nat → Int32) (Fv_at : Int32) (Fv_behind : Int32) (b_this : BX6) (r : Int), LI Fx1 x1 → LI Fx2 x2 → LI Fx3 x3 → LA Fv_buffer (pX6_buffer b_this) → LI Fv_at (pX6_at b_this) → LI Fv_behind (pX6_behind b_this) → g_X6_keyAt_69 n k4 x1 x2 x3 b_this = some r → ∃ R, f_X6_keyAt_69 n K4 Fx1 Fx2 Fx3 Fv_buffer Fv_at Fv_behind = some R ∧ LI R r := by
  intro Fx1 Fx2 Fx3 x1 x2 x3 Fv_buffer Fv_at Fv_behind b_this r h_x1 h_x2 h_x3 h_v_buffer h_v_at h_v_behind hg
  unfold g_X6_keyAt_69 at hg
  unfold f_X6_keyAt_69
  refine lG Iff.rfl hg (fun hn_6 hg => ?_)
  refine lA (EI_add (EI_i h_x2) (EI_i h_x3)) rfl hg (fun ha_7 hg => ?_)
  refine lI (LI_eq (LI_js (EI_add (EI_i h_x2) (EI_i h_x3)) ha_7) (LI_n (X := 32) (x := 32) rfl)) hg (fun hc hg => ?_) (fun hc hg => ?_)
  · refine lR hg (fun hr_8 hg => ?_)
    refine lI (LI_eq (LI_of (EI_add (EI_i h_v_at) (EI_i h_x3)) hr_8) h_v_behind) hg (fun hc hg => ?_) (fun hc hg => ?_)
    · cases hg
      exact ⟨_, rfl, h_x1⟩
    · refine lJ (l_X6_keyAt_97 hk4 n _ _ _ _ _ _ _ b_this _ h_x1 h_x2 h_v_buffer h_v_at h_v_behind hg) (fun R hq => ?_)
      have c0 := hq
      exact c0
  · refine lJ (l_X6_keyAt_97 hk4 n _ _ _ _ _ _ _ b_this _ h_x1 h_x2 h_v_buffer h_v_at h_v_behind hg) (fun R hq => ?_)
    have c0 := hq
    exact c0
set_option maxHeartbeats 4000000 in
set_option maxRecDepth 100000 in
theorem l_X6_keyAt_15 {n : Nat} {K4 : Int32 → Int32 → (Nat → Int32) → Int32 → Int32 → Option (Int32)} {k4 : Int → Int → BX6 → Option (Int)} (hk4 : ∀ (Fx1 : Int32) (Fx2 : Int32) (x1 : Int) (x2 : Int) (Fv_buffer : Nat → Int32) (Fv_at : Int32) (Fv_behind : Int32) (b_this : BX6) (r : Int), LI Fx1 x1 → LI Fx2 x2 → LA Fv_buffer (pX6_buffer b_this) → LI Fv_at (pX6_at b_this) → LI Fv_behind (pX6_behind b_this) → k4 x1 x2 b_this = some r → ∃ R, K4 Fx1 Fx2 Fv_buffer Fv_at Fv_behind = some R ∧ LI R r) : ∀ (fu : Nat), ∀ (Fx1 : Int32) (Fx2 : Int32) (Fx3 : Int32) (x1 : Int) (x2 : Int) (x3 : Int) (Fv_buffer : Nat → Int32) (Fv_at : Int32) (Fv_behind : Int32) (b_this : BX6) (r : Int), LI Fx1 x1 → LI Fx2 x2 → LI Fx3 x3 → LA Fv_buffer (pX6_buffer b_this) → LI Fv_at (pX6_at b_this) → LI Fv_behind (pX6_behind b_this) → g_X6_keyAt_15 n k4 fu x1 x2 x3 b_this = some r → ∃ R, f_X6_keyAt_15 n K4 fu Fx1 Fx2 Fx3 Fv_buffer Fv_at Fv_behind = some R ∧ LI R r := by
  intro fu
  induction fu with
  | zero => intro Fx1 Fx2 Fx3 x1 x2 x3 Fv_buffer Fv_at Fv_behind b_this r h_x1 h_x2 h_x3 h_v_buffer h_v_at h_v_behind hg; rw [g_X6_keyAt_15.eq_1] at hg; cases hg
  | succ fu ih =>
    intro Fx1 Fx2 Fx3 x1 x2 x3 Fv_buffer Fv_at Fv_behind b_this r h_x1 h_x2 h_x3 h_v_buffer h_v_at h_v_behind hg
    rw [g_X6_keyAt_15.eq_2] at hg
    rw [f_X6_keyAt_15.eq_2]
    refine lG Iff.rfl hg (fun hn_9 hg => ?_)
    refine lA (EI_add (EI_i h_x2) (EI_i h_x3)) rfl hg (fun ha_10 hg => ?_)
    refine lI (LI_eq (LI_js (EI_add (EI_i h_x2) (EI_i h_x3)) ha_10) (LI_n (X := 32) (x := 32) rfl)) hg (fun hc hg => ?_) (fun hc hg => ?_)
    · refine lJ (l_X6_keyAt_69 hk4 _ _ _ _ _ _ _ _ _ b_this _ h_x1 h_x2 h_x3 h_v_buffer h_v_at h_v_behind hg) (fun R hq => ?_)
      have c0 := hq
      exact c0
    · refine lR hg (fun hr_11 hg => ?_)
      refine lI (LI_le h_v_behind (LI_of (EI_add (EI_i h_v_at) (EI_i h_x3)) hr_11)) hg (fun hc hg => ?_) (fun hc hg => ?_)
      · refine lJ (l_X6_keyAt_69 hk4 _ _ _ _ _ _ _ _ _ b_this _ h_x1 h_x2 h_x3 h_v_buffer h_v_at h_v_behind hg) (fun R hq => ?_)
        have c0 := hq
        exact c0
      · refine lA (EI_add (EI_i h_v_at) (EI_i h_x3)) rfl hg (fun ha_12 hg => ?_)
        refine lG Iff.rfl hg (fun hn_13 hg => ?_)
        refine lA (EI_add (EI_i h_x2) (EI_i h_x3)) rfl hg (fun ha_14 hg => ?_)
        refine lI (LI_eq (LA_at h_v_buffer (EI_add (EI_i h_v_at) (EI_i h_x3)) ha_12) (LI_js (EI_add (EI_i h_x2) (EI_i h_x3)) ha_14)) hg (fun hc hg => ?_) (fun hc hg => ?_)
        · refine lR hg (fun hr_15 hg => ?_)
          refine lJ (ih _ _ _ _ _ _ _ _ _ b_this _ h_x1 h_x2 (LI_of (EI_add (EI_i h_x3) (EI_i (LI_n (X := 1) (x := 1) rfl))) hr_15) h_v_buffer h_v_at h_v_behind hg) (fun R hq => ?_)
          have c0 := hq
          exact c0
        · refine lJ (l_X6_keyAt_69 hk4 _ _ _ _ _ _ _ _ _ b_this _ h_x1 h_x2 h_x3 h_v_buffer h_v_at h_v_behind hg) (fun R hq => ?_)
          have c0 := hq
          exact c0
set_option maxHeartbeats 4000000 in
set_option maxRecDepth 100000 in
theorem l_X6_keyAt_4 {n : Nat} : ∀ (fu : Nat), ∀ (Fx1 : Int32) (Fx2 : Int32) (x1 : Int) (x2 : Int) (Fv_buffer : Nat → Int32) (Fv_at : Int32) (Fv_behind : Int32) (b_this : BX6) (r : Int), LI Fx1 x1 → LI Fx2 x2 → LA Fv_buffer (pX6_buffer b_this) → LI Fv_at (pX6_at b_this) → LI Fv_behind (pX6_behind b_this) → g_X6_keyAt_4 n fu x1 x2 b_this = some r → ∃ R, f_X6_keyAt_4 n fu Fx1 Fx2 Fv_buffer Fv_at Fv_behind = some R ∧ LI R r := by
  intro fu
  induction fu with
  | zero => intro Fx1 Fx2 x1 x2 Fv_buffer Fv_at Fv_behind b_this r h_x1 h_x2 h_v_buffer h_v_at h_v_behind hg; rw [g_X6_keyAt_4.eq_1] at hg; cases hg
  | succ fu ih =>
    intro Fx1 Fx2 x1 x2 Fv_buffer Fv_at Fv_behind b_this r h_x1 h_x2 h_v_buffer h_v_at h_v_behind hg
    rw [g_X6_keyAt_4.eq_2] at hg
    rw [f_X6_keyAt_4.eq_2]
    refine lG Iff.rfl hg (fun hn_16 hg => ?_)
    refine lR hg (fun hr_17 hg => ?_)
    refine lI (LI_le (LI_of (EI_n rfl) hr_17) h_x2) hg (fun hc hg => ?_) (fun hc hg => ?_)
    · cases hg
      exact ⟨_, rfl, (LI_n (X := 8) (x := 8) rfl)⟩
    · refine lJ (l_X6_keyAt_15 ih n _ _ _ _ _ _ _ _ _ b_this _ h_x1 h_x2 (LI_n (X := 0) (x := 0) rfl) h_v_buffer h_v_at h_v_behind hg) (fun R hq => ?_)
      have c0 := hq
      exact c0
set_option maxHeartbeats 4000000 in
set_option maxRecDepth 100000 in
theorem l_X6_keyAt {n : Nat} : ∀ (Fv_buffer : Nat → Int32) (Fv_at : Int32) (Fv_behind : Int32) (b_this : BX6) (r : Int), LA Fv_buffer (pX6_buffer b_this) → LI Fv_at (pX6_at b_this) → LI Fv_behind (pX6_behind b_this) → g_X6_keyAt n b_this = some r → ∃ R, f_X6_keyAt n Fv_buffer Fv_at Fv_behind = some R ∧ LI R r := by
  intro Fv_buffer Fv_at Fv_behind b_this r h_v_buffer h_v_at h_v_behind hg
  unfold g_X6_keyAt at hg
  unfold f_X6_keyAt
  refine lJ (l_X6_keyAt_4 n _ _ _ _ _ _ _ b_this _ (LI_n (X := 0) (x := 0) rfl) (LI_n (X := 1) (x := 1) rfl) h_v_buffer h_v_at h_v_behind hg) (fun R hq => ?_)
  have c0 := hq
  exact c0
set_option maxHeartbeats 4000000 in
set_option maxRecDepth 100000 in
theorem l_X6_next_237 {n : Nat} : ∀ (Ft1 : Int32) (t1 : Int) (Fv_at : Int32) (Fv_behind : Int32) (Fv_kind : Int32) (Fv_number : Int64) (b_this : BX6) (r : BX6), LI Ft1 t1 → LI Fv_at (pX6_at b_this) → LI Fv_behind (pX6_behind b_this) → LI Fv_kind (pX6_kind b_this) → LJ Fv_number (pX6_number b_this) → g_X6_next_237 n t1 b_this = some r → ∃ R, f_X6_next_237 n Ft1 Fv_at Fv_behind Fv_kind Fv_number = some R ∧ LI (R.1) (pX6_at r) ∧ LI (R.2.1) (pX6_behind r) ∧ LI (R.2.2.1) (pX6_kind r) ∧ LJ (R.2.2.2) (pX6_number r) ∧ (pX6_a r) = (pX6_a b_this) ∧ (pX6_fresh r) = (pX6_fresh b_this) ∧ (pX6_kept r) = (pX6_kept b_this) ∧ (pX6_keptMany r) = (pX6_keptMany b_this) ∧ (pX6_thrown r) = (pX6_thrown b_this) ∧ (pX6_buffer r) = (pX6_buffer b_this) ∧ (pX6_buffered r) = (pX6_buffered b_this) ∧ (pX6_size r) = (pX6_size b_this) ∧ (pX6_wrong r) = (pX6_wrong b_this) ∧ (pX6_wrongAt r) = (pX6_wrongAt b_this) ∧ (pX6_errorAt r) = (pX6_errorAt b_this) ∧ (pX6_best r) = (pX6_best b_this) ∧ (pX6_rentBy r) = (pX6_rentBy b_this) ∧ (pX6_bareBy r) = (pX6_bareBy b_this) ∧ (pX6_aheadBy r) = (pX6_aheadBy b_this) ∧ (pX6_isEdge r) = (pX6_isEdge b_this) ∧ (pX6_tried r) = (pX6_tried b_this) ∧ (pX6_stands r) = (pX6_stands b_this) ∧ (pX6_found r) = (pX6_found b_this) ∧ (pX6_foundOn r) = (pX6_foundOn b_this) ∧ (pX6_moving r) = (pX6_moving b_this) ∧ (pX6_movingMany r) = (pX6_movingMany b_this) ∧ (pX6_foundIncome r) = (pX6_foundIncome b_this) ∧ (pX6_foundMoves r) = (pX6_foundMoves b_this) := by
  intro Ft1 t1 Fv_at Fv_behind Fv_kind Fv_number b_this r h_t1 h_v_at h_v_behind h_v_kind h_v_number hg
  unfold g_X6_next_237 at hg
  unfold f_X6_next_237
  cases hg
  exact ⟨_, rfl, (LI_cg (eX6_at_kind _ _) h_v_at), (LI_cg (eX6_behind_kind _ _) h_v_behind), (LI_cg (eX6_kind_kind _ _) h_t1), (LJ_cg (eX6_number_kind _ _) h_v_number), (eX6_a_kind _ _), (eX6_fresh_kind _ _), (eX6_kept_kind _ _), (eX6_keptMany_kind _ _), (eX6_thrown_kind _ _), (eX6_buffer_kind _ _), (eX6_buffered_kind _ _), (eX6_size_kind _ _), (eX6_wrong_kind _ _), (eX6_wrongAt_kind _ _), (eX6_errorAt_kind _ _), (eX6_best_kind _ _), (eX6_rentBy_kind _ _), (eX6_bareBy_kind _ _), (eX6_aheadBy_kind _ _), (eX6_isEdge_kind _ _), (eX6_tried_kind _ _), (eX6_stands_kind _ _), (eX6_found_kind _ _), (eX6_foundOn_kind _ _), (eX6_moving_kind _ _), (eX6_movingMany_kind _ _), (eX6_foundIncome_kind _ _), (eX6_foundMoves_kind _ _)⟩
set_option maxHeartbeats 4000000 in
set_option maxRecDepth 100000 in
theorem l_X6_next_184 {n : Nat} {K133 : (Nat → Int32) → Int32 → Int32 → Int32 → Int32 → Int64 → Option (Int32 × Int32 × Int32 × Int64)} {k133 : BX6 → Option (BX6)} (hk133 : ∀ (Fv_buffer : Nat → Int32) (Fv_size : Int32) (Fv_at : Int32) (Fv_behind : Int32) (Fv_kind : Int32) (Fv_number : Int64) (b_this : BX6) (r : BX6), LA Fv_buffer (pX6_buffer b_this) → LI Fv_size (pX6_size b_this) → LI Fv_at (pX6_at b_this) → LI Fv_behind (pX6_behind b_this) → LI Fv_kind (pX6_kind b_this) → LJ Fv_number (pX6_number b_this) → k133 b_this = some r → ∃ R, K133 Fv_buffer Fv_size Fv_at Fv_behind Fv_kind Fv_number = some R ∧ LI (R.1) (pX6_at r) ∧ LI (R.2.1) (pX6_behind r) ∧ LI (R.2.2.1) (pX6_kind r) ∧ LJ (R.2.2.2) (pX6_number r) ∧ (pX6_a r) = (pX6_a b_this) ∧ (pX6_fresh r) = (pX6_fresh b_this) ∧ (pX6_kept r) = (pX6_kept b_this) ∧ (pX6_keptMany r) = (pX6_keptMany b_this) ∧ (pX6_thrown r) = (pX6_thrown b_this) ∧ (pX6_buffer r) = (pX6_buffer b_this) ∧ (pX6_buffered r) = (pX6_buffered b_this) ∧ (pX6_size r) = (pX6_size b_this) ∧ (pX6_wrong r) = (pX6_wrong b_this) ∧ (pX6_wrongAt r) = (pX6_wrongAt b_this) ∧ (pX6_errorAt r) = (pX6_errorAt b_this) ∧ (pX6_best r) = (pX6_best b_this) ∧ (pX6_rentBy r) = (pX6_rentBy b_this) ∧ (pX6_bareBy r) = (pX6_bareBy b_this) ∧ (pX6_aheadBy r) = (pX6_aheadBy b_this) ∧ (pX6_isEdge r) = (pX6_isEdge b_this) ∧ (pX6_tried r) = (pX6_tried b_this) ∧ (pX6_stands r) = (pX6_stands b_this) ∧ (pX6_found r) = (pX6_found b_this) ∧ (pX6_foundOn r) = (pX6_foundOn b_this) ∧ (pX6_moving r) = (pX6_moving b_this) ∧ (pX6_movingMany r) = (pX6_movingMany b_this) ∧ (pX6_foundIncome r) = (pX6_foundIncome b_this) ∧ (pX6_foundMoves r) = (pX6_foundMoves b_this)) : ∀ (Fv_buffer : Nat → Int32) (Fv_size : Int32) (Fv_at : Int32) (Fv_behind : Int32) (Fv_kind : Int32) (Fv_number : Int64) (b_this : BX6) (r : BX6), LA Fv_buffer (pX6_buffer b_this) → LI Fv_size (pX6_size b_this) → LI Fv_at (pX6_at b_this) → LI Fv_behind (pX6_behind b_this) → LI Fv_kind (pX6_kind b_this) → LJ Fv_number (pX6_number b_this) → g_X6_next_184 n k133 b_this = some r → ∃ R, f_X6_next_184 n K133 Fv_buffer Fv_size Fv_at Fv_behind Fv_kind Fv_number = some R ∧ LI (R.1) (pX6_at r) ∧ LI (R.2.1) (pX6_behind r) ∧ LI (R.2.2.1) (pX6_kind r) ∧ LJ (R.2.2.2) (pX6_number r) ∧ (pX6_a r) = (pX6_a b_this) ∧ (pX6_fresh r) = (pX6_fresh b_this) ∧ (pX6_kept r) = (pX6_kept b_this) ∧ (pX6_keptMany r) = (pX6_keptMany b_this) ∧ (pX6_thrown r) = (pX6_thrown b_this) ∧ (pX6_buffer r) = (pX6_buffer b_this) ∧ (pX6_buffered r) = (pX6_buffered b_this) ∧ (pX6_size r) = (pX6_size b_this) ∧ (pX6_wrong r) = (pX6_wrong b_this) ∧ (pX6_wrongAt r) = (pX6_wrongAt b_this) ∧ (pX6_errorAt r) = (pX6_errorAt b_this) ∧ (pX6_best r) = (pX6_best b_this) ∧ (pX6_rentBy r) = (pX6_rentBy b_this) ∧ (pX6_bareBy r) = (pX6_bareBy b_this) ∧ (pX6_aheadBy r) = (pX6_aheadBy b_this) ∧ (pX6_isEdge r) = (pX6_isEdge b_this) ∧ (pX6_tried r) = (pX6_tried b_this) ∧ (pX6_stands r) = (pX6_stands b_this) ∧ (pX6_found r) = (pX6_found b_this) ∧ (pX6_foundOn r) = (pX6_foundOn b_this) ∧ (pX6_moving r) = (pX6_moving b_this) ∧ (pX6_movingMany r) = (pX6_movingMany b_this) ∧ (pX6_foundIncome r) = (pX6_foundIncome b_this) ∧ (pX6_foundMoves r) = (pX6_foundMoves b_this) := by
  intro Fv_buffer Fv_size Fv_at Fv_behind Fv_kind Fv_number b_this r h_v_buffer h_v_size h_v_at h_v_behind h_v_kind h_v_number hg
  unfold g_X6_next_184 at hg
  unfold f_X6_next_184
  refine lR hg (fun hr_1 hg => ?_)
  refine lL (LI_of (EI_add (EI_i h_v_behind) (EI_i (LI_n (X := 1) (x := 1) rfl))) hr_1) hg (fun Fy_1 y_1 h_y_1 hg => ?_)
  refine lJ (hk133 _ _ _ _ _ _ (sX6_behind b_this y_1) _ (LA_cg (eX6_buffer_behind _ _) h_v_buffer) (LI_cg (eX6_size_behind _ _) h_v_size) (LI_cg (eX6_at_behind _ _) h_v_at) (LI_cg (eX6_behind_behind _ _) h_y_1) (LI_cg (eX6_kind_behind _ _) h_v_kind) (LJ_cg (eX6_number_behind _ _) h_v_number) hg) (fun R hq => ?_)
  obtain ⟨c0, c1, c2, c3, c4, c5, c6, c7, c8, c9, c10, c11, c12, c13, c14, c15, c16, c17, c18, c19, c20, c21, c22, c23, c24, c25, c26, c27⟩ := hq
  exact ⟨c0, c1, c2, c3, (c4).trans (eX6_a_behind _ _), (c5).trans (eX6_fresh_behind _ _), (c6).trans (eX6_kept_behind _ _), (c7).trans (eX6_keptMany_behind _ _), (c8).trans (eX6_thrown_behind _ _), (c9).trans (eX6_buffer_behind _ _), (c10).trans (eX6_buffered_behind _ _), (c11).trans (eX6_size_behind _ _), (c12).trans (eX6_wrong_behind _ _), (c13).trans (eX6_wrongAt_behind _ _), (c14).trans (eX6_errorAt_behind _ _), (c15).trans (eX6_best_behind _ _), (c16).trans (eX6_rentBy_behind _ _), (c17).trans (eX6_bareBy_behind _ _), (c18).trans (eX6_aheadBy_behind _ _), (c19).trans (eX6_isEdge_behind _ _), (c20).trans (eX6_tried_behind _ _), (c21).trans (eX6_stands_behind _ _), (c22).trans (eX6_found_behind _ _), (c23).trans (eX6_foundOn_behind _ _), (c24).trans (eX6_moving_behind _ _), (c25).trans (eX6_movingMany_behind _ _), (c26).trans (eX6_foundIncome_behind _ _), (c27).trans (eX6_foundMoves_behind _ _)⟩
set_option maxHeartbeats 4000000 in
set_option maxRecDepth 100000 in
theorem l_X6_next_133 {n : Nat} : ∀ (fu : Nat), ∀ (Fv_buffer : Nat → Int32) (Fv_size : Int32) (Fv_at : Int32) (Fv_behind : Int32) (Fv_kind : Int32) (Fv_number : Int64) (b_this : BX6) (r : BX6), LA Fv_buffer (pX6_buffer b_this) → LI Fv_size (pX6_size b_this) → LI Fv_at (pX6_at b_this) → LI Fv_behind (pX6_behind b_this) → LI Fv_kind (pX6_kind b_this) → LJ Fv_number (pX6_number b_this) → g_X6_next_133 n fu b_this = some r → ∃ R, f_X6_next_133 n fu Fv_buffer Fv_size Fv_at Fv_behind Fv_kind Fv_number = some R ∧ LI (R.1) (pX6_at r) ∧ LI (R.2.1) (pX6_behind r) ∧ LI (R.2.2.1) (pX6_kind r) ∧ LJ (R.2.2.2) (pX6_number r) ∧ (pX6_a r) = (pX6_a b_this) ∧ (pX6_fresh r) = (pX6_fresh b_this) ∧ (pX6_kept r) = (pX6_kept b_this) ∧ (pX6_keptMany r) = (pX6_keptMany b_this) ∧ (pX6_thrown r) = (pX6_thrown b_this) ∧ (pX6_buffer r) = (pX6_buffer b_this) ∧ (pX6_buffered r) = (pX6_buffered b_this) ∧ (pX6_size r) = (pX6_size b_this) ∧ (pX6_wrong r) = (pX6_wrong b_this) ∧ (pX6_wrongAt r) = (pX6_wrongAt b_this) ∧ (pX6_errorAt r) = (pX6_errorAt b_this) ∧ (pX6_best r) = (pX6_best b_this) ∧ (pX6_rentBy r) = (pX6_rentBy b_this) ∧ (pX6_bareBy r) = (pX6_bareBy b_this) ∧ (pX6_aheadBy r) = (pX6_aheadBy b_this) ∧ (pX6_isEdge r) = (pX6_isEdge b_this) ∧ (pX6_tried r) = (pX6_tried b_this) ∧ (pX6_stands r) = (pX6_stands b_this) ∧ (pX6_found r) = (pX6_found b_this) ∧ (pX6_foundOn r) = (pX6_foundOn b_this) ∧ (pX6_moving r) = (pX6_moving b_this) ∧ (pX6_movingMany r) = (pX6_movingMany b_this) ∧ (pX6_foundIncome r) = (pX6_foundIncome b_this) ∧ (pX6_foundMoves r) = (pX6_foundMoves b_this) := by
  intro fu
  induction fu with
  | zero => intro Fv_buffer Fv_size Fv_at Fv_behind Fv_kind Fv_number b_this r h_v_buffer h_v_size h_v_at h_v_behind h_v_kind h_v_number hg; rw [g_X6_next_133.eq_1] at hg; cases hg
  | succ fu ih =>
    intro Fv_buffer Fv_size Fv_at Fv_behind Fv_kind Fv_number b_this r h_v_buffer h_v_size h_v_at h_v_behind h_v_kind h_v_number hg
    rw [g_X6_next_133.eq_2] at hg
    rw [f_X6_next_133.eq_2]
    refine lB_1_1 (fun r hr => l_X6_see  _ _ _ _ b_this r h_v_behind h_v_buffer h_v_size hr) hg (fun Fr_2 r_2 hq hg => ?_)
    have q_2 := hq
    refine lB_1_1 (fun r hr => l_X6_isDigit  _ _ r q_2 hr) hg (fun Fr_4 r_4 hq hg => ?_)
    have q_3 := hq
    refine lI (LI_eq q_3 (LI_n (X := 0) (x := 0) rfl)) hg (fun hc hg => ?_) (fun hc hg => ?_)
    · cases hg
      exact ⟨_, rfl, (LI_cg (eX6_at_kind _ _) h_v_at), (LI_cg (eX6_behind_kind _ _) h_v_behind), (LI_cg (eX6_kind_kind _ _) (LI_n (X := 9) (x := 9) rfl)), (LJ_cg (eX6_number_kind _ _) h_v_number), (eX6_a_kind _ _), (eX6_fresh_kind _ _), (eX6_kept_kind _ _), (eX6_keptMany_kind _ _), (eX6_thrown_kind _ _), (eX6_buffer_kind _ _), (eX6_buffered_kind _ _), (eX6_size_kind _ _), (eX6_wrong_kind _ _), (eX6_wrongAt_kind _ _), (eX6_errorAt_kind _ _), (eX6_best_kind _ _), (eX6_rentBy_kind _ _), (eX6_bareBy_kind _ _), (eX6_aheadBy_kind _ _), (eX6_isEdge_kind _ _), (eX6_tried_kind _ _), (eX6_stands_kind _ _), (eX6_found_kind _ _), (eX6_foundOn_kind _ _), (eX6_moving_kind _ _), (eX6_movingMany_kind _ _), (eX6_foundIncome_kind _ _), (eX6_foundMoves_kind _ _)⟩
    · refine lI (LC_le' h_v_number (LJ_n (X := 100000) (x := 100000) rfl)) hg (fun hc hg => ?_) (fun hc hg => ?_)
      · refine lJ (l_X6_next_184 ih _ _ _ _ _ _ b_this _ h_v_buffer h_v_size h_v_at h_v_behind h_v_kind h_v_number hg) (fun R hq => ?_)
        obtain ⟨c0, c1, c2, c3, c4, c5, c6, c7, c8, c9, c10, c11, c12, c13, c14, c15, c16, c17, c18, c19, c20, c21, c22, c23, c24, c25, c26, c27⟩ := hq
        exact ⟨c0, c1, c2, c3, c4, c5, c6, c7, c8, c9, c10, c11, c12, c13, c14, c15, c16, c17, c18, c19, c20, c21, c22, c23, c24, c25, c26, c27⟩
      · refine lB_1_1 (fun r hr => l_X6_see  _ _ _ _ b_this r h_v_behind h_v_buffer h_v_size hr) hg (fun Fr_6 r_6 hq hg => ?_)
        have q_4 := hq
        refine lRJ hg (fun hr_5 hg => ?_)
        refine lL (LJ_of (EJ_sub (EJ_add (EJ_mul (EJ_j (LJ_n (X := 10) (x := 10) rfl)) (EJ_j h_v_number)) (EJ_j (LJ_i q_4))) (EJ_j (LJ_n (X := 48) (x := 48) rfl))) hr_5) hg (fun Fy_8 y_8 h_y_8 hg => ?_)
        refine lJ (l_X6_next_184 ih _ _ _ _ _ _ (sX6_number b_this y_8) _ (LA_cg (eX6_buffer_number _ _) h_v_buffer) (LI_cg (eX6_size_number _ _) h_v_size) (LI_cg (eX6_at_number _ _) h_v_at) (LI_cg (eX6_behind_number _ _) h_v_behind) (LI_cg (eX6_kind_number _ _) h_v_kind) (LJ_cg (eX6_number_number _ _) h_y_8) hg) (fun R hq => ?_)
        obtain ⟨c0, c1, c2, c3, c4, c5, c6, c7, c8, c9, c10, c11, c12, c13, c14, c15, c16, c17, c18, c19, c20, c21, c22, c23, c24, c25, c26, c27⟩ := hq
        exact ⟨c0, c1, c2, c3, (c4).trans (eX6_a_number _ _), (c5).trans (eX6_fresh_number _ _), (c6).trans (eX6_kept_number _ _), (c7).trans (eX6_keptMany_number _ _), (c8).trans (eX6_thrown_number _ _), (c9).trans (eX6_buffer_number _ _), (c10).trans (eX6_buffered_number _ _), (c11).trans (eX6_size_number _ _), (c12).trans (eX6_wrong_number _ _), (c13).trans (eX6_wrongAt_number _ _), (c14).trans (eX6_errorAt_number _ _), (c15).trans (eX6_best_number _ _), (c16).trans (eX6_rentBy_number _ _), (c17).trans (eX6_bareBy_number _ _), (c18).trans (eX6_aheadBy_number _ _), (c19).trans (eX6_isEdge_number _ _), (c20).trans (eX6_tried_number _ _), (c21).trans (eX6_stands_number _ _), (c22).trans (eX6_found_number _ _), (c23).trans (eX6_foundOn_number _ _), (c24).trans (eX6_moving_number _ _), (c25).trans (eX6_movingMany_number _ _), (c26).trans (eX6_foundIncome_number _ _), (c27).trans (eX6_foundMoves_number _ _)⟩
set_option maxHeartbeats 4000000 in
set_option maxRecDepth 100000 in
theorem l_X6_next_76 {n : Nat} : ∀ (fu : Nat), ∀ (Fv_buffer : Nat → Int32) (Fv_size : Int32) (Fv_at : Int32) (Fv_behind : Int32) (Fv_kind : Int32) (Fv_number : Int64) (b_this : BX6) (r : BX6), LA Fv_buffer (pX6_buffer b_this) → LI Fv_size (pX6_size b_this) → LI Fv_at (pX6_at b_this) → LI Fv_behind (pX6_behind b_this) → LI Fv_kind (pX6_kind b_this) → LJ Fv_number (pX6_number b_this) → g_X6_next_76 n fu b_this = some r → ∃ R, f_X6_next_76 n fu Fv_buffer Fv_size Fv_at Fv_behind Fv_kind Fv_number = some R ∧ LI (R.1) (pX6_at r) ∧ LI (R.2.1) (pX6_behind r) ∧ LI (R.2.2.1) (pX6_kind r) ∧ LJ (R.2.2.2) (pX6_number r) ∧ (pX6_a r) = (pX6_a b_this) ∧ (pX6_fresh r) = (pX6_fresh b_this) ∧ (pX6_kept r) = (pX6_kept b_this) ∧ (pX6_keptMany r) = (pX6_keptMany b_this) ∧ (pX6_thrown r) = (pX6_thrown b_this) ∧ (pX6_buffer r) = (pX6_buffer b_this) ∧ (pX6_buffered r) = (pX6_buffered b_this) ∧ (pX6_size r) = (pX6_size b_this) ∧ (pX6_wrong r) = (pX6_wrong b_this) ∧ (pX6_wrongAt r) = (pX6_wrongAt b_this) ∧ (pX6_errorAt r) = (pX6_errorAt b_this) ∧ (pX6_best r) = (pX6_best b_this) ∧ (pX6_rentBy r) = (pX6_rentBy b_this) ∧ (pX6_bareBy r) = (pX6_bareBy b_this) ∧ (pX6_aheadBy r) = (pX6_aheadBy b_this) ∧ (pX6_isEdge r) = (pX6_isEdge b_this) ∧ (pX6_tried r) = (pX6_tried b_this) ∧ (pX6_stands r) = (pX6_stands b_this) ∧ (pX6_found r) = (pX6_found b_this) ∧ (pX6_foundOn r) = (pX6_foundOn b_this) ∧ (pX6_moving r) = (pX6_moving b_this) ∧ (pX6_movingMany r) = (pX6_movingMany b_this) ∧ (pX6_foundIncome r) = (pX6_foundIncome b_this) ∧ (pX6_foundMoves r) = (pX6_foundMoves b_this) := by
  intro fu
  induction fu with
  | zero => intro Fv_buffer Fv_size Fv_at Fv_behind Fv_kind Fv_number b_this r h_v_buffer h_v_size h_v_at h_v_behind h_v_kind h_v_number hg; rw [g_X6_next_76.eq_1] at hg; cases hg
  | succ fu ih =>
    intro Fv_buffer Fv_size Fv_at Fv_behind Fv_kind Fv_number b_this r h_v_buffer h_v_size h_v_at h_v_behind h_v_kind h_v_number hg
    rw [g_X6_next_76.eq_2] at hg
    rw [f_X6_next_76.eq_2]
    refine lB_1_1 (fun r hr => l_X6_see  _ _ _ _ b_this r h_v_behind h_v_buffer h_v_size hr) hg (fun Fr_9 r_9 hq hg => ?_)
    have q_6 := hq
    refine lB_1_1 (fun r hr => l_X6_isSmall  _ _ r q_6 hr) hg (fun Fr_11 r_11 hq hg => ?_)
    have q_7 := hq
    refine lI (LI_eq q_7 (LI_n (X := 0) (x := 0) rfl)) hg (fun hc hg => ?_) (fun hc hg => ?_)
    · refine lB_1_1 (fun r hr => l_X6_keyAt  _ _ _ b_this r h_v_buffer h_v_at h_v_behind hr) hg (fun Fr_13 r_13 hq hg => ?_)
      have q_8 := hq
      cases hg
      exact ⟨_, rfl, (LI_cg (eX6_at_kind _ _) h_v_at), (LI_cg (eX6_behind_kind _ _) h_v_behind), (LI_cg (eX6_kind_kind _ _) q_8), (LJ_cg (eX6_number_kind _ _) h_v_number), (eX6_a_kind _ _), (eX6_fresh_kind _ _), (eX6_kept_kind _ _), (eX6_keptMany_kind _ _), (eX6_thrown_kind _ _), (eX6_buffer_kind _ _), (eX6_buffered_kind _ _), (eX6_size_kind _ _), (eX6_wrong_kind _ _), (eX6_wrongAt_kind _ _), (eX6_errorAt_kind _ _), (eX6_best_kind _ _), (eX6_rentBy_kind _ _), (eX6_bareBy_kind _ _), (eX6_aheadBy_kind _ _), (eX6_isEdge_kind _ _), (eX6_tried_kind _ _), (eX6_stands_kind _ _), (eX6_found_kind _ _), (eX6_foundOn_kind _ _), (eX6_moving_kind _ _), (eX6_movingMany_kind _ _), (eX6_foundIncome_kind _ _), (eX6_foundMoves_kind _ _)⟩
    · refine lR hg (fun hr_9 hg => ?_)
      refine lL (LI_of (EI_add (EI_i h_v_behind) (EI_i (LI_n (X := 1) (x := 1) rfl))) hr_9) hg (fun Fy_15 y_15 h_y_15 hg => ?_)
      refine lJ (ih _ _ _ _ _ _ (sX6_behind b_this y_15) _ (LA_cg (eX6_buffer_behind _ _) h_v_buffer) (LI_cg (eX6_size_behind _ _) h_v_size) (LI_cg (eX6_at_behind _ _) h_v_at) (LI_cg (eX6_behind_behind _ _) h_y_15) (LI_cg (eX6_kind_behind _ _) h_v_kind) (LJ_cg (eX6_number_behind _ _) h_v_number) hg) (fun R hq => ?_)
      obtain ⟨c0, c1, c2, c3, c4, c5, c6, c7, c8, c9, c10, c11, c12, c13, c14, c15, c16, c17, c18, c19, c20, c21, c22, c23, c24, c25, c26, c27⟩ := hq
      exact ⟨c0, c1, c2, c3, (c4).trans (eX6_a_behind _ _), (c5).trans (eX6_fresh_behind _ _), (c6).trans (eX6_kept_behind _ _), (c7).trans (eX6_keptMany_behind _ _), (c8).trans (eX6_thrown_behind _ _), (c9).trans (eX6_buffer_behind _ _), (c10).trans (eX6_buffered_behind _ _), (c11).trans (eX6_size_behind _ _), (c12).trans (eX6_wrong_behind _ _), (c13).trans (eX6_wrongAt_behind _ _), (c14).trans (eX6_errorAt_behind _ _), (c15).trans (eX6_best_behind _ _), (c16).trans (eX6_rentBy_behind _ _), (c17).trans (eX6_bareBy_behind _ _), (c18).trans (eX6_aheadBy_behind _ _), (c19).trans (eX6_isEdge_behind _ _), (c20).trans (eX6_tried_behind _ _), (c21).trans (eX6_stands_behind _ _), (c22).trans (eX6_found_behind _ _), (c23).trans (eX6_foundOn_behind _ _), (c24).trans (eX6_moving_behind _ _), (c25).trans (eX6_movingMany_behind _ _), (c26).trans (eX6_foundIncome_behind _ _), (c27).trans (eX6_foundMoves_behind _ _)⟩
set_option maxHeartbeats 4000000 in
set_option maxRecDepth 100000 in
theorem l_X6_next_8 {n : Nat} : ∀ (fu : Nat), ∀ (Fv_buffer : Nat → Int32) (Fv_size : Int32) (Fv_at : Int32) (Fv_behind : Int32) (Fv_kind : Int32) (Fv_number : Int64) (b_this : BX6) (r : BX6), LA Fv_buffer (pX6_buffer b_this) → LI Fv_size (pX6_size b_this) → LI Fv_at (pX6_at b_this) → LI Fv_behind (pX6_behind b_this) → LI Fv_kind (pX6_kind b_this) → LJ Fv_number (pX6_number b_this) → g_X6_next_8 n fu b_this = some r → ∃ R, f_X6_next_8 n fu Fv_buffer Fv_size Fv_at Fv_behind Fv_kind Fv_number = some R ∧ LI (R.1) (pX6_at r) ∧ LI (R.2.1) (pX6_behind r) ∧ LI (R.2.2.1) (pX6_kind r) ∧ LJ (R.2.2.2) (pX6_number r) ∧ (pX6_a r) = (pX6_a b_this) ∧ (pX6_fresh r) = (pX6_fresh b_this) ∧ (pX6_kept r) = (pX6_kept b_this) ∧ (pX6_keptMany r) = (pX6_keptMany b_this) ∧ (pX6_thrown r) = (pX6_thrown b_this) ∧ (pX6_buffer r) = (pX6_buffer b_this) ∧ (pX6_buffered r) = (pX6_buffered b_this) ∧ (pX6_size r) = (pX6_size b_this) ∧ (pX6_wrong r) = (pX6_wrong b_this) ∧ (pX6_wrongAt r) = (pX6_wrongAt b_this) ∧ (pX6_errorAt r) = (pX6_errorAt b_this) ∧ (pX6_best r) = (pX6_best b_this) ∧ (pX6_rentBy r) = (pX6_rentBy b_this) ∧ (pX6_bareBy r) = (pX6_bareBy b_this) ∧ (pX6_aheadBy r) = (pX6_aheadBy b_this) ∧ (pX6_isEdge r) = (pX6_isEdge b_this) ∧ (pX6_tried r) = (pX6_tried b_this) ∧ (pX6_stands r) = (pX6_stands b_this) ∧ (pX6_found r) = (pX6_found b_this) ∧ (pX6_foundOn r) = (pX6_foundOn b_this) ∧ (pX6_moving r) = (pX6_moving b_this) ∧ (pX6_movingMany r) = (pX6_movingMany b_this) ∧ (pX6_foundIncome r) = (pX6_foundIncome b_this) ∧ (pX6_foundMoves r) = (pX6_foundMoves b_this) := by
  intro fu
  induction fu with
  | zero => intro Fv_buffer Fv_size Fv_at Fv_behind Fv_kind Fv_number b_this r h_v_buffer h_v_size h_v_at h_v_behind h_v_kind h_v_number hg; rw [g_X6_next_8.eq_1] at hg; cases hg
  | succ fu ih =>
    intro Fv_buffer Fv_size Fv_at Fv_behind Fv_kind Fv_number b_this r h_v_buffer h_v_size h_v_at h_v_behind h_v_kind h_v_number hg
    rw [g_X6_next_8.eq_2] at hg
    rw [f_X6_next_8.eq_2]
    refine lB_1_1 (fun r hr => l_X6_see  _ _ _ _ b_this r h_v_at h_v_buffer h_v_size hr) hg (fun Fr_16 r_16 hq hg => ?_)
    have q_10 := hq
    refine lI (LI_eq q_10 (LI_n (X := 32) (x := 32) rfl)) hg (fun hc hg => ?_) (fun hc hg => ?_)
    · refine lR hg (fun hr_11 hg => ?_)
      refine lL (LI_of (EI_add (EI_i h_v_at) (EI_i (LI_n (X := 1) (x := 1) rfl))) hr_11) hg (fun Fy_29 y_29 h_y_29 hg => ?_)
      refine lJ (ih _ _ _ _ _ _ (sX6_at b_this y_29) _ (LA_cg (eX6_buffer_at _ _) h_v_buffer) (LI_cg (eX6_size_at _ _) h_v_size) (LI_cg (eX6_at_at _ _) h_y_29) (LI_cg (eX6_behind_at _ _) h_v_behind) (LI_cg (eX6_kind_at _ _) h_v_kind) (LJ_cg (eX6_number_at _ _) h_v_number) hg) (fun R hq => ?_)
      obtain ⟨c0, c1, c2, c3, c4, c5, c6, c7, c8, c9, c10, c11, c12, c13, c14, c15, c16, c17, c18, c19, c20, c21, c22, c23, c24, c25, c26, c27⟩ := hq
      exact ⟨c0, c1, c2, c3, (c4).trans (eX6_a_at _ _), (c5).trans (eX6_fresh_at _ _), (c6).trans (eX6_kept_at _ _), (c7).trans (eX6_keptMany_at _ _), (c8).trans (eX6_thrown_at _ _), (c9).trans (eX6_buffer_at _ _), (c10).trans (eX6_buffered_at _ _), (c11).trans (eX6_size_at _ _), (c12).trans (eX6_wrong_at _ _), (c13).trans (eX6_wrongAt_at _ _), (c14).trans (eX6_errorAt_at _ _), (c15).trans (eX6_best_at _ _), (c16).trans (eX6_rentBy_at _ _), (c17).trans (eX6_bareBy_at _ _), (c18).trans (eX6_aheadBy_at _ _), (c19).trans (eX6_isEdge_at _ _), (c20).trans (eX6_tried_at _ _), (c21).trans (eX6_stands_at _ _), (c22).trans (eX6_found_at _ _), (c23).trans (eX6_foundOn_at _ _), (c24).trans (eX6_moving_at _ _), (c25).trans (eX6_movingMany_at _ _), (c26).trans (eX6_foundIncome_at _ _), (c27).trans (eX6_foundMoves_at _ _)⟩
    · refine lI (LI_lt h_v_at h_v_size) hg (fun hc hg => ?_) (fun hc hg => ?_)
      · refine lB_1_1 (fun r hr => l_X6_see  _ _ _ _ (sX6_behind b_this (pX6_at b_this)) r h_v_at (LA_cg (eX6_buffer_behind _ _) h_v_buffer) (LI_cg (eX6_size_behind _ _) h_v_size) hr) hg (fun Fr_18 r_18 hq hg => ?_)
        have q_12 := hq
        refine lB_1_1 (fun r hr => l_X6_isSmall  _ _ r q_12 hr) hg (fun Fr_20 r_20 hq hg => ?_)
        have q_13 := hq
        refine lI (LI_eq q_13 (LI_n (X := 0) (x := 0) rfl)) hg (fun hc hg => ?_) (fun hc hg => ?_)
        · refine lB_1_1 (fun r hr => l_X6_see  _ _ _ _ (sX6_behind b_this (pX6_at b_this)) r h_v_at (LA_cg (eX6_buffer_behind _ _) h_v_buffer) (LI_cg (eX6_size_behind _ _) h_v_size) hr) hg (fun Fr_22 r_22 hq hg => ?_)
          have q_14 := hq
          refine lB_1_1 (fun r hr => l_X6_isDigit  _ _ r q_14 hr) hg (fun Fr_24 r_24 hq hg => ?_)
          have q_15 := hq
          refine lI (LI_eq q_15 (LI_n (X := 0) (x := 0) rfl)) hg (fun hc hg => ?_) (fun hc hg => ?_)
          · refine lR hg (fun hr_16 hg => ?_)
            refine lL (LI_of (EI_add (EI_i h_v_at) (EI_i (LI_n (X := 1) (x := 1) rfl))) hr_16) hg (fun Fy_26 y_26 h_y_26 hg => ?_)
            refine lB_1_1 (fun r hr => l_X6_see  _ _ _ _ (sX6_behind b_this y_26) r h_v_at (LA_cg (eX6_buffer_behind _ _) h_v_buffer) (LI_cg (eX6_size_behind _ _) h_v_size) hr) hg (fun Fr_27 r_27 hq hg => ?_)
            have q_17 := hq
            refine lI (LI_eq q_17 (LI_n (X := 59) (x := 59) rfl)) hg (fun hc hg => ?_) (fun hc hg => ?_)
            · refine lJ (l_X6_next_237 _ _ _ _ _ _ (sX6_behind b_this y_26) _ (LI_n (X := 10) (x := 10) rfl) (LI_cg (eX6_at_behind _ _) h_v_at) (LI_cg (eX6_behind_behind _ _) h_y_26) (LI_cg (eX6_kind_behind _ _) h_v_kind) (LJ_cg (eX6_number_behind _ _) h_v_number) hg) (fun R hq => ?_)
              obtain ⟨c0, c1, c2, c3, c4, c5, c6, c7, c8, c9, c10, c11, c12, c13, c14, c15, c16, c17, c18, c19, c20, c21, c22, c23, c24, c25, c26, c27⟩ := hq
              exact ⟨c0, c1, c2, c3, (c4).trans (eX6_a_behind _ _), (c5).trans (eX6_fresh_behind _ _), (c6).trans (eX6_kept_behind _ _), (c7).trans (eX6_keptMany_behind _ _), (c8).trans (eX6_thrown_behind _ _), (c9).trans (eX6_buffer_behind _ _), (c10).trans (eX6_buffered_behind _ _), (c11).trans (eX6_size_behind _ _), (c12).trans (eX6_wrong_behind _ _), (c13).trans (eX6_wrongAt_behind _ _), (c14).trans (eX6_errorAt_behind _ _), (c15).trans (eX6_best_behind _ _), (c16).trans (eX6_rentBy_behind _ _), (c17).trans (eX6_bareBy_behind _ _), (c18).trans (eX6_aheadBy_behind _ _), (c19).trans (eX6_isEdge_behind _ _), (c20).trans (eX6_tried_behind _ _), (c21).trans (eX6_stands_behind _ _), (c22).trans (eX6_found_behind _ _), (c23).trans (eX6_foundOn_behind _ _), (c24).trans (eX6_moving_behind _ _), (c25).trans (eX6_movingMany_behind _ _), (c26).trans (eX6_foundIncome_behind _ _), (c27).trans (eX6_foundMoves_behind _ _)⟩
            · refine lJ (l_X6_next_237 _ _ _ _ _ _ (sX6_behind b_this y_26) _ (LI_n (X := 12) (x := 12) rfl) (LI_cg (eX6_at_behind _ _) h_v_at) (LI_cg (eX6_behind_behind _ _) h_y_26) (LI_cg (eX6_kind_behind _ _) h_v_kind) (LJ_cg (eX6_number_behind _ _) h_v_number) hg) (fun R hq => ?_)
              obtain ⟨c0, c1, c2, c3, c4, c5, c6, c7, c8, c9, c10, c11, c12, c13, c14, c15, c16, c17, c18, c19, c20, c21, c22, c23, c24, c25, c26, c27⟩ := hq
              exact ⟨c0, c1, c2, c3, (c4).trans (eX6_a_behind _ _), (c5).trans (eX6_fresh_behind _ _), (c6).trans (eX6_kept_behind _ _), (c7).trans (eX6_keptMany_behind _ _), (c8).trans (eX6_thrown_behind _ _), (c9).trans (eX6_buffer_behind _ _), (c10).trans (eX6_buffered_behind _ _), (c11).trans (eX6_size_behind _ _), (c12).trans (eX6_wrong_behind _ _), (c13).trans (eX6_wrongAt_behind _ _), (c14).trans (eX6_errorAt_behind _ _), (c15).trans (eX6_best_behind _ _), (c16).trans (eX6_rentBy_behind _ _), (c17).trans (eX6_bareBy_behind _ _), (c18).trans (eX6_aheadBy_behind _ _), (c19).trans (eX6_isEdge_behind _ _), (c20).trans (eX6_tried_behind _ _), (c21).trans (eX6_stands_behind _ _), (c22).trans (eX6_found_behind _ _), (c23).trans (eX6_foundOn_behind _ _), (c24).trans (eX6_moving_behind _ _), (c25).trans (eX6_movingMany_behind _ _), (c26).trans (eX6_foundIncome_behind _ _), (c27).trans (eX6_foundMoves_behind _ _)⟩
          · refine lJ (l_X6_next_133 n _ _ _ _ _ _ (sX6_number (sX6_behind b_this (pX6_at b_this)) 0) _ (LA_cg (Eq.trans (eX6_buffer_number _ _) (eX6_buffer_behind _ _)) h_v_buffer) (LI_cg (Eq.trans (eX6_size_number _ _) (eX6_size_behind _ _)) h_v_size) (LI_cg (Eq.trans (eX6_at_number _ _) (eX6_at_behind _ _)) h_v_at) (LI_cg (Eq.trans (eX6_behind_number _ _) (eX6_behind_behind _ _)) h_v_at) (LI_cg (Eq.trans (eX6_kind_number _ _) (eX6_kind_behind _ _)) h_v_kind) (LJ_cg (eX6_number_number _ _) (LJ_n (X := 0) (x := 0) rfl)) hg) (fun R hq => ?_)
            obtain ⟨c0, c1, c2, c3, c4, c5, c6, c7, c8, c9, c10, c11, c12, c13, c14, c15, c16, c17, c18, c19, c20, c21, c22, c23, c24, c25, c26, c27⟩ := hq
            exact ⟨c0, c1, c2, c3, (c4).trans (Eq.trans (eX6_a_number _ _) (eX6_a_behind _ _)), (c5).trans (Eq.trans (eX6_fresh_number _ _) (eX6_fresh_behind _ _)), (c6).trans (Eq.trans (eX6_kept_number _ _) (eX6_kept_behind _ _)), (c7).trans (Eq.trans (eX6_keptMany_number _ _) (eX6_keptMany_behind _ _)), (c8).trans (Eq.trans (eX6_thrown_number _ _) (eX6_thrown_behind _ _)), (c9).trans (Eq.trans (eX6_buffer_number _ _) (eX6_buffer_behind _ _)), (c10).trans (Eq.trans (eX6_buffered_number _ _) (eX6_buffered_behind _ _)), (c11).trans (Eq.trans (eX6_size_number _ _) (eX6_size_behind _ _)), (c12).trans (Eq.trans (eX6_wrong_number _ _) (eX6_wrong_behind _ _)), (c13).trans (Eq.trans (eX6_wrongAt_number _ _) (eX6_wrongAt_behind _ _)), (c14).trans (Eq.trans (eX6_errorAt_number _ _) (eX6_errorAt_behind _ _)), (c15).trans (Eq.trans (eX6_best_number _ _) (eX6_best_behind _ _)), (c16).trans (Eq.trans (eX6_rentBy_number _ _) (eX6_rentBy_behind _ _)), (c17).trans (Eq.trans (eX6_bareBy_number _ _) (eX6_bareBy_behind _ _)), (c18).trans (Eq.trans (eX6_aheadBy_number _ _) (eX6_aheadBy_behind _ _)), (c19).trans (Eq.trans (eX6_isEdge_number _ _) (eX6_isEdge_behind _ _)), (c20).trans (Eq.trans (eX6_tried_number _ _) (eX6_tried_behind _ _)), (c21).trans (Eq.trans (eX6_stands_number _ _) (eX6_stands_behind _ _)), (c22).trans (Eq.trans (eX6_found_number _ _) (eX6_found_behind _ _)), (c23).trans (Eq.trans (eX6_foundOn_number _ _) (eX6_foundOn_behind _ _)), (c24).trans (Eq.trans (eX6_moving_number _ _) (eX6_moving_behind _ _)), (c25).trans (Eq.trans (eX6_movingMany_number _ _) (eX6_movingMany_behind _ _)), (c26).trans (Eq.trans (eX6_foundIncome_number _ _) (eX6_foundIncome_behind _ _)), (c27).trans (Eq.trans (eX6_foundMoves_number _ _) (eX6_foundMoves_behind _ _))⟩
        · refine lJ (l_X6_next_76 n _ _ _ _ _ _ (sX6_behind b_this (pX6_at b_this)) _ (LA_cg (eX6_buffer_behind _ _) h_v_buffer) (LI_cg (eX6_size_behind _ _) h_v_size) (LI_cg (eX6_at_behind _ _) h_v_at) (LI_cg (eX6_behind_behind _ _) h_v_at) (LI_cg (eX6_kind_behind _ _) h_v_kind) (LJ_cg (eX6_number_behind _ _) h_v_number) hg) (fun R hq => ?_)
          obtain ⟨c0, c1, c2, c3, c4, c5, c6, c7, c8, c9, c10, c11, c12, c13, c14, c15, c16, c17, c18, c19, c20, c21, c22, c23, c24, c25, c26, c27⟩ := hq
          exact ⟨c0, c1, c2, c3, (c4).trans (eX6_a_behind _ _), (c5).trans (eX6_fresh_behind _ _), (c6).trans (eX6_kept_behind _ _), (c7).trans (eX6_keptMany_behind _ _), (c8).trans (eX6_thrown_behind _ _), (c9).trans (eX6_buffer_behind _ _), (c10).trans (eX6_buffered_behind _ _), (c11).trans (eX6_size_behind _ _), (c12).trans (eX6_wrong_behind _ _), (c13).trans (eX6_wrongAt_behind _ _), (c14).trans (eX6_errorAt_behind _ _), (c15).trans (eX6_best_behind _ _), (c16).trans (eX6_rentBy_behind _ _), (c17).trans (eX6_bareBy_behind _ _), (c18).trans (eX6_aheadBy_behind _ _), (c19).trans (eX6_isEdge_behind _ _), (c20).trans (eX6_tried_behind _ _), (c21).trans (eX6_stands_behind _ _), (c22).trans (eX6_found_behind _ _), (c23).trans (eX6_foundOn_behind _ _), (c24).trans (eX6_moving_behind _ _), (c25).trans (eX6_movingMany_behind _ _), (c26).trans (eX6_foundIncome_behind _ _), (c27).trans (eX6_foundMoves_behind _ _)⟩
      · cases hg
        exact ⟨_, rfl, (LI_cg (Eq.trans (eX6_at_kind _ _) (eX6_at_behind _ _)) h_v_at), (LI_cg (Eq.trans (eX6_behind_kind _ _) (eX6_behind_behind _ _)) h_v_at), (LI_cg (eX6_kind_kind _ _) (LI_n (X := 11) (x := 11) rfl)), (LJ_cg (Eq.trans (eX6_number_kind _ _) (eX6_number_behind _ _)) h_v_number), (Eq.trans (eX6_a_kind _ _) (eX6_a_behind _ _)), (Eq.trans (eX6_fresh_kind _ _) (eX6_fresh_behind _ _)), (Eq.trans (eX6_kept_kind _ _) (eX6_kept_behind _ _)), (Eq.trans (eX6_keptMany_kind _ _) (eX6_keptMany_behind _ _)), (Eq.trans (eX6_thrown_kind _ _) (eX6_thrown_behind _ _)), (Eq.trans (eX6_buffer_kind _ _) (eX6_buffer_behind _ _)), (Eq.trans (eX6_buffered_kind _ _) (eX6_buffered_behind _ _)), (Eq.trans (eX6_size_kind _ _) (eX6_size_behind _ _)), (Eq.trans (eX6_wrong_kind _ _) (eX6_wrong_behind _ _)), (Eq.trans (eX6_wrongAt_kind _ _) (eX6_wrongAt_behind _ _)), (Eq.trans (eX6_errorAt_kind _ _) (eX6_errorAt_behind _ _)), (Eq.trans (eX6_best_kind _ _) (eX6_best_behind _ _)), (Eq.trans (eX6_rentBy_kind _ _) (eX6_rentBy_behind _ _)), (Eq.trans (eX6_bareBy_kind _ _) (eX6_bareBy_behind _ _)), (Eq.trans (eX6_aheadBy_kind _ _) (eX6_aheadBy_behind _ _)), (Eq.trans (eX6_isEdge_kind _ _) (eX6_isEdge_behind _ _)), (Eq.trans (eX6_tried_kind _ _) (eX6_tried_behind _ _)), (Eq.trans (eX6_stands_kind _ _) (eX6_stands_behind _ _)), (Eq.trans (eX6_found_kind _ _) (eX6_found_behind _ _)), (Eq.trans (eX6_foundOn_kind _ _) (eX6_foundOn_behind _ _)), (Eq.trans (eX6_moving_kind _ _) (eX6_moving_behind _ _)), (Eq.trans (eX6_movingMany_kind _ _) (eX6_movingMany_behind _ _)), (Eq.trans (eX6_foundIncome_kind _ _) (eX6_foundIncome_behind _ _)), (Eq.trans (eX6_foundMoves_kind _ _) (eX6_foundMoves_behind _ _))⟩
set_option maxHeartbeats 4000000 in
set_option maxRecDepth 100000 in
theorem l_X6_next {n : Nat} : ∀ (Fv_buffer : Nat → Int32) (Fv_size : Int32) (Fv_at : Int32) (Fv_behind : Int32) (Fv_kind : Int32) (Fv_number : Int64) (b_this : BX6) (r : BX6), LA Fv_buffer (pX6_buffer b_this) → LI Fv_size (pX6_size b_this) → LI Fv_at (pX6_at b_this) → LI Fv_behind (pX6_behind b_this) → LI Fv_kind (pX6_kind b_this) → LJ Fv_number (pX6_number b_this) → g_X6_next n b_this = some r → ∃ R, f_X6_next n Fv_buffer Fv_size Fv_at Fv_behind Fv_kind Fv_number = some R ∧ LI (R.1) (pX6_at r) ∧ LI (R.2.1) (pX6_behind r) ∧ LI (R.2.2.1) (pX6_kind r) ∧ LJ (R.2.2.2) (pX6_number r) ∧ (pX6_a r) = (pX6_a b_this) ∧ (pX6_fresh r) = (pX6_fresh b_this) ∧ (pX6_kept r) = (pX6_kept b_this) ∧ (pX6_keptMany r) = (pX6_keptMany b_this) ∧ (pX6_thrown r) = (pX6_thrown b_this) ∧ (pX6_buffer r) = (pX6_buffer b_this) ∧ (pX6_buffered r) = (pX6_buffered b_this) ∧ (pX6_size r) = (pX6_size b_this) ∧ (pX6_wrong r) = (pX6_wrong b_this) ∧ (pX6_wrongAt r) = (pX6_wrongAt b_this) ∧ (pX6_errorAt r) = (pX6_errorAt b_this) ∧ (pX6_best r) = (pX6_best b_this) ∧ (pX6_rentBy r) = (pX6_rentBy b_this) ∧ (pX6_bareBy r) = (pX6_bareBy b_this) ∧ (pX6_aheadBy r) = (pX6_aheadBy b_this) ∧ (pX6_isEdge r) = (pX6_isEdge b_this) ∧ (pX6_tried r) = (pX6_tried b_this) ∧ (pX6_stands r) = (pX6_stands b_this) ∧ (pX6_found r) = (pX6_found b_this) ∧ (pX6_foundOn r) = (pX6_foundOn b_this) ∧ (pX6_moving r) = (pX6_moving b_this) ∧ (pX6_movingMany r) = (pX6_movingMany b_this) ∧ (pX6_foundIncome r) = (pX6_foundIncome b_this) ∧ (pX6_foundMoves r) = (pX6_foundMoves b_this) := by
  intro Fv_buffer Fv_size Fv_at Fv_behind Fv_kind Fv_number b_this r h_v_buffer h_v_size h_v_at h_v_behind h_v_kind h_v_number hg
  unfold g_X6_next at hg
  unfold f_X6_next
  refine lJ (l_X6_next_8 n _ _ _ _ _ _ (sX6_at b_this (pX6_behind b_this)) _ (LA_cg (eX6_buffer_at _ _) h_v_buffer) (LI_cg (eX6_size_at _ _) h_v_size) (LI_cg (eX6_at_at _ _) h_v_behind) (LI_cg (eX6_behind_at _ _) h_v_behind) (LI_cg (eX6_kind_at _ _) h_v_kind) (LJ_cg (eX6_number_at _ _) h_v_number) hg) (fun R hq => ?_)
  obtain ⟨c0, c1, c2, c3, c4, c5, c6, c7, c8, c9, c10, c11, c12, c13, c14, c15, c16, c17, c18, c19, c20, c21, c22, c23, c24, c25, c26, c27⟩ := hq
  exact ⟨c0, c1, c2, c3, (c4).trans (eX6_a_at _ _), (c5).trans (eX6_fresh_at _ _), (c6).trans (eX6_kept_at _ _), (c7).trans (eX6_keptMany_at _ _), (c8).trans (eX6_thrown_at _ _), (c9).trans (eX6_buffer_at _ _), (c10).trans (eX6_buffered_at _ _), (c11).trans (eX6_size_at _ _), (c12).trans (eX6_wrong_at _ _), (c13).trans (eX6_wrongAt_at _ _), (c14).trans (eX6_errorAt_at _ _), (c15).trans (eX6_best_at _ _), (c16).trans (eX6_rentBy_at _ _), (c17).trans (eX6_bareBy_at _ _), (c18).trans (eX6_aheadBy_at _ _), (c19).trans (eX6_isEdge_at _ _), (c20).trans (eX6_tried_at _ _), (c21).trans (eX6_stands_at _ _), (c22).trans (eX6_found_at _ _), (c23).trans (eX6_foundOn_at _ _), (c24).trans (eX6_moving_at _ _), (c25).trans (eX6_movingMany_at _ _), (c26).trans (eX6_foundIncome_at _ _), (c27).trans (eX6_foundMoves_at _ _)⟩
set_option maxHeartbeats 4000000 in
set_option maxRecDepth 100000 in
theorem l_X6_eats {n : Nat} : ∀ (Fx1 : Int32) (x1 : Int) (Fv_buffer : Nat → Int32) (Fv_size : Int32) (Fv_at : Int32) (Fv_behind : Int32) (Fv_kind : Int32) (Fv_wrong : Int32) (Fv_number : Int64) (b_this : BX6) (r : Int × BX6), LI Fx1 x1 → LA Fv_buffer (pX6_buffer b_this) → LI Fv_size (pX6_size b_this) → LI Fv_at (pX6_at b_this) → LI Fv_behind (pX6_behind b_this) → LI Fv_kind (pX6_kind b_this) → LI Fv_wrong (pX6_wrong b_this) → LJ Fv_number (pX6_number b_this) → g_X6_eats n b_this x1 = some r → ∃ R, f_X6_eats n Fv_buffer Fv_size Fv_at Fv_behind Fv_kind Fv_wrong Fv_number Fx1 = some R ∧ LI (R.1) (r.1) ∧ LI (R.2.1) (pX6_at (r.2)) ∧ LI (R.2.2.1) (pX6_behind (r.2)) ∧ LI (R.2.2.2.1) (pX6_kind (r.2)) ∧ LJ (R.2.2.2.2) (pX6_number (r.2)) ∧ (pX6_a (r.2)) = (pX6_a b_this) ∧ (pX6_fresh (r.2)) = (pX6_fresh b_this) ∧ (pX6_kept (r.2)) = (pX6_kept b_this) ∧ (pX6_keptMany (r.2)) = (pX6_keptMany b_this) ∧ (pX6_thrown (r.2)) = (pX6_thrown b_this) ∧ (pX6_buffer (r.2)) = (pX6_buffer b_this) ∧ (pX6_buffered (r.2)) = (pX6_buffered b_this) ∧ (pX6_size (r.2)) = (pX6_size b_this) ∧ (pX6_wrong (r.2)) = (pX6_wrong b_this) ∧ (pX6_wrongAt (r.2)) = (pX6_wrongAt b_this) ∧ (pX6_errorAt (r.2)) = (pX6_errorAt b_this) ∧ (pX6_best (r.2)) = (pX6_best b_this) ∧ (pX6_rentBy (r.2)) = (pX6_rentBy b_this) ∧ (pX6_bareBy (r.2)) = (pX6_bareBy b_this) ∧ (pX6_aheadBy (r.2)) = (pX6_aheadBy b_this) ∧ (pX6_isEdge (r.2)) = (pX6_isEdge b_this) ∧ (pX6_tried (r.2)) = (pX6_tried b_this) ∧ (pX6_stands (r.2)) = (pX6_stands b_this) ∧ (pX6_found (r.2)) = (pX6_found b_this) ∧ (pX6_foundOn (r.2)) = (pX6_foundOn b_this) ∧ (pX6_moving (r.2)) = (pX6_moving b_this) ∧ (pX6_movingMany (r.2)) = (pX6_movingMany b_this) ∧ (pX6_foundIncome (r.2)) = (pX6_foundIncome b_this) ∧ (pX6_foundMoves (r.2)) = (pX6_foundMoves b_this) := by
  intro Fx1 x1 Fv_buffer Fv_size Fv_at Fv_behind Fv_kind Fv_wrong Fv_number b_this r h_x1 h_v_buffer h_v_size h_v_at h_v_behind h_v_kind h_v_wrong h_v_number hg
  unfold g_X6_eats at hg
  unfold f_X6_eats
  refine lB_1_1 (fun r hr => l_X6_is  _ _ _ _ b_this r h_x1 h_v_kind h_v_wrong hr) hg (fun Fr_1 r_1 hq hg => ?_)
  have q_1 := hq
  refine lI (LI_eq q_1 (LI_n (X := 0) (x := 0) rfl)) hg (fun hc hg => ?_) (fun hc hg => ?_)
  · cases hg
    exact ⟨_, rfl, (LI_n (X := 0) (x := 0) rfl), h_v_at, h_v_behind, h_v_kind, h_v_number, rfl, rfl, rfl, rfl, rfl, rfl, rfl, rfl, rfl, rfl, rfl, rfl, rfl, rfl, rfl, rfl, rfl, rfl, rfl, rfl, rfl, rfl, rfl, rfl⟩
  · refine lB_4_1 (fun r hr => l_X6_next  _ _ _ _ _ _ b_this r h_v_buffer h_v_size h_v_at h_v_behind h_v_kind h_v_number hr) hg (fun Fv_3 Fv_4 Fv_5 Fv_6 b_2 hq hg => ?_)
    obtain ⟨q_3, q_4, q_5, q_6, q_7, q_8, q_9, q_10, q_11, q_12, q_13, q_14, q_15, q_16, q_17, q_18, q_19, q_20, q_21, q_22, q_23, q_24, q_25, q_26, q_27, q_28, q_29, q_30⟩ := hq
    have hl_31 := (LA_cg q_12 h_v_buffer)
    have hl_32 := (LI_cg q_14 h_v_size)
    have hl_33 := (LI_cg q_15 h_v_wrong)
    cases hg
    exact ⟨_, rfl, (LI_n (X := 1) (x := 1) rfl), q_3, q_4, q_5, q_6, q_7, q_8, q_9, q_10, q_11, q_12, q_13, q_14, q_15, q_16, q_17, q_18, q_19, q_20, q_21, q_22, q_23, q_24, q_25, q_26, q_27, q_28, q_29, q_30⟩
set_option maxHeartbeats 4000000 in
set_option maxRecDepth 100000 in
theorem l_X6_errorPosition : ∀ (Fv_thrown : Int32) (Fv_errorAt : Int32) (b_this : BX6) (r : Int × BX6), LI Fv_thrown (pX6_thrown b_this) → LI Fv_errorAt (pX6_errorAt b_this) → g_X6_errorPosition b_this = some r → ∃ R, f_X6_errorPosition Fv_thrown Fv_errorAt = some R ∧ LI (R.1) (r.1) ∧ LI (R.2) (pX6_thrown (r.2)) ∧ (pX6_a (r.2)) = (pX6_a b_this) ∧ (pX6_fresh (r.2)) = (pX6_fresh b_this) ∧ (pX6_kept (r.2)) = (pX6_kept b_this) ∧ (pX6_keptMany (r.2)) = (pX6_keptMany b_this) ∧ (pX6_buffer (r.2)) = (pX6_buffer b_this) ∧ (pX6_buffered (r.2)) = (pX6_buffered b_this) ∧ (pX6_size (r.2)) = (pX6_size b_this) ∧ (pX6_at (r.2)) = (pX6_at b_this) ∧ (pX6_behind (r.2)) = (pX6_behind b_this) ∧ (pX6_kind (r.2)) = (pX6_kind b_this) ∧ (pX6_wrong (r.2)) = (pX6_wrong b_this) ∧ (pX6_wrongAt (r.2)) = (pX6_wrongAt b_this) ∧ (pX6_errorAt (r.2)) = (pX6_errorAt b_this) ∧ (pX6_number (r.2)) = (pX6_number b_this) ∧ (pX6_best (r.2)) = (pX6_best b_this) ∧ (pX6_rentBy (r.2)) = (pX6_rentBy b_this) ∧ (pX6_bareBy (r.2)) = (pX6_bareBy b_this) ∧ (pX6_aheadBy (r.2)) = (pX6_aheadBy b_this) ∧ (pX6_isEdge (r.2)) = (pX6_isEdge b_this) ∧ (pX6_tried (r.2)) = (pX6_tried b_this) ∧ (pX6_stands (r.2)) = (pX6_stands b_this) ∧ (pX6_found (r.2)) = (pX6_found b_this) ∧ (pX6_foundOn (r.2)) = (pX6_foundOn b_this) ∧ (pX6_moving (r.2)) = (pX6_moving b_this) ∧ (pX6_movingMany (r.2)) = (pX6_movingMany b_this) ∧ (pX6_foundIncome (r.2)) = (pX6_foundIncome b_this) ∧ (pX6_foundMoves (r.2)) = (pX6_foundMoves b_this) := by
  intro Fv_thrown Fv_errorAt b_this r h_v_thrown h_v_errorAt hg
  unfold g_X6_errorPosition at hg
  unfold f_X6_errorPosition
  cases hg
  exact ⟨_, rfl, h_v_errorAt, (LI_cg (eX6_thrown_thrown _ _) (LI_n (X := 0) (x := 0) rfl)), (eX6_a_thrown _ _), (eX6_fresh_thrown _ _), (eX6_kept_thrown _ _), (eX6_keptMany_thrown _ _), (eX6_buffer_thrown _ _), (eX6_buffered_thrown _ _), (eX6_size_thrown _ _), (eX6_at_thrown _ _), (eX6_behind_thrown _ _), (eX6_kind_thrown _ _), (eX6_wrong_thrown _ _), (eX6_wrongAt_thrown _ _), (eX6_errorAt_thrown _ _), (eX6_number_thrown _ _), (eX6_best_thrown _ _), (eX6_rentBy_thrown _ _), (eX6_bareBy_thrown _ _), (eX6_aheadBy_thrown _ _), (eX6_isEdge_thrown _ _), (eX6_tried_thrown _ _), (eX6_stands_thrown _ _), (eX6_found_thrown _ _), (eX6_foundOn_thrown _ _), (eX6_moving_thrown _ _), (eX6_movingMany_thrown _ _), (eX6_foundIncome_thrown _ _), (eX6_foundMoves_thrown _ _)⟩
set_option maxHeartbeats 4000000 in
set_option maxRecDepth 100000 in
theorem l_X6_isSheltered_73 {n : Nat} : ∀ (b_this : BX6) (r : Int), g_X6_isSheltered_73 n b_this = some r → ∃ R, f_X6_isSheltered_73 n = some R ∧ LI R r := by
  intro b_this r hg
  unfold g_X6_isSheltered_73 at hg
  unfold f_X6_isSheltered_73
  cases hg
  exact ⟨_, rfl, (LI_n (X := 1) (x := 1) rfl)⟩
set_option maxHeartbeats 4000000 in
set_option maxRecDepth 100000 in
theorem l_X6_isSheltered_49 {n : Nat} {K4 : Int32 → Int32 → Int32 → (Nat → Int32) → Option (Int32)} {k4 : Int → Int → Int → BX6 → Option (Int)} (hk4 : ∀ (Fx1 : Int32) (Fx2 : Int32) (Fx3 : Int32) (x1 : Int) (x2 : Int) (x3 : Int) (Fv_a : Nat → Int32) (b_this : BX6) (r : Int), LI Fx1 x1 → LI Fx2 x2 → LI Fx3 x3 → LA Fv_a (pX6_a b_this) → k4 x1 x2 x3 b_this = some r → ∃ R, K4 Fx1 Fx2 Fx3 Fv_a = some R ∧ LI R r) : ∀ (Ft0 : Int32) (Fx1 : Int32) (Fx3 : Int32) (t0 : Int) (x1 : Int) (x3 : Int) (Fv_a : Nat → Int32) (b_this : BX6) (r : Int), LI Ft0 t0 → LI Fx1 x1 → LI Fx3 x3 → LA Fv_a (pX6_a b_this) → g_X6_isSheltered_49 n k4 t0 x1 x3 b_this = some r → ∃ R, f_X6_isSheltered_49 n K4 Ft0 Fx1 Fx3 Fv_a = some R ∧ LI R r := by
  intro Ft0 Fx1 Fx3 t0 x1 x3 Fv_a b_this r h_t0 h_x1 h_x3 h_v_a hg
  unfold g_X6_isSheltered_49 at hg
  unfold f_X6_isSheltered_49
  refine lR hg (fun hr_1 hg => ?_)
  refine lJ (hk4 _ _ _ _ _ _ _ b_this _ h_x1 h_t0 (LI_of (EI_add (EI_i h_x3) (EI_i (LI_n (X := 1) (x := 1) rfl))) hr_1) h_v_a hg) (fun R hq => ?_)
  have c0 := hq
  exact c0
set_option maxHeartbeats 4000000 in
set_option maxRecDepth 100000 in
theorem l_X6_isSheltered_48 {n : Nat} {K4 : Int32 → Int32 → Int32 → (Nat → Int32) → Option (Int32)} {k4 : Int → Int → Int → BX6 → Option (Int)} (hk4 : ∀ (Fx1 : Int32) (Fx2 : Int32) (Fx3 : Int32) (x1 : Int) (x2 : Int) (x3 : Int) (Fv_a : Nat → Int32) (b_this : BX6) (r : Int), LI Fx1 x1 → LI Fx2 x2 → LI Fx3 x3 → LA Fv_a (pX6_a b_this) → k4 x1 x2 x3 b_this = some r → ∃ R, K4 Fx1 Fx2 Fx3 Fv_a = some R ∧ LI R r) : ∀ (Fx1 : Int32) (Fx3 : Int32) (x1 : Int) (x3 : Int) (Fv_a : Nat → Int32) (b_this : BX6) (r : Int), LI Fx1 x1 → LI Fx3 x3 → LA Fv_a (pX6_a b_this) → g_X6_isSheltered_48 n k4 x1 x3 b_this = some r → ∃ R, f_X6_isSheltered_48 n K4 Fx1 Fx3 Fv_a = some R ∧ LI R r := by
  intro Fx1 Fx3 x1 x3 Fv_a b_this r h_x1 h_x3 h_v_a hg
  unfold g_X6_isSheltered_48 at hg
  unfold f_X6_isSheltered_48
  refine lJ (l_X6_isSheltered_49 hk4 _ _ _ _ _ _ _ b_this _ (LI_n (X := 0) (x := 0) rfl) h_x1 h_x3 h_v_a hg) (fun R hq => ?_)
  have c0 := hq
  exact c0
set_option maxHeartbeats 4000000 in
set_option maxRecDepth 100000 in
theorem l_X6_isSheltered_4 {n : Nat} : ∀ (fu : Nat), ∀ (Fx1 : Int32) (Fx2 : Int32) (Fx3 : Int32) (x1 : Int) (x2 : Int) (x3 : Int) (Fv_a : Nat → Int32) (b_this : BX6) (r : Int), LI Fx1 x1 → LI Fx2 x2 → LI Fx3 x3 → LA Fv_a (pX6_a b_this) → g_X6_isSheltered_4 n fu x1 x2 x3 b_this = some r → ∃ R, f_X6_isSheltered_4 n fu Fx1 Fx2 Fx3 Fv_a = some R ∧ LI R r := by
  intro fu
  induction fu with
  | zero => intro Fx1 Fx2 Fx3 x1 x2 x3 Fv_a b_this r h_x1 h_x2 h_x3 h_v_a hg; rw [g_X6_isSheltered_4.eq_1] at hg; cases hg
  | succ fu ih =>
    intro Fx1 Fx2 Fx3 x1 x2 x3 Fv_a b_this r h_x1 h_x2 h_x3 h_v_a hg
    rw [g_X6_isSheltered_4.eq_2] at hg
    rw [f_X6_isSheltered_4.eq_2]
    refine lA (EI_add (EI_i (LI_n (X := 83) (x := 83) rfl)) (EI_i h_x1)) rfl hg (fun ha_2 hg => ?_)
    refine lI (LI_le (LA_at h_v_a (EI_add (EI_i (LI_n (X := 83) (x := 83) rfl)) (EI_i h_x1)) ha_2) h_x3) hg (fun hc hg => ?_) (fun hc hg => ?_)
    · refine lI (LI_eq h_x2 (LI_n (X := 0) (x := 0) rfl)) hg (fun hc hg => ?_) (fun hc hg => ?_)
      · refine lA (EI_add (EI_i (LI_n (X := 99) (x := 99) rfl)) (EI_i h_x1)) rfl hg (fun ha_3 hg => ?_)
        refine lI (LI_eq (LA_at h_v_a (EI_add (EI_i (LI_n (X := 99) (x := 99) rfl)) (EI_i h_x1)) ha_3) (LI_n (X := 1) (x := 1) rfl)) hg (fun hc hg => ?_) (fun hc hg => ?_)
        · refine lJ (l_X6_isSheltered_73 b_this _  hg) (fun R hq => ?_)
          have c0 := hq
          exact c0
        · cases hg
          exact ⟨_, rfl, (LI_n (X := 0) (x := 0) rfl)⟩
      · refine lJ (l_X6_isSheltered_73 b_this _  hg) (fun R hq => ?_)
        have c0 := hq
        exact c0
    · refine lI (LI_eq h_x2 (LI_n (X := 0) (x := 0) rfl)) hg (fun hc hg => ?_) (fun hc hg => ?_)
      · refine lJ (l_X6_isSheltered_48 ih _ _ _ _ _ b_this _ h_x1 h_x3 h_v_a hg) (fun R hq => ?_)
        have c0 := hq
        exact c0
      · refine lA (EI_add (EI_i (LI_n (X := 107) (x := 107) rfl)) (EI_i h_x1)) rfl hg (fun ha_4 hg => ?_)
        refine lA (EI_add (EI_add (EI_i (LI_n (X := 26) (x := 26) rfl)) (EI_i (LA_at h_v_a (EI_add (EI_i (LI_n (X := 107) (x := 107) rfl)) (EI_i h_x1)) ha_4))) (EI_i h_x3)) rfl hg (fun ha_5 hg => ?_)
        refine lI (LI_eq (LA_at h_v_a (EI_add (EI_add (EI_i (LI_n (X := 26) (x := 26) rfl)) (EI_i (LA_at h_v_a (EI_add (EI_i (LI_n (X := 107) (x := 107) rfl)) (EI_i h_x1)) ha_4))) (EI_i h_x3)) ha_5) (LI_n (X := 1) (x := 1) rfl)) hg (fun hc hg => ?_) (fun hc hg => ?_)
        · refine lJ (l_X6_isSheltered_49 ih _ _ _ _ _ _ _ b_this _ (LI_n (X := 1) (x := 1) rfl) h_x1 h_x3 h_v_a hg) (fun R hq => ?_)
          have c0 := hq
          exact c0
        · refine lJ (l_X6_isSheltered_48 ih _ _ _ _ _ b_this _ h_x1 h_x3 h_v_a hg) (fun R hq => ?_)
          have c0 := hq
          exact c0
set_option maxHeartbeats 4000000 in
set_option maxRecDepth 100000 in
theorem l_X6_isSheltered {n : Nat} : ∀ (Fx1 : Int32) (x1 : Int) (Fv_a : Nat → Int32) (b_this : BX6) (r : Int), LI Fx1 x1 → LA Fv_a (pX6_a b_this) → g_X6_isSheltered n b_this x1 = some r → ∃ R, f_X6_isSheltered n Fv_a Fx1 = some R ∧ LI R r := by
  intro Fx1 x1 Fv_a b_this r h_x1 h_v_a hg
  unfold g_X6_isSheltered at hg
  unfold f_X6_isSheltered
  refine lJ (l_X6_isSheltered_4 n _ _ _ _ _ _ _ b_this _ h_x1 (LI_n (X := 1) (x := 1) rfl) (LI_n (X := 0) (x := 0) rfl) h_v_a hg) (fun R hq => ?_)
  have c0 := hq
  exact c0
set_option maxHeartbeats 4000000 in
set_option maxRecDepth 100000 in
theorem l_X6_expectedIncome_121 {n : Nat} : ∀ (Fx3 : UInt64) (x3 : UInt64) (Fv_thrown : Int32) (b_this : BX6) (r : UInt64 × BX6), LD Fx3 x3 → LI Fv_thrown (pX6_thrown b_this) → g_X6_expectedIncome_121 n x3 b_this = some r → ∃ R, f_X6_expectedIncome_121 n Fx3 Fv_thrown = some R ∧ LD (R.1) (r.1) ∧ LI (R.2) (pX6_thrown (r.2)) ∧ (pX6_a (r.2)) = (pX6_a b_this) ∧ (pX6_fresh (r.2)) = (pX6_fresh b_this) ∧ (pX6_kept (r.2)) = (pX6_kept b_this) ∧ (pX6_keptMany (r.2)) = (pX6_keptMany b_this) ∧ (pX6_buffer (r.2)) = (pX6_buffer b_this) ∧ (pX6_buffered (r.2)) = (pX6_buffered b_this) ∧ (pX6_size (r.2)) = (pX6_size b_this) ∧ (pX6_at (r.2)) = (pX6_at b_this) ∧ (pX6_behind (r.2)) = (pX6_behind b_this) ∧ (pX6_kind (r.2)) = (pX6_kind b_this) ∧ (pX6_wrong (r.2)) = (pX6_wrong b_this) ∧ (pX6_wrongAt (r.2)) = (pX6_wrongAt b_this) ∧ (pX6_errorAt (r.2)) = (pX6_errorAt b_this) ∧ (pX6_number (r.2)) = (pX6_number b_this) ∧ (pX6_best (r.2)) = (pX6_best b_this) ∧ (pX6_rentBy (r.2)) = (pX6_rentBy b_this) ∧ (pX6_bareBy (r.2)) = (pX6_bareBy b_this) ∧ (pX6_aheadBy (r.2)) = (pX6_aheadBy b_this) ∧ (pX6_isEdge (r.2)) = (pX6_isEdge b_this) ∧ (pX6_tried (r.2)) = (pX6_tried b_this) ∧ (pX6_stands (r.2)) = (pX6_stands b_this) ∧ (pX6_found (r.2)) = (pX6_found b_this) ∧ (pX6_foundOn (r.2)) = (pX6_foundOn b_this) ∧ (pX6_moving (r.2)) = (pX6_moving b_this) ∧ (pX6_movingMany (r.2)) = (pX6_movingMany b_this) ∧ (pX6_foundIncome (r.2)) = (pX6_foundIncome b_this) ∧ (pX6_foundMoves (r.2)) = (pX6_foundMoves b_this) := by
  intro Fx3 x3 Fv_thrown b_this r h_x3 h_v_thrown hg
  unfold g_X6_expectedIncome_121 at hg
  unfold f_X6_expectedIncome_121
  cases hg
  exact ⟨_, rfl, h_x3, h_v_thrown, rfl, rfl, rfl, rfl, rfl, rfl, rfl, rfl, rfl, rfl, rfl, rfl, rfl, rfl, rfl, rfl, rfl, rfl, rfl, rfl, rfl, rfl, rfl, rfl, rfl, rfl, rfl⟩
set_option maxHeartbeats 4000000 in
set_option maxRecDepth 100000 in
theorem l_X6_expectedIncome_115 {n : Nat} {K26 : UInt64 → UInt64 → Int32 → (Nat → Int32) → Int32 → Option (UInt64 × Int32)} {k26 : UInt64 → UInt64 → Int → BX6 → Option (UInt64 × BX6)} (hk26 : ∀ (Fx1 : UInt64) (Fx3 : UInt64) (Fx5 : Int32) (x1 : UInt64) (x3 : UInt64) (x5 : Int) (Fv_a : Nat → Int32) (Fv_thrown : Int32) (b_this : BX6) (r : UInt64 × BX6), LD Fx1 x1 → LD Fx3 x3 → LI Fx5 x5 → LA Fv_a (pX6_a b_this) → LI Fv_thrown (pX6_thrown b_this) → k26 x1 x3 x5 b_this = some r → ∃ R, K26 Fx1 Fx3 Fx5 Fv_a Fv_thrown = some R ∧ LD (R.1) (r.1) ∧ LI (R.2) (pX6_thrown (r.2)) ∧ (pX6_a (r.2)) = (pX6_a b_this) ∧ (pX6_fresh (r.2)) = (pX6_fresh b_this) ∧ (pX6_kept (r.2)) = (pX6_kept b_this) ∧ (pX6_keptMany (r.2)) = (pX6_keptMany b_this) ∧ (pX6_buffer (r.2)) = (pX6_buffer b_this) ∧ (pX6_buffered (r.2)) = (pX6_buffered b_this) ∧ (pX6_size (r.2)) = (pX6_size b_this) ∧ (pX6_at (r.2)) = (pX6_at b_this) ∧ (pX6_behind (r.2)) = (pX6_behind b_this) ∧ (pX6_kind (r.2)) = (pX6_kind b_this) ∧ (pX6_wrong (r.2)) = (pX6_wrong b_this) ∧ (pX6_wrongAt (r.2)) = (pX6_wrongAt b_this) ∧ (pX6_errorAt (r.2)) = (pX6_errorAt b_this) ∧ (pX6_number (r.2)) = (pX6_number b_this) ∧ (pX6_best (r.2)) = (pX6_best b_this) ∧ (pX6_rentBy (r.2)) = (pX6_rentBy b_this) ∧ (pX6_bareBy (r.2)) = (pX6_bareBy b_this) ∧ (pX6_aheadBy (r.2)) = (pX6_aheadBy b_this) ∧ (pX6_isEdge (r.2)) = (pX6_isEdge b_this) ∧ (pX6_tried (r.2)) = (pX6_tried b_this) ∧ (pX6_stands (r.2)) = (pX6_stands b_this) ∧ (pX6_found (r.2)) = (pX6_found b_this) ∧ (pX6_foundOn (r.2)) = (pX6_foundOn b_this) ∧ (pX6_moving (r.2)) = (pX6_moving b_this) ∧ (pX6_movingMany (r.2)) = (pX6_movingMany b_this) ∧ (pX6_foundIncome (r.2)) = (pX6_foundIncome b_this) ∧ (pX6_foundMoves (r.2)) = (pX6_foundMoves b_this)) : ∀ (Fx1 : UInt64) (Fx3 : UInt64) (Fx5 : Int32) (x1 : UInt64) (x3 : UInt64) (x5 : Int) (Fv_a : Nat → Int32) (Fv_thrown : Int32) (b_this : BX6) (r : UInt64 × BX6), LD Fx1 x1 → LD Fx3 x3 → LI Fx5 x5 → LA Fv_a (pX6_a b_this) → LI Fv_thrown (pX6_thrown b_this) → g_X6_expectedIncome_115 n k26 x1 x3 x5 b_this = some r → ∃ R, f_X6_expectedIncome_115 n K26 Fx1 Fx3 Fx5 Fv_a Fv_thrown = some R ∧ LD (R.1) (r.1) ∧ LI (R.2) (pX6_thrown (r.2)) ∧ (pX6_a (r.2)) = (pX6_a b_this) ∧ (pX6_fresh (r.2)) = (pX6_fresh b_this) ∧ (pX6_kept (r.2)) = (pX6_kept b_this) ∧ (pX6_keptMany (r.2)) = (pX6_keptMany b_this) ∧ (pX6_buffer (r.2)) = (pX6_buffer b_this) ∧ (pX6_buffered (r.2)) = (pX6_buffered b_this) ∧ (pX6_size (r.2)) = (pX6_size b_this) ∧ (pX6_at (r.2)) = (pX6_at b_this) ∧ (pX6_behind (r.2)) = (pX6_behind b_this) ∧ (pX6_kind (r.2)) = (pX6_kind b_this) ∧ (pX6_wrong (r.2)) = (pX6_wrong b_this) ∧ (pX6_wrongAt (r.2)) = (pX6_wrongAt b_this) ∧ (pX6_errorAt (r.2)) = (pX6_errorAt b_this) ∧ (pX6_number (r.2)) = (pX6_number b_this) ∧ (pX6_best (r.2)) = (pX6_best b_this) ∧ (pX6_rentBy (r.2)) = (pX6_rentBy b_this) ∧ (pX6_bareBy (r.2)) = (pX6_bareBy b_this) ∧ (pX6_aheadBy (r.2)) = (pX6_aheadBy b_this) ∧ (pX6_isEdge (r.2)) = (pX6_isEdge b_this) ∧ (pX6_tried (r.2)) = (pX6_tried b_this) ∧ (pX6_stands (r.2)) = (pX6_stands b_this) ∧ (pX6_found (r.2)) = (pX6_found b_this) ∧ (pX6_foundOn (r.2)) = (pX6_foundOn b_this) ∧ (pX6_moving (r.2)) = (pX6_moving b_this) ∧ (pX6_movingMany (r.2)) = (pX6_movingMany b_this) ∧ (pX6_foundIncome (r.2)) = (pX6_foundIncome b_this) ∧ (pX6_foundMoves (r.2)) = (pX6_foundMoves b_this) := by
  intro Fx1 Fx3 Fx5 x1 x3 x5 Fv_a Fv_thrown b_this r h_x1 h_x3 h_x5 h_v_a h_v_thrown hg
  unfold g_X6_expectedIncome_115 at hg
  unfold f_X6_expectedIncome_115
  refine lR hg (fun hr_1 hg => ?_)
  refine lJ (hk26 _ _ _ _ _ _ _ _ b_this _ h_x1 h_x3 (LI_of (EI_add (EI_i h_x5) (EI_i (LI_n (X := 1) (x := 1) rfl))) hr_1) h_v_a h_v_thrown hg) (fun R hq => ?_)
  obtain ⟨c0, c1, c2, c3, c4, c5, c6, c7, c8, c9, c10, c11, c12, c13, c14, c15, c16, c17, c18, c19, c20, c21, c22, c23, c24, c25, c26, c27, c28⟩ := hq
  exact ⟨c0, c1, c2, c3, c4, c5, c6, c7, c8, c9, c10, c11, c12, c13, c14, c15, c16, c17, c18, c19, c20, c21, c22, c23, c24, c25, c26, c27, c28⟩
set_option maxHeartbeats 4000000 in
set_option maxRecDepth 100000 in
theorem l_X6_expectedIncome_113 {n : Nat} {K26 : UInt64 → UInt64 → Int32 → (Nat → Int32) → Int32 → Option (UInt64 × Int32)} {k26 : UInt64 → UInt64 → Int → BX6 → Option (UInt64 × BX6)} (hk26 : ∀ (Fx1 : UInt64) (Fx3 : UInt64) (Fx5 : Int32) (x1 : UInt64) (x3 : UInt64) (x5 : Int) (Fv_a : Nat → Int32) (Fv_thrown : Int32) (b_this : BX6) (r : UInt64 × BX6), LD Fx1 x1 → LD Fx3 x3 → LI Fx5 x5 → LA Fv_a (pX6_a b_this) → LI Fv_thrown (pX6_thrown b_this) → k26 x1 x3 x5 b_this = some r → ∃ R, K26 Fx1 Fx3 Fx5 Fv_a Fv_thrown = some R ∧ LD (R.1) (r.1) ∧ LI (R.2) (pX6_thrown (r.2)) ∧ (pX6_a (r.2)) = (pX6_a b_this) ∧ (pX6_fresh (r.2)) = (pX6_fresh b_this) ∧ (pX6_kept (r.2)) = (pX6_kept b_this) ∧ (pX6_keptMany (r.2)) = (pX6_keptMany b_this) ∧ (pX6_buffer (r.2)) = (pX6_buffer b_this) ∧ (pX6_buffered (r.2)) = (pX6_buffered b_this) ∧ (pX6_size (r.2)) = (pX6_size b_this) ∧ (pX6_at (r.2)) = (pX6_at b_this) ∧ (pX6_behind (r.2)) = (pX6_behind b_this) ∧ (pX6_kind (r.2)) = (pX6_kind b_this) ∧ (pX6_wrong (r.2)) = (pX6_wrong b_this) ∧ (pX6_wrongAt (r.2)) = (pX6_wrongAt b_this) ∧ (pX6_errorAt (r.2)) = (pX6_errorAt b_this) ∧ (pX6_number (r.2)) = (pX6_number b_this) ∧ (pX6_best (r.2)) = (pX6_best b_this) ∧ (pX6_rentBy (r.2)) = (pX6_rentBy b_this) ∧ (pX6_bareBy (r.2)) = (pX6_bareBy b_this) ∧ (pX6_aheadBy (r.2)) = (pX6_aheadBy b_this) ∧ (pX6_isEdge (r.2)) = (pX6_isEdge b_this) ∧ (pX6_tried (r.2)) = (pX6_tried b_this) ∧ (pX6_stands (r.2)) = (pX6_stands b_this) ∧ (pX6_found (r.2)) = (pX6_found b_this) ∧ (pX6_foundOn (r.2)) = (pX6_foundOn b_this) ∧ (pX6_moving (r.2)) = (pX6_moving b_this) ∧ (pX6_movingMany (r.2)) = (pX6_movingMany b_this) ∧ (pX6_foundIncome (r.2)) = (pX6_foundIncome b_this) ∧ (pX6_foundMoves (r.2)) = (pX6_foundMoves b_this)) : ∀ (Ft0 : UInt64) (Ft1 : UInt64) (Fx1 : UInt64) (Fx5 : Int32) (t0 : UInt64) (t1 : UInt64) (x1 : UInt64) (x5 : Int) (Fv_a : Nat → Int32) (Fv_thrown : Int32) (b_this : BX6) (r : UInt64 × BX6), LD Ft0 t0 → LD Ft1 t1 → LD Fx1 x1 → LI Fx5 x5 → LA Fv_a (pX6_a b_this) → LI Fv_thrown (pX6_thrown b_this) → g_X6_expectedIncome_113 n k26 t0 t1 x1 x5 b_this = some r → ∃ R, f_X6_expectedIncome_113 n K26 Ft0 Ft1 Fx1 Fx5 Fv_a Fv_thrown = some R ∧ LD (R.1) (r.1) ∧ LI (R.2) (pX6_thrown (r.2)) ∧ (pX6_a (r.2)) = (pX6_a b_this) ∧ (pX6_fresh (r.2)) = (pX6_fresh b_this) ∧ (pX6_kept (r.2)) = (pX6_kept b_this) ∧ (pX6_keptMany (r.2)) = (pX6_keptMany b_this) ∧ (pX6_buffer (r.2)) = (pX6_buffer b_this) ∧ (pX6_buffered (r.2)) = (pX6_buffered b_this) ∧ (pX6_size (r.2)) = (pX6_size b_this) ∧ (pX6_at (r.2)) = (pX6_at b_this) ∧ (pX6_behind (r.2)) = (pX6_behind b_this) ∧ (pX6_kind (r.2)) = (pX6_kind b_this) ∧ (pX6_wrong (r.2)) = (pX6_wrong b_this) ∧ (pX6_wrongAt (r.2)) = (pX6_wrongAt b_this) ∧ (pX6_errorAt (r.2)) = (pX6_errorAt b_this) ∧ (pX6_number (r.2)) = (pX6_number b_this) ∧ (pX6_best (r.2)) = (pX6_best b_this) ∧ (pX6_rentBy (r.2)) = (pX6_rentBy b_this) ∧ (pX6_bareBy (r.2)) = (pX6_bareBy b_this) ∧ (pX6_aheadBy (r.2)) = (pX6_aheadBy b_this) ∧ (pX6_isEdge (r.2)) = (pX6_isEdge b_this) ∧ (pX6_tried (r.2)) = (pX6_tried b_this) ∧ (pX6_stands (r.2)) = (pX6_stands b_this) ∧ (pX6_found (r.2)) = (pX6_found b_this) ∧ (pX6_foundOn (r.2)) = (pX6_foundOn b_this) ∧ (pX6_moving (r.2)) = (pX6_moving b_this) ∧ (pX6_movingMany (r.2)) = (pX6_movingMany b_this) ∧ (pX6_foundIncome (r.2)) = (pX6_foundIncome b_this) ∧ (pX6_foundMoves (r.2)) = (pX6_foundMoves b_this) := by
  intro Ft0 Ft1 Fx1 Fx5 t0 t1 x1 x5 Fv_a Fv_thrown b_this r h_t0 h_t1 h_x1 h_x5 h_v_a h_v_thrown hg
  unfold g_X6_expectedIncome_113 at hg
  unfold f_X6_expectedIncome_113
  refine lDN (LD_dadd h_t0 h_t1) hg (fun Fz_1 z_1 h_z_1 hg => ?_)
  refine lJ (l_X6_expectedIncome_115 hk26 _ _ _ _ _ _ _ _ b_this _ h_x1 h_z_1 h_x5 h_v_a h_v_thrown hg) (fun R hq => ?_)
  obtain ⟨c0, c1, c2, c3, c4, c5, c6, c7, c8, c9, c10, c11, c12, c13, c14, c15, c16, c17, c18, c19, c20, c21, c22, c23, c24, c25, c26, c27, c28⟩ := hq
  exact ⟨c0, c1, c2, c3, c4, c5, c6, c7, c8, c9, c10, c11, c12, c13, c14, c15, c16, c17, c18, c19, c20, c21, c22, c23, c24, c25, c26, c27, c28⟩
set_option maxHeartbeats 4000000 in
set_option maxRecDepth 100000 in
theorem l_X6_expectedIncome_26 {n : Nat} : ∀ (fu : Nat), ∀ (Fx1 : UInt64) (Fx3 : UInt64) (Fx5 : Int32) (x1 : UInt64) (x3 : UInt64) (x5 : Int) (Fv_a : Nat → Int32) (Fv_thrown : Int32) (b_this : BX6) (r : UInt64 × BX6), LD Fx1 x1 → LD Fx3 x3 → LI Fx5 x5 → LA Fv_a (pX6_a b_this) → LI Fv_thrown (pX6_thrown b_this) → g_X6_expectedIncome_26 n fu x1 x3 x5 b_this = some r → ∃ R, f_X6_expectedIncome_26 n fu Fx1 Fx3 Fx5 Fv_a Fv_thrown = some R ∧ LD (R.1) (r.1) ∧ LI (R.2) (pX6_thrown (r.2)) ∧ (pX6_a (r.2)) = (pX6_a b_this) ∧ (pX6_fresh (r.2)) = (pX6_fresh b_this) ∧ (pX6_kept (r.2)) = (pX6_kept b_this) ∧ (pX6_keptMany (r.2)) = (pX6_keptMany b_this) ∧ (pX6_buffer (r.2)) = (pX6_buffer b_this) ∧ (pX6_buffered (r.2)) = (pX6_buffered b_this) ∧ (pX6_size (r.2)) = (pX6_size b_this) ∧ (pX6_at (r.2)) = (pX6_at b_this) ∧ (pX6_behind (r.2)) = (pX6_behind b_this) ∧ (pX6_kind (r.2)) = (pX6_kind b_this) ∧ (pX6_wrong (r.2)) = (pX6_wrong b_this) ∧ (pX6_wrongAt (r.2)) = (pX6_wrongAt b_this) ∧ (pX6_errorAt (r.2)) = (pX6_errorAt b_this) ∧ (pX6_number (r.2)) = (pX6_number b_this) ∧ (pX6_best (r.2)) = (pX6_best b_this) ∧ (pX6_rentBy (r.2)) = (pX6_rentBy b_this) ∧ (pX6_bareBy (r.2)) = (pX6_bareBy b_this) ∧ (pX6_aheadBy (r.2)) = (pX6_aheadBy b_this) ∧ (pX6_isEdge (r.2)) = (pX6_isEdge b_this) ∧ (pX6_tried (r.2)) = (pX6_tried b_this) ∧ (pX6_stands (r.2)) = (pX6_stands b_this) ∧ (pX6_found (r.2)) = (pX6_found b_this) ∧ (pX6_foundOn (r.2)) = (pX6_foundOn b_this) ∧ (pX6_moving (r.2)) = (pX6_moving b_this) ∧ (pX6_movingMany (r.2)) = (pX6_movingMany b_this) ∧ (pX6_foundIncome (r.2)) = (pX6_foundIncome b_this) ∧ (pX6_foundMoves (r.2)) = (pX6_foundMoves b_this) := by
  intro fu
  induction fu with
  | zero => intro Fx1 Fx3 Fx5 x1 x3 x5 Fv_a Fv_thrown b_this r h_x1 h_x3 h_x5 h_v_a h_v_thrown hg; rw [g_X6_expectedIncome_26.eq_1] at hg; cases hg
  | succ fu ih =>
    intro Fx1 Fx3 Fx5 x1 x3 x5 Fv_a Fv_thrown b_this r h_x1 h_x3 h_x5 h_v_a h_v_thrown hg
    rw [g_X6_expectedIncome_26.eq_2] at hg
    rw [f_X6_expectedIncome_26.eq_2]
    refine lA (EI_i (LI_n (X := 74) (x := 74) rfl)) rfl hg (fun ha_2 hg => ?_)
    refine lI (LI_le (LA_at h_v_a (EI_i (LI_n (X := 74) (x := 74) rfl)) ha_2) h_x5) hg (fun hc hg => ?_) (fun hc hg => ?_)
    · refine lJ (l_X6_expectedIncome_121 _ _ _ b_this _ h_x3 h_v_thrown hg) (fun R hq => ?_)
      obtain ⟨c0, c1, c2, c3, c4, c5, c6, c7, c8, c9, c10, c11, c12, c13, c14, c15, c16, c17, c18, c19, c20, c21, c22, c23, c24, c25, c26, c27, c28⟩ := hq
      exact ⟨c0, c1, c2, c3, c4, c5, c6, c7, c8, c9, c10, c11, c12, c13, c14, c15, c16, c17, c18, c19, c20, c21, c22, c23, c24, c25, c26, c27, c28⟩
    · refine lI (LI_eq h_v_thrown (LI_n (X := 0) (x := 0) rfl)) hg (fun hc hg => ?_) (fun hc hg => ?_)
      · refine lA (EI_add (EI_i (LI_n (X := 107) (x := 107) rfl)) (EI_i h_x5)) rfl hg (fun ha_3 hg => ?_)
        refine lI (LI_eq (LA_at h_v_a (EI_add (EI_i (LI_n (X := 107) (x := 107) rfl)) (EI_i h_x5)) ha_3) (LI_n (X := -1) (x := -1) rfl)) hg (fun hc hg => ?_) (fun hc hg => ?_)
        · refine lJ (l_X6_expectedIncome_115 ih _ _ _ _ _ _ _ _ b_this _ h_x1 h_x3 h_x5 h_v_a h_v_thrown hg) (fun R hq => ?_)
          obtain ⟨c0, c1, c2, c3, c4, c5, c6, c7, c8, c9, c10, c11, c12, c13, c14, c15, c16, c17, c18, c19, c20, c21, c22, c23, c24, c25, c26, c27, c28⟩ := hq
          exact ⟨c0, c1, c2, c3, c4, c5, c6, c7, c8, c9, c10, c11, c12, c13, c14, c15, c16, c17, c18, c19, c20, c21, c22, c23, c24, c25, c26, c27, c28⟩
        · refine lA (EI_add (EI_i (LI_n (X := 107) (x := 107) rfl)) (EI_i h_x5)) rfl hg (fun ha_4 hg => ?_)
          refine lB_1_1 (fun r hr => l_X6_rentOf  _ _ _ _ _ b_this r h_x5 (LA_at h_v_a (EI_add (EI_i (LI_n (X := 107) (x := 107) rfl)) (EI_i h_x5)) ha_4) h_v_a hr) hg (fun Fr_6 r_6 hq hg => ?_)
          have q_5 := hq
          refine lB_1_1 (fun r hr => l_X6_isSheltered  _ _ _ b_this r h_x5 h_v_a hr) hg (fun Fr_8 r_8 hq hg => ?_)
          have q_6 := hq
          refine lI (LI_eq q_6 (LI_n (X := 0) (x := 0) rfl)) hg (fun hc hg => ?_) (fun hc hg => ?_)
          · refine lDN (LD_dsub rfl h_x1) hg (fun Fz_10 z_10 h_z_10 hg => ?_)
            refine lDN (LD_dmul (LD_i2d q_5) h_z_10) hg (fun Fz_12 z_12 h_z_12 hg => ?_)
            refine lDN (LD_dmul (LD_i2d q_5) rfl) hg (fun Fz_14 z_14 h_z_14 hg => ?_)
            refine lDN (LD_dmul h_z_14 h_x1) hg (fun Fz_16 z_16 h_z_16 hg => ?_)
            refine lDN (LD_dadd h_z_12 h_z_16) hg (fun Fz_18 z_18 h_z_18 hg => ?_)
            refine lJ (l_X6_expectedIncome_113 ih _ _ _ _ _ _ _ _ _ _ b_this _ h_x3 h_z_18 h_x1 h_x5 h_v_a h_v_thrown hg) (fun R hq => ?_)
            obtain ⟨c0, c1, c2, c3, c4, c5, c6, c7, c8, c9, c10, c11, c12, c13, c14, c15, c16, c17, c18, c19, c20, c21, c22, c23, c24, c25, c26, c27, c28⟩ := hq
            exact ⟨c0, c1, c2, c3, c4, c5, c6, c7, c8, c9, c10, c11, c12, c13, c14, c15, c16, c17, c18, c19, c20, c21, c22, c23, c24, c25, c26, c27, c28⟩
          · refine lJ (l_X6_expectedIncome_113 ih _ _ _ _ _ _ _ _ _ _ b_this _ h_x3 (LD_i2d q_5) h_x1 h_x5 h_v_a h_v_thrown hg) (fun R hq => ?_)
            obtain ⟨c0, c1, c2, c3, c4, c5, c6, c7, c8, c9, c10, c11, c12, c13, c14, c15, c16, c17, c18, c19, c20, c21, c22, c23, c24, c25, c26, c27, c28⟩ := hq
            exact ⟨c0, c1, c2, c3, c4, c5, c6, c7, c8, c9, c10, c11, c12, c13, c14, c15, c16, c17, c18, c19, c20, c21, c22, c23, c24, c25, c26, c27, c28⟩
      · refine lJ (l_X6_expectedIncome_121 _ _ _ b_this _ h_x3 h_v_thrown hg) (fun R hq => ?_)
        obtain ⟨c0, c1, c2, c3, c4, c5, c6, c7, c8, c9, c10, c11, c12, c13, c14, c15, c16, c17, c18, c19, c20, c21, c22, c23, c24, c25, c26, c27, c28⟩ := hq
        exact ⟨c0, c1, c2, c3, c4, c5, c6, c7, c8, c9, c10, c11, c12, c13, c14, c15, c16, c17, c18, c19, c20, c21, c22, c23, c24, c25, c26, c27, c28⟩
set_option maxHeartbeats 4000000 in
set_option maxRecDepth 100000 in
theorem l_X6_expectedIncome_18 {n : Nat} : ∀ (Ft1 : Int32) (Fx1 : UInt64) (t1 : Int) (x1 : UInt64) (Fv_a : Nat → Int32) (Fv_thrown : Int32) (b_this : BX6) (r : UInt64 × BX6), LI Ft1 t1 → LD Fx1 x1 → LA Fv_a (pX6_a b_this) → LI Fv_thrown (pX6_thrown b_this) → g_X6_expectedIncome_18 n t1 x1 b_this = some r → ∃ R, f_X6_expectedIncome_18 n Ft1 Fx1 Fv_a Fv_thrown = some R ∧ LD (R.1) (r.1) ∧ LI (R.2) (pX6_thrown (r.2)) ∧ (pX6_a (r.2)) = (pX6_a b_this) ∧ (pX6_fresh (r.2)) = (pX6_fresh b_this) ∧ (pX6_kept (r.2)) = (pX6_kept b_this) ∧ (pX6_keptMany (r.2)) = (pX6_keptMany b_this) ∧ (pX6_buffer (r.2)) = (pX6_buffer b_this) ∧ (pX6_buffered (r.2)) = (pX6_buffered b_this) ∧ (pX6_size (r.2)) = (pX6_size b_this) ∧ (pX6_at (r.2)) = (pX6_at b_this) ∧ (pX6_behind (r.2)) = (pX6_behind b_this) ∧ (pX6_kind (r.2)) = (pX6_kind b_this) ∧ (pX6_wrong (r.2)) = (pX6_wrong b_this) ∧ (pX6_wrongAt (r.2)) = (pX6_wrongAt b_this) ∧ (pX6_errorAt (r.2)) = (pX6_errorAt b_this) ∧ (pX6_number (r.2)) = (pX6_number b_this) ∧ (pX6_best (r.2)) = (pX6_best b_this) ∧ (pX6_rentBy (r.2)) = (pX6_rentBy b_this) ∧ (pX6_bareBy (r.2)) = (pX6_bareBy b_this) ∧ (pX6_aheadBy (r.2)) = (pX6_aheadBy b_this) ∧ (pX6_isEdge (r.2)) = (pX6_isEdge b_this) ∧ (pX6_tried (r.2)) = (pX6_tried b_this) ∧ (pX6_stands (r.2)) = (pX6_stands b_this) ∧ (pX6_found (r.2)) = (pX6_found b_this) ∧ (pX6_foundOn (r.2)) = (pX6_foundOn b_this) ∧ (pX6_moving (r.2)) = (pX6_moving b_this) ∧ (pX6_movingMany (r.2)) = (pX6_movingMany b_this) ∧ (pX6_foundIncome (r.2)) = (pX6_foundIncome b_this) ∧ (pX6_foundMoves (r.2)) = (pX6_foundMoves b_this) := by
  intro Ft1 Fx1 t1 x1 Fv_a Fv_thrown b_this r h_t1 h_x1 h_v_a h_v_thrown hg
  unfold g_X6_expectedIncome_18 at hg
  unfold f_X6_expectedIncome_18
  refine lJ (l_X6_expectedIncome_26 n _ _ _ _ _ _ _ _ (sX6_thrown b_this t1) _ h_x1 rfl (LI_n (X := 0) (x := 0) rfl) (LA_cg (eX6_a_thrown _ _) h_v_a) (LI_cg (eX6_thrown_thrown _ _) h_t1) hg) (fun R hq => ?_)
  obtain ⟨c0, c1, c2, c3, c4, c5, c6, c7, c8, c9, c10, c11, c12, c13, c14, c15, c16, c17, c18, c19, c20, c21, c22, c23, c24, c25, c26, c27, c28⟩ := hq
  exact ⟨c0, c1, (c2).trans (eX6_a_thrown _ _), (c3).trans (eX6_fresh_thrown _ _), (c4).trans (eX6_kept_thrown _ _), (c5).trans (eX6_keptMany_thrown _ _), (c6).trans (eX6_buffer_thrown _ _), (c7).trans (eX6_buffered_thrown _ _), (c8).trans (eX6_size_thrown _ _), (c9).trans (eX6_at_thrown _ _), (c10).trans (eX6_behind_thrown _ _), (c11).trans (eX6_kind_thrown _ _), (c12).trans (eX6_wrong_thrown _ _), (c13).trans (eX6_wrongAt_thrown _ _), (c14).trans (eX6_errorAt_thrown _ _), (c15).trans (eX6_number_thrown _ _), (c16).trans (eX6_best_thrown _ _), (c17).trans (eX6_rentBy_thrown _ _), (c18).trans (eX6_bareBy_thrown _ _), (c19).trans (eX6_aheadBy_thrown _ _), (c20).trans (eX6_isEdge_thrown _ _), (c21).trans (eX6_tried_thrown _ _), (c22).trans (eX6_stands_thrown _ _), (c23).trans (eX6_found_thrown _ _), (c24).trans (eX6_foundOn_thrown _ _), (c25).trans (eX6_moving_thrown _ _), (c26).trans (eX6_movingMany_thrown _ _), (c27).trans (eX6_foundIncome_thrown _ _), (c28).trans (eX6_foundMoves_thrown _ _)⟩
set_option maxHeartbeats 4000000 in
set_option maxRecDepth 100000 in
theorem l_X6_expectedIncome_17 {n : Nat} : ∀ (Fx1 : UInt64) (x1 : UInt64) (Fv_a : Nat → Int32) (Fv_thrown : Int32) (b_this : BX6) (r : UInt64 × BX6), LD Fx1 x1 → LA Fv_a (pX6_a b_this) → LI Fv_thrown (pX6_thrown b_this) → g_X6_expectedIncome_17 n x1 b_this = some r → ∃ R, f_X6_expectedIncome_17 n Fx1 Fv_a Fv_thrown = some R ∧ LD (R.1) (r.1) ∧ LI (R.2) (pX6_thrown (r.2)) ∧ (pX6_a (r.2)) = (pX6_a b_this) ∧ (pX6_fresh (r.2)) = (pX6_fresh b_this) ∧ (pX6_kept (r.2)) = (pX6_kept b_this) ∧ (pX6_keptMany (r.2)) = (pX6_keptMany b_this) ∧ (pX6_buffer (r.2)) = (pX6_buffer b_this) ∧ (pX6_buffered (r.2)) = (pX6_buffered b_this) ∧ (pX6_size (r.2)) = (pX6_size b_this) ∧ (pX6_at (r.2)) = (pX6_at b_this) ∧ (pX6_behind (r.2)) = (pX6_behind b_this) ∧ (pX6_kind (r.2)) = (pX6_kind b_this) ∧ (pX6_wrong (r.2)) = (pX6_wrong b_this) ∧ (pX6_wrongAt (r.2)) = (pX6_wrongAt b_this) ∧ (pX6_errorAt (r.2)) = (pX6_errorAt b_this) ∧ (pX6_number (r.2)) = (pX6_number b_this) ∧ (pX6_best (r.2)) = (pX6_best b_this) ∧ (pX6_rentBy (r.2)) = (pX6_rentBy b_this) ∧ (pX6_bareBy (r.2)) = (pX6_bareBy b_this) ∧ (pX6_aheadBy (r.2)) = (pX6_aheadBy b_this) ∧ (pX6_isEdge (r.2)) = (pX6_isEdge b_this) ∧ (pX6_tried (r.2)) = (pX6_tried b_this) ∧ (pX6_stands (r.2)) = (pX6_stands b_this) ∧ (pX6_found (r.2)) = (pX6_found b_this) ∧ (pX6_foundOn (r.2)) = (pX6_foundOn b_this) ∧ (pX6_moving (r.2)) = (pX6_moving b_this) ∧ (pX6_movingMany (r.2)) = (pX6_movingMany b_this) ∧ (pX6_foundIncome (r.2)) = (pX6_foundIncome b_this) ∧ (pX6_foundMoves (r.2)) = (pX6_foundMoves b_this) := by
  intro Fx1 x1 Fv_a Fv_thrown b_this r h_x1 h_v_a h_v_thrown hg
  unfold g_X6_expectedIncome_17 at hg
  unfold f_X6_expectedIncome_17
  refine lJ (l_X6_expectedIncome_18 _ _ _ _ _ _ b_this _ (LI_n (X := 1) (x := 1) rfl) h_x1 h_v_a h_v_thrown hg) (fun R hq => ?_)
  obtain ⟨c0, c1, c2, c3, c4, c5, c6, c7, c8, c9, c10, c11, c12, c13, c14, c15, c16, c17, c18, c19, c20, c21, c22, c23, c24, c25, c26, c27, c28⟩ := hq
  exact ⟨c0, c1, c2, c3, c4, c5, c6, c7, c8, c9, c10, c11, c12, c13, c14, c15, c16, c17, c18, c19, c20, c21, c22, c23, c24, c25, c26, c27, c28⟩
set_option maxHeartbeats 4000000 in
set_option maxRecDepth 100000 in
theorem l_X6_expectedIncome {n : Nat} : ∀ (Fx1 : UInt64) (x1 : UInt64) (Fv_a : Nat → Int32) (Fv_thrown : Int32) (b_this : BX6) (r : UInt64 × BX6), LD Fx1 x1 → LA Fv_a (pX6_a b_this) → LI Fv_thrown (pX6_thrown b_this) → g_X6_expectedIncome n b_this x1 = some r → ∃ R, f_X6_expectedIncome n Fv_a Fv_thrown Fx1 = some R ∧ LD (R.1) (r.1) ∧ LI (R.2) (pX6_thrown (r.2)) ∧ (pX6_a (r.2)) = (pX6_a b_this) ∧ (pX6_fresh (r.2)) = (pX6_fresh b_this) ∧ (pX6_kept (r.2)) = (pX6_kept b_this) ∧ (pX6_keptMany (r.2)) = (pX6_keptMany b_this) ∧ (pX6_buffer (r.2)) = (pX6_buffer b_this) ∧ (pX6_buffered (r.2)) = (pX6_buffered b_this) ∧ (pX6_size (r.2)) = (pX6_size b_this) ∧ (pX6_at (r.2)) = (pX6_at b_this) ∧ (pX6_behind (r.2)) = (pX6_behind b_this) ∧ (pX6_kind (r.2)) = (pX6_kind b_this) ∧ (pX6_wrong (r.2)) = (pX6_wrong b_this) ∧ (pX6_wrongAt (r.2)) = (pX6_wrongAt b_this) ∧ (pX6_errorAt (r.2)) = (pX6_errorAt b_this) ∧ (pX6_number (r.2)) = (pX6_number b_this) ∧ (pX6_best (r.2)) = (pX6_best b_this) ∧ (pX6_rentBy (r.2)) = (pX6_rentBy b_this) ∧ (pX6_bareBy (r.2)) = (pX6_bareBy b_this) ∧ (pX6_aheadBy (r.2)) = (pX6_aheadBy b_this) ∧ (pX6_isEdge (r.2)) = (pX6_isEdge b_this) ∧ (pX6_tried (r.2)) = (pX6_tried b_this) ∧ (pX6_stands (r.2)) = (pX6_stands b_this) ∧ (pX6_found (r.2)) = (pX6_found b_this) ∧ (pX6_foundOn (r.2)) = (pX6_foundOn b_this) ∧ (pX6_moving (r.2)) = (pX6_moving b_this) ∧ (pX6_movingMany (r.2)) = (pX6_movingMany b_this) ∧ (pX6_foundIncome (r.2)) = (pX6_foundIncome b_this) ∧ (pX6_foundMoves (r.2)) = (pX6_foundMoves b_this) := by
  intro Fx1 x1 Fv_a Fv_thrown b_this r h_x1 h_v_a h_v_thrown hg
  unfold g_X6_expectedIncome at hg
  unfold f_X6_expectedIncome
  refine lI (LI_lt (LI_dcL h_x1 rfl) (LI_n (X := 0) (x := 0) rfl)) hg (fun hc hg => ?_) (fun hc hg => ?_)
  · refine lJ (l_X6_expectedIncome_17 _ _ _ _ b_this _ h_x1 h_v_a h_v_thrown hg) (fun R hq => ?_)
    obtain ⟨c0, c1, c2, c3, c4, c5, c6, c7, c8, c9, c10, c11, c12, c13, c14, c15, c16, c17, c18, c19, c20, c21, c22, c23, c24, c25, c26, c27, c28⟩ := hq
    exact ⟨c0, c1, c2, c3, c4, c5, c6, c7, c8, c9, c10, c11, c12, c13, c14, c15, c16, c17, c18, c19, c20, c21, c22, c23, c24, c25, c26, c27, c28⟩
  · refine lI (LI_lt (LI_n (X := 0) (x := 0) rfl) (LI_dcG h_x1 rfl)) hg (fun hc hg => ?_) (fun hc hg => ?_)
    · refine lJ (l_X6_expectedIncome_17 _ _ _ _ b_this _ h_x1 h_v_a h_v_thrown hg) (fun R hq => ?_)
      obtain ⟨c0, c1, c2, c3, c4, c5, c6, c7, c8, c9, c10, c11, c12, c13, c14, c15, c16, c17, c18, c19, c20, c21, c22, c23, c24, c25, c26, c27, c28⟩ := hq
      exact ⟨c0, c1, c2, c3, c4, c5, c6, c7, c8, c9, c10, c11, c12, c13, c14, c15, c16, c17, c18, c19, c20, c21, c22, c23, c24, c25, c26, c27, c28⟩
    · refine lJ (l_X6_expectedIncome_18 _ _ _ _ _ _ b_this _ (LI_n (X := 0) (x := 0) rfl) h_x1 h_v_a h_v_thrown hg) (fun R hq => ?_)
      obtain ⟨c0, c1, c2, c3, c4, c5, c6, c7, c8, c9, c10, c11, c12, c13, c14, c15, c16, c17, c18, c19, c20, c21, c22, c23, c24, c25, c26, c27, c28⟩ := hq
      exact ⟨c0, c1, c2, c3, c4, c5, c6, c7, c8, c9, c10, c11, c12, c13, c14, c15, c16, c17, c18, c19, c20, c21, c22, c23, c24, c25, c26, c27, c28⟩
set_option maxHeartbeats 4000000 in
set_option maxRecDepth 100000 in
theorem l_X6_fails : ∀ (Fx1 : Int32) (x1 : Int) (Fv_at : Int32) (Fv_wrong : Int32) (Fv_wrongAt : Int32) (b_this : BX6) (r : BX6), LI Fx1 x1 → LI Fv_at (pX6_at b_this) → LI Fv_wrong (pX6_wrong b_this) → LI Fv_wrongAt (pX6_wrongAt b_this) → g_X6_fails b_this x1 = some r → ∃ R, f_X6_fails Fv_at Fv_wrong Fv_wrongAt Fx1 = some R ∧ LI (R.1) (pX6_wrong r) ∧ LI (R.2) (pX6_wrongAt r) ∧ (pX6_a r) = (pX6_a b_this) ∧ (pX6_fresh r) = (pX6_fresh b_this) ∧ (pX6_kept r) = (pX6_kept b_this) ∧ (pX6_keptMany r) = (pX6_keptMany b_this) ∧ (pX6_thrown r) = (pX6_thrown b_this) ∧ (pX6_buffer r) = (pX6_buffer b_this) ∧ (pX6_buffered r) = (pX6_buffered b_this) ∧ (pX6_size r) = (pX6_size b_this) ∧ (pX6_at r) = (pX6_at b_this) ∧ (pX6_behind r) = (pX6_behind b_this) ∧ (pX6_kind r) = (pX6_kind b_this) ∧ (pX6_errorAt r) = (pX6_errorAt b_this) ∧ (pX6_number r) = (pX6_number b_this) ∧ (pX6_best r) = (pX6_best b_this) ∧ (pX6_rentBy r) = (pX6_rentBy b_this) ∧ (pX6_bareBy r) = (pX6_bareBy b_this) ∧ (pX6_aheadBy r) = (pX6_aheadBy b_this) ∧ (pX6_isEdge r) = (pX6_isEdge b_this) ∧ (pX6_tried r) = (pX6_tried b_this) ∧ (pX6_stands r) = (pX6_stands b_this) ∧ (pX6_found r) = (pX6_found b_this) ∧ (pX6_foundOn r) = (pX6_foundOn b_this) ∧ (pX6_moving r) = (pX6_moving b_this) ∧ (pX6_movingMany r) = (pX6_movingMany b_this) ∧ (pX6_foundIncome r) = (pX6_foundIncome b_this) ∧ (pX6_foundMoves r) = (pX6_foundMoves b_this) := by
  intro Fx1 x1 Fv_at Fv_wrong Fv_wrongAt b_this r h_x1 h_v_at h_v_wrong h_v_wrongAt hg
  unfold g_X6_fails at hg
  unfold f_X6_fails
  refine lI (LI_eq h_v_wrong (LI_n (X := 0) (x := 0) rfl)) hg (fun hc hg => ?_) (fun hc hg => ?_)
  · cases hg
    exact ⟨_, rfl, (LI_cg (Eq.trans (eX6_wrong_wrongAt _ _) (eX6_wrong_wrong _ _)) h_x1), (LI_cg (eX6_wrongAt_wrongAt _ _) h_v_at), (Eq.trans (eX6_a_wrongAt _ _) (eX6_a_wrong _ _)), (Eq.trans (eX6_fresh_wrongAt _ _) (eX6_fresh_wrong _ _)), (Eq.trans (eX6_kept_wrongAt _ _) (eX6_kept_wrong _ _)), (Eq.trans (eX6_keptMany_wrongAt _ _) (eX6_keptMany_wrong _ _)), (Eq.trans (eX6_thrown_wrongAt _ _) (eX6_thrown_wrong _ _)), (Eq.trans (eX6_buffer_wrongAt _ _) (eX6_buffer_wrong _ _)), (Eq.trans (eX6_buffered_wrongAt _ _) (eX6_buffered_wrong _ _)), (Eq.trans (eX6_size_wrongAt _ _) (eX6_size_wrong _ _)), (Eq.trans (eX6_at_wrongAt _ _) (eX6_at_wrong _ _)), (Eq.trans (eX6_behind_wrongAt _ _) (eX6_behind_wrong _ _)), (Eq.trans (eX6_kind_wrongAt _ _) (eX6_kind_wrong _ _)), (Eq.trans (eX6_errorAt_wrongAt _ _) (eX6_errorAt_wrong _ _)), (Eq.trans (eX6_number_wrongAt _ _) (eX6_number_wrong _ _)), (Eq.trans (eX6_best_wrongAt _ _) (eX6_best_wrong _ _)), (Eq.trans (eX6_rentBy_wrongAt _ _) (eX6_rentBy_wrong _ _)), (Eq.trans (eX6_bareBy_wrongAt _ _) (eX6_bareBy_wrong _ _)), (Eq.trans (eX6_aheadBy_wrongAt _ _) (eX6_aheadBy_wrong _ _)), (Eq.trans (eX6_isEdge_wrongAt _ _) (eX6_isEdge_wrong _ _)), (Eq.trans (eX6_tried_wrongAt _ _) (eX6_tried_wrong _ _)), (Eq.trans (eX6_stands_wrongAt _ _) (eX6_stands_wrong _ _)), (Eq.trans (eX6_found_wrongAt _ _) (eX6_found_wrong _ _)), (Eq.trans (eX6_foundOn_wrongAt _ _) (eX6_foundOn_wrong _ _)), (Eq.trans (eX6_moving_wrongAt _ _) (eX6_moving_wrong _ _)), (Eq.trans (eX6_movingMany_wrongAt _ _) (eX6_movingMany_wrong _ _)), (Eq.trans (eX6_foundIncome_wrongAt _ _) (eX6_foundIncome_wrong _ _)), (Eq.trans (eX6_foundMoves_wrongAt _ _) (eX6_foundMoves_wrong _ _))⟩
  · cases hg
    exact ⟨_, rfl, h_v_wrong, h_v_wrongAt, rfl, rfl, rfl, rfl, rfl, rfl, rfl, rfl, rfl, rfl, rfl, rfl, rfl, rfl, rfl, rfl, rfl, rfl, rfl, rfl, rfl, rfl, rfl, rfl, rfl, rfl⟩
set_option maxHeartbeats 4000000 in
set_option maxRecDepth 100000 in
theorem l_X6_incomeNow_47 {n : Nat} {K4 : Int32 → Int32 → (Nat → Int32) → Option (Int32)} {k4 : Int → Int → BX6 → Option (Int)} (hk4 : ∀ (Fx1 : Int32) (Fx2 : Int32) (x1 : Int) (x2 : Int) (Fv_a : Nat → Int32) (b_this : BX6) (r : Int), LI Fx1 x1 → LI Fx2 x2 → LA Fv_a (pX6_a b_this) → k4 x1 x2 b_this = some r → ∃ R, K4 Fx1 Fx2 Fv_a = some R ∧ LI R r) : ∀ (Ft0 : Int32) (Ft1 : Int32) (Fx2 : Int32) (t0 : Int) (t1 : Int) (x2 : Int) (Fv_a : Nat → Int32) (b_this : BX6) (r : Int), LI Ft0 t0 → LI Ft1 t1 → LI Fx2 x2 → LA Fv_a (pX6_a b_this) → g_X6_incomeNow_47 n k4 t0 t1 x2 b_this = some r → ∃ R, f_X6_incomeNow_47 n K4 Ft0 Ft1 Fx2 Fv_a = some R ∧ LI R r := by
  intro Ft0 Ft1 Fx2 t0 t1 x2 Fv_a b_this r h_t0 h_t1 h_x2 h_v_a hg
  unfold g_X6_incomeNow_47 at hg
  unfold f_X6_incomeNow_47
  refine lR hg (fun hr_1 hg => ?_)
  refine lL (LI_of (EI_add (EI_i h_t0) (EI_i h_t1)) hr_1) hg (fun Fy_1 y_1 h_y_1 hg => ?_)
  refine lR hg (fun hr_2 hg => ?_)
  refine lJ (hk4 _ _ _ _ _ b_this _ h_y_1 (LI_of (EI_add (EI_i h_x2) (EI_i (LI_n (X := 1) (x := 1) rfl))) hr_2) h_v_a hg) (fun R hq => ?_)
  have c0 := hq
  exact c0
set_option maxHeartbeats 4000000 in
set_option maxRecDepth 100000 in
theorem l_X6_incomeNow_4 {n : Nat} : ∀ (fu : Nat), ∀ (Fx1 : Int32) (Fx2 : Int32) (x1 : Int) (x2 : Int) (Fv_a : Nat → Int32) (b_this : BX6) (r : Int), LI Fx1 x1 → LI Fx2 x2 → LA Fv_a (pX6_a b_this) → g_X6_incomeNow_4 n fu x1 x2 b_this = some r → ∃ R, f_X6_incomeNow_4 n fu Fx1 Fx2 Fv_a = some R ∧ LI R r := by
  intro fu
  induction fu with
  | zero => intro Fx1 Fx2 x1 x2 Fv_a b_this r h_x1 h_x2 h_v_a hg; rw [g_X6_incomeNow_4.eq_1] at hg; cases hg
  | succ fu ih =>
    intro Fx1 Fx2 x1 x2 Fv_a b_this r h_x1 h_x2 h_v_a hg
    rw [g_X6_incomeNow_4.eq_2] at hg
    rw [f_X6_incomeNow_4.eq_2]
    refine lA (EI_i (LI_n (X := 74) (x := 74) rfl)) rfl hg (fun ha_3 hg => ?_)
    refine lI (LI_le (LA_at h_v_a (EI_i (LI_n (X := 74) (x := 74) rfl)) ha_3) h_x2) hg (fun hc hg => ?_) (fun hc hg => ?_)
    · cases hg
      exact ⟨_, rfl, h_x1⟩
    · refine lA (EI_add (EI_i (LI_n (X := 107) (x := 107) rfl)) (EI_i h_x2)) rfl hg (fun ha_4 hg => ?_)
      refine lI (LI_eq (LA_at h_v_a (EI_add (EI_i (LI_n (X := 107) (x := 107) rfl)) (EI_i h_x2)) ha_4) (LI_n (X := -1) (x := -1) rfl)) hg (fun hc hg => ?_) (fun hc hg => ?_)
      · refine lJ (l_X6_incomeNow_47 ih _ _ _ _ _ _ _ b_this _ h_x1 (LI_n (X := 0) (x := 0) rfl) h_x2 h_v_a hg) (fun R hq => ?_)
        have c0 := hq
        exact c0
      · refine lA (EI_add (EI_i (LI_n (X := 107) (x := 107) rfl)) (EI_i h_x2)) rfl hg (fun ha_5 hg => ?_)
        refine lB_1_1 (fun r hr => l_X6_rentOf  _ _ _ _ _ b_this r h_x2 (LA_at h_v_a (EI_add (EI_i (LI_n (X := 107) (x := 107) rfl)) (EI_i h_x2)) ha_5) h_v_a hr) hg (fun Fr_5 r_5 hq hg => ?_)
        have q_6 := hq
        refine lJ (l_X6_incomeNow_47 ih _ _ _ _ _ _ _ b_this _ h_x1 q_6 h_x2 h_v_a hg) (fun R hq => ?_)
        have c0 := hq
        exact c0
set_option maxHeartbeats 4000000 in
set_option maxRecDepth 100000 in
theorem l_X6_incomeNow {n : Nat} : ∀ (Fv_a : Nat → Int32) (b_this : BX6) (r : Int), LA Fv_a (pX6_a b_this) → g_X6_incomeNow n b_this = some r → ∃ R, f_X6_incomeNow n Fv_a = some R ∧ LI R r := by
  intro Fv_a b_this r h_v_a hg
  unfold g_X6_incomeNow at hg
  unfold f_X6_incomeNow
  refine lJ (l_X6_incomeNow_4 n _ _ _ _ _ b_this _ (LI_n (X := 0) (x := 0) rfl) (LI_n (X := 0) (x := 0) rfl) h_v_a hg) (fun R hq => ?_)
  have c0 := hq
  exact c0
set_option maxHeartbeats 4000000 in
set_option maxRecDepth 100000 in
theorem l_X6_isFree_2 {n : Nat} : ∀ (fu : Nat), ∀ (Fx1 : Int32) (Fx2 : Int32) (Fx3 : Int32) (x1 : Int) (x2 : Int) (x3 : Int) (Fv_a : Nat → Int32) (b_this : BX6) (r : Int), LI Fx1 x1 → LI Fx2 x2 → LI Fx3 x3 → LA Fv_a (pX6_a b_this) → g_X6_isFree_2 n fu x1 x2 x3 b_this = some r → ∃ R, f_X6_isFree_2 n fu Fx1 Fx2 Fx3 Fv_a = some R ∧ LI R r := by
  intro fu
  induction fu with
  | zero => intro Fx1 Fx2 Fx3 x1 x2 x3 Fv_a b_this r h_x1 h_x2 h_x3 h_v_a hg; rw [g_X6_isFree_2.eq_1] at hg; cases hg
  | succ fu ih =>
    intro Fx1 Fx2 Fx3 x1 x2 x3 Fv_a b_this r h_x1 h_x2 h_x3 h_v_a hg
    rw [g_X6_isFree_2.eq_2] at hg
    rw [f_X6_isFree_2.eq_2]
    refine lA (EI_add (EI_i (LI_n (X := 83) (x := 83) rfl)) (EI_i h_x1)) rfl hg (fun ha_1 hg => ?_)
    refine lI (LI_le (LA_at h_v_a (EI_add (EI_i (LI_n (X := 83) (x := 83) rfl)) (EI_i h_x1)) ha_1) h_x3) hg (fun hc hg => ?_) (fun hc hg => ?_)
    · cases hg
      exact ⟨_, rfl, (LI_n (X := 1) (x := 1) rfl)⟩
    · refine lR hg (fun hr_2 hg => ?_)
      refine lB_1_1 (fun r hr => l_X6_on  _ _ _ b_this r (LI_of (EI_add (EI_i h_x2) (EI_i h_x3)) hr_2) h_v_a hr) hg (fun Fr_2 r_2 hq hg => ?_)
      have q_3 := hq
      refine lI (LI_eq q_3 (LI_n (X := -1) (x := -1) rfl)) hg (fun hc hg => ?_) (fun hc hg => ?_)
      · refine lR hg (fun hr_4 hg => ?_)
        refine lJ (ih _ _ _ _ _ _ _ b_this _ h_x1 h_x2 (LI_of (EI_add (EI_i h_x3) (EI_i (LI_n (X := 1) (x := 1) rfl))) hr_4) h_v_a hg) (fun R hq => ?_)
        have c0 := hq
        exact c0
      · cases hg
        exact ⟨_, rfl, (LI_n (X := 0) (x := 0) rfl)⟩
set_option maxHeartbeats 4000000 in
set_option maxRecDepth 100000 in
theorem l_X6_isFree {n : Nat} : ∀ (Fx1 : Int32) (Fx2 : Int32) (x1 : Int) (x2 : Int) (Fv_a : Nat → Int32) (b_this : BX6) (r : Int), LI Fx1 x1 → LI Fx2 x2 → LA Fv_a (pX6_a b_this) → g_X6_isFree n b_this x1 x2 = some r → ∃ R, f_X6_isFree n Fv_a Fx1 Fx2 = some R ∧ LI R r := by
  intro Fx1 Fx2 x1 x2 Fv_a b_this r h_x1 h_x2 h_v_a hg
  unfold g_X6_isFree at hg
  unfold f_X6_isFree
  refine lJ (l_X6_isFree_2 n _ _ _ _ _ _ _ b_this _ h_x1 h_x2 (LI_n (X := 0) (x := 0) rfl) h_v_a hg) (fun R hq => ?_)
  have c0 := hq
  exact c0
set_option maxHeartbeats 4000000 in
set_option maxRecDepth 100000 in
theorem l_X6_hinders_113 {n : Nat} : ∀ (b_this : BX6) (r : Int), g_X6_hinders_113 n b_this = some r → ∃ R, f_X6_hinders_113 n = some R ∧ LI R r := by
  intro b_this r hg
  unfold g_X6_hinders_113 at hg
  unfold f_X6_hinders_113
  cases hg
  exact ⟨_, rfl, (LI_n (X := 6) (x := 6) rfl)⟩
set_option maxHeartbeats 4000000 in
set_option maxRecDepth 100000 in
theorem l_X6_hinders {n : Nat} : ∀ (Fx1 : Int32) (Fx2 : Int32) (x1 : Int) (x2 : Int) (Fv_a : Nat → Int32) (b_this : BX6) (r : Int), LI Fx1 x1 → LI Fx2 x2 → LA Fv_a (pX6_a b_this) → g_X6_hinders n b_this x1 x2 = some r → ∃ R, f_X6_hinders n Fv_a Fx1 Fx2 = some R ∧ LI R r := by
  intro Fx1 Fx2 x1 x2 Fv_a b_this r h_x1 h_x2 h_v_a hg
  unfold g_X6_hinders at hg
  unfold f_X6_hinders
  refine lA (EI_add (EI_i (LI_n (X := 107) (x := 107) rfl)) (EI_i h_x1)) rfl hg (fun ha_1 hg => ?_)
  refine lI (LI_eq (LA_at h_v_a (EI_add (EI_i (LI_n (X := 107) (x := 107) rfl)) (EI_i h_x1)) ha_1) (LI_n (X := -1) (x := -1) rfl)) hg (fun hc hg => ?_) (fun hc hg => ?_)
  · refine lB_1_1 (fun r hr => l_X6_isRoom  _ _ _ _ _ b_this r h_x1 h_x2 h_v_a hr) hg (fun Fr_2 r_2 hq hg => ?_)
    have q_2 := hq
    refine lI (LI_eq q_2 (LI_n (X := 0) (x := 0) rfl)) hg (fun hc hg => ?_) (fun hc hg => ?_)
    · cases hg
      exact ⟨_, rfl, (LI_n (X := 2) (x := 2) rfl)⟩
    · refine lB_1_1 (fun r hr => l_X6_isFree  _ _ _ _ _ b_this r h_x1 h_x2 h_v_a hr) hg (fun Fr_4 r_4 hq hg => ?_)
      have q_3 := hq
      refine lI (LI_eq q_3 (LI_n (X := 0) (x := 0) rfl)) hg (fun hc hg => ?_) (fun hc hg => ?_)
      · cases hg
        exact ⟨_, rfl, (LI_n (X := 3) (x := 3) rfl)⟩
      · refine lB_1_1 (fun r hr => l_X6_rentOf  _ _ _ _ _ b_this r h_x1 h_x2 h_v_a hr) hg (fun Fr_6 r_6 hq hg => ?_)
        have q_4 := hq
        refine lA (EI_add (EI_i (LI_n (X := 91) (x := 91) rfl)) (EI_i h_x1)) rfl hg (fun ha_5 hg => ?_)
        refine lI (LI_le q_4 (LA_at h_v_a (EI_add (EI_i (LI_n (X := 91) (x := 91) rfl)) (EI_i h_x1)) ha_5)) hg (fun hc hg => ?_) (fun hc hg => ?_)
        · refine lB_1_1 (fun r hr => l_X6_usedCovers  _ b_this r h_v_a hr) hg (fun Fr_9 r_9 hq hg => ?_)
          have q_6 := hq
          refine lB_1_1 (fun r hr => l_X6_bare  _ _ _ _ _ b_this r h_x1 h_x2 h_v_a hr) hg (fun Fr_11 r_11 hq hg => ?_)
          have q_7 := hq
          refine lA (EI_i (LI_n (X := 179) (x := 179) rfl)) rfl hg (fun ha_8 hg => ?_)
          refine lR hg (fun hr_9 hg => ?_)
          refine lI (LI_le (LI_of (EI_add (EI_i q_6) (EI_i q_7)) hr_9) (LA_at h_v_a (EI_i (LI_n (X := 179) (x := 179) rfl)) ha_8)) hg (fun hc hg => ?_) (fun hc hg => ?_)
          · refine lR hg (fun hr_10 hg => ?_)
            refine lB_1_1 (fun r hr => l_X6_clashesAt  _ _ _ _ _ _ _ b_this r h_x1 h_x2 (LI_of (EI_sub (EI_i h_x2) (EI_i (LI_n (X := 1) (x := 1) rfl))) hr_10) h_v_a hr) hg (fun Fr_14 r_14 hq hg => ?_)
            have q_11 := hq
            refine lI (LI_eq q_11 (LI_n (X := 0) (x := 0) rfl)) hg (fun hc hg => ?_) (fun hc hg => ?_)
            · refine lA (EI_add (EI_i (LI_n (X := 83) (x := 83) rfl)) (EI_i h_x1)) rfl hg (fun ha_12 hg => ?_)
              refine lR hg (fun hr_13 hg => ?_)
              refine lB_1_1 (fun r hr => l_X6_clashesAt  _ _ _ _ _ _ _ b_this r h_x1 h_x2 (LI_of (EI_add (EI_i h_x2) (EI_i (LA_at h_v_a (EI_add (EI_i (LI_n (X := 83) (x := 83) rfl)) (EI_i h_x1)) ha_12))) hr_13) h_v_a hr) hg (fun Fr_17 r_17 hq hg => ?_)
              have q_14 := hq
              refine lI (LI_eq q_14 (LI_n (X := 0) (x := 0) rfl)) hg (fun hc hg => ?_) (fun hc hg => ?_)
              · cases hg
                exact ⟨_, rfl, (LI_n (X := 0) (x := 0) rfl)⟩
              · refine lJ (l_X6_hinders_113 b_this _  hg) (fun R hq => ?_)
                have c0 := hq
                exact c0
            · refine lJ (l_X6_hinders_113 b_this _  hg) (fun R hq => ?_)
              have c0 := hq
              exact c0
          · cases hg
            exact ⟨_, rfl, (LI_n (X := 5) (x := 5) rfl)⟩
        · cases hg
          exact ⟨_, rfl, (LI_n (X := 4) (x := 4) rfl)⟩
  · cases hg
    exact ⟨_, rfl, (LI_n (X := 1) (x := 1) rfl)⟩
set_option maxHeartbeats 4000000 in
set_option maxRecDepth 100000 in
theorem l_X6_takesStart_45 {n : Nat} {K4 : Int32 → Int32 → Int32 → (Nat → Int32) → Option (Int32)} {k4 : Int → Int → Int → BX6 → Option (Int)} (hk4 : ∀ (Fx1 : Int32) (Fx2 : Int32) (Fx3 : Int32) (x1 : Int) (x2 : Int) (x3 : Int) (Fv_a : Nat → Int32) (b_this : BX6) (r : Int), LI Fx1 x1 → LI Fx2 x2 → LI Fx3 x3 → LA Fv_a (pX6_a b_this) → k4 x1 x2 x3 b_this = some r → ∃ R, K4 Fx1 Fx2 Fx3 Fv_a = some R ∧ LI R r) : ∀ (Fx1 : Int32) (Fx2 : Int32) (Fx3 : Int32) (x1 : Int) (x2 : Int) (x3 : Int) (Fv_a : Nat → Int32) (b_this : BX6) (r : Int), LI Fx1 x1 → LI Fx2 x2 → LI Fx3 x3 → LA Fv_a (pX6_a b_this) → g_X6_takesStart_45 n k4 x1 x2 x3 b_this = some r → ∃ R, f_X6_takesStart_45 n K4 Fx1 Fx2 Fx3 Fv_a = some R ∧ LI R r := by
  intro Fx1 Fx2 Fx3 x1 x2 x3 Fv_a b_this r h_x1 h_x2 h_x3 h_v_a hg
  unfold g_X6_takesStart_45 at hg
  unfold f_X6_takesStart_45
  refine lR hg (fun hr_1 hg => ?_)
  refine lJ (hk4 _ _ _ _ _ _ _ b_this _ h_x1 h_x2 (LI_of (EI_add (EI_i h_x3) (EI_i (LI_n (X := 1) (x := 1) rfl))) hr_1) h_v_a hg) (fun R hq => ?_)
  have c0 := hq
  exact c0
set_option maxHeartbeats 4000000 in
set_option maxRecDepth 100000 in
theorem l_X6_takesStart_43 {n : Nat} {K4 : Int32 → Int32 → Int32 → (Nat → Int32) → Option (Int32)} {k4 : Int → Int → Int → BX6 → Option (Int)} (hk4 : ∀ (Fx1 : Int32) (Fx2 : Int32) (Fx3 : Int32) (x1 : Int) (x2 : Int) (x3 : Int) (Fv_a : Nat → Int32) (b_this : BX6) (r : Int), LI Fx1 x1 → LI Fx2 x2 → LI Fx3 x3 → LA Fv_a (pX6_a b_this) → k4 x1 x2 x3 b_this = some r → ∃ R, K4 Fx1 Fx2 Fx3 Fv_a = some R ∧ LI R r) : ∀ (Fx1 : Int32) (Fx3 : Int32) (x1 : Int) (x3 : Int) (Fv_a : Nat → Int32) (b_this : BX6) (r : Int), LI Fx1 x1 → LI Fx3 x3 → LA Fv_a (pX6_a b_this) → g_X6_takesStart_43 n k4 x1 x3 b_this = some r → ∃ R, f_X6_takesStart_43 n K4 Fx1 Fx3 Fv_a = some R ∧ LI R r := by
  intro Fx1 Fx3 x1 x3 Fv_a b_this r h_x1 h_x3 h_v_a hg
  unfold g_X6_takesStart_43 at hg
  unfold f_X6_takesStart_43
  refine lJ (l_X6_takesStart_45 hk4 _ _ _ _ _ _ _ b_this _ h_x1 h_x3 h_x3 h_v_a hg) (fun R hq => ?_)
  have c0 := hq
  exact c0
set_option maxHeartbeats 4000000 in
set_option maxRecDepth 100000 in
theorem l_X6_takesStart_4 {n : Nat} : ∀ (fu : Nat), ∀ (Fx1 : Int32) (Fx2 : Int32) (Fx3 : Int32) (x1 : Int) (x2 : Int) (x3 : Int) (Fv_a : Nat → Int32) (b_this : BX6) (r : Int), LI Fx1 x1 → LI Fx2 x2 → LI Fx3 x3 → LA Fv_a (pX6_a b_this) → g_X6_takesStart_4 n fu x1 x2 x3 b_this = some r → ∃ R, f_X6_takesStart_4 n fu Fx1 Fx2 Fx3 Fv_a = some R ∧ LI R r := by
  intro fu
  induction fu with
  | zero => intro Fx1 Fx2 Fx3 x1 x2 x3 Fv_a b_this r h_x1 h_x2 h_x3 h_v_a hg; rw [g_X6_takesStart_4.eq_1] at hg; cases hg
  | succ fu ih =>
    intro Fx1 Fx2 Fx3 x1 x2 x3 Fv_a b_this r h_x1 h_x2 h_x3 h_v_a hg
    rw [g_X6_takesStart_4.eq_2] at hg
    rw [f_X6_takesStart_4.eq_2]
    refine lA (EI_i (LI_n (X := 1) (x := 1) rfl)) rfl hg (fun ha_2 hg => ?_)
    refine lI (LI_le (LA_at h_v_a (EI_i (LI_n (X := 1) (x := 1) rfl)) ha_2) h_x3) hg (fun hc hg => ?_) (fun hc hg => ?_)
    · cases hg
      exact ⟨_, rfl, h_x2⟩
    · refine lB_1_1 (fun r hr => l_X6_hinders  _ _ _ _ _ b_this r h_x1 h_x3 h_v_a hr) hg (fun Fr_2 r_2 hq hg => ?_)
      have q_3 := hq
      refine lI (LI_eq q_3 (LI_n (X := 0) (x := 0) rfl)) hg (fun hc hg => ?_) (fun hc hg => ?_)
      · refine lI (LI_eq h_x2 (LI_n (X := -1) (x := -1) rfl)) hg (fun hc hg => ?_) (fun hc hg => ?_)
        · refine lJ (l_X6_takesStart_43 ih _ _ _ _ _ b_this _ h_x1 h_x3 h_v_a hg) (fun R hq => ?_)
          have c0 := hq
          exact c0
        · refine lB_1_1 (fun r hr => l_X6_rentOf  _ _ _ _ _ b_this r h_x1 h_x3 h_v_a hr) hg (fun Fr_4 r_4 hq hg => ?_)
          have q_4 := hq
          refine lB_1_1 (fun r hr => l_X6_rentOf  _ _ _ _ _ b_this r h_x1 h_x2 h_v_a hr) hg (fun Fr_6 r_6 hq hg => ?_)
          have q_5 := hq
          refine lI (LI_le q_4 q_5) hg (fun hc hg => ?_) (fun hc hg => ?_)
          · refine lJ (l_X6_takesStart_45 ih _ _ _ _ _ _ _ b_this _ h_x1 h_x2 h_x3 h_v_a hg) (fun R hq => ?_)
            have c0 := hq
            exact c0
          · refine lJ (l_X6_takesStart_43 ih _ _ _ _ _ b_this _ h_x1 h_x3 h_v_a hg) (fun R hq => ?_)
            have c0 := hq
            exact c0
      · refine lJ (l_X6_takesStart_45 ih _ _ _ _ _ _ _ b_this _ h_x1 h_x2 h_x3 h_v_a hg) (fun R hq => ?_)
        have c0 := hq
        exact c0
set_option maxHeartbeats 4000000 in
set_option maxRecDepth 100000 in
theorem l_X6_takesStart {n : Nat} : ∀ (Fx1 : Int32) (x1 : Int) (Fv_a : Nat → Int32) (b_this : BX6) (r : Int), LI Fx1 x1 → LA Fv_a (pX6_a b_this) → g_X6_takesStart n b_this x1 = some r → ∃ R, f_X6_takesStart n Fv_a Fx1 = some R ∧ LI R r := by
  intro Fx1 x1 Fv_a b_this r h_x1 h_v_a hg
  unfold g_X6_takesStart at hg
  unfold f_X6_takesStart
  refine lJ (l_X6_takesStart_4 n _ _ _ _ _ _ _ b_this _ h_x1 (LI_n (X := -1) (x := -1) rfl) (LI_n (X := 0) (x := 0) rfl) h_v_a hg) (fun R hq => ?_)
  have c0 := hq
  exact c0
set_option maxHeartbeats 4000000 in
set_option maxRecDepth 100000 in
theorem l_X6_isOrder_5 {n : Nat} : ∀ (fu : Nat), ∀ (Fx1 : Int64) (Fx3 : Int32) (Fx4 : Int64) (x1 : Int) (x3 : Int) (x4 : Int) (Fv_a : Nat → Int32) (b_this : BX6) (r : Int), LJ Fx1 x1 → LI Fx3 x3 → LJ Fx4 x4 → LA Fv_a (pX6_a b_this) → g_X6_isOrder_5 n fu x1 x3 x4 b_this = some r → ∃ R, f_X6_isOrder_5 n fu Fx1 Fx3 Fx4 Fv_a = some R ∧ LI R r := by
  intro fu
  induction fu with
  | zero => intro Fx1 Fx3 Fx4 x1 x3 x4 Fv_a b_this r h_x1 h_x3 h_x4 h_v_a hg; rw [g_X6_isOrder_5.eq_1] at hg; cases hg
  | succ fu ih =>
    intro Fx1 Fx3 Fx4 x1 x3 x4 Fv_a b_this r h_x1 h_x3 h_x4 h_v_a hg
    rw [g_X6_isOrder_5.eq_2] at hg
    rw [f_X6_isOrder_5.eq_2]
    refine lI (LC_le h_x4 (LJ_n (X := 0) (x := 0) rfl)) hg (fun hc hg => ?_) (fun hc hg => ?_)
    · refine lI (LC_lt h_x1 (LJ_n (X := 0) (x := 0) rfl)) hg (fun hc hg => ?_) (fun hc hg => ?_)
      · cases hg
        exact ⟨_, rfl, (LI_n (X := 0) (x := 0) rfl)⟩
      · cases hg
        exact ⟨_, rfl, (LI_n (X := 1) (x := 1) rfl)⟩
    · refine lD hg (fun hd_1 hg => ?_)
      refine lRJ hg (fun hr_2 hg => ?_)
      refine lR hg (fun hr_3 hg => ?_)
      refine lL (LI_of (EI_sub (EI_l (LJ_of (EJ_rem h_x4 (LJ_n (X := 10) (x := 10) rfl) hd_1) hr_2)) (EI_i (LI_n (X := 1) (x := 1) rfl))) hr_3) hg (fun Fy_1 y_1 h_y_1 hg => ?_)
      refine lB_1_1 (fun r hr => l_X6_isTrader  _ _ _ b_this r h_y_1 h_v_a hr) hg (fun Fr_2 r_2 hq hg => ?_)
      have q_4 := hq
      refine lI (LI_eq q_4 (LI_n (X := 0) (x := 0) rfl)) hg (fun hc hg => ?_) (fun hc hg => ?_)
      · cases hg
        exact ⟨_, rfl, (LI_n (X := 0) (x := 0) rfl)⟩
      · refine lI (LI_eq (LI_and (LI_shr h_x3 h_y_1) (LI_n (X := 1) (x := 1) rfl)) (LI_n (X := 1) (x := 1) rfl)) hg (fun hc hg => ?_) (fun hc hg => ?_)
        · cases hg
          exact ⟨_, rfl, (LI_n (X := 0) (x := 0) rfl)⟩
        · refine lL (LI_or h_x3 (LI_shl (LI_n (X := 1) (x := 1) rfl) h_y_1)) hg (fun Fy_4 y_4 h_y_4 hg => ?_)
          refine lRJ hg (fun hr_5 hg => ?_)
          refine lL (LJ_of (EJ_div h_x4 (LJ_n (X := 10) (x := 10) rfl) hd_1) hr_5) hg (fun Fy_5 y_5 h_y_5 hg => ?_)
          refine lJ (ih _ _ _ _ _ _ _ b_this _ h_x1 h_y_4 h_y_5 h_v_a hg) (fun R hq => ?_)
          have c0 := hq
          exact c0
set_option maxHeartbeats 4000000 in
set_option maxRecDepth 100000 in
theorem l_X6_isOrder {n : Nat} : ∀ (Fx1 : Int64) (x1 : Int) (Fv_a : Nat → Int32) (b_this : BX6) (r : Int), LJ Fx1 x1 → LA Fv_a (pX6_a b_this) → g_X6_isOrder n b_this x1 = some r → ∃ R, f_X6_isOrder n Fv_a Fx1 = some R ∧ LI R r := by
  intro Fx1 x1 Fv_a b_this r h_x1 h_v_a hg
  unfold g_X6_isOrder at hg
  unfold f_X6_isOrder
  refine lJ (l_X6_isOrder_5 n _ _ _ _ _ _ _ b_this _ h_x1 (LI_n (X := 0) (x := 0) rfl) h_x1 h_v_a hg) (fun R hq => ?_)
  have c0 := hq
  exact c0
set_option maxHeartbeats 4000000 in
set_option maxRecDepth 100000 in
theorem l_X6_firstCome_151 {n : Nat} : ∀ (fu : Nat), ∀ (Fx5 : Int32) (Fx6 : Int32) (x5 : Int) (x6 : Int) (Fv_a : Nat → Int32) (Fv_thrown : Int32) (Fv_found : Nat → Int32) (b_this : BX6) (r : Int × BX6), LI Fx5 x5 → LI Fx6 x6 → LA Fv_a (pX6_a b_this) → LI Fv_thrown (pX6_thrown b_this) → LA Fv_found (pX6_found b_this) → g_X6_firstCome_151 n fu x5 x6 b_this = some r → ∃ R, f_X6_firstCome_151 n fu Fx5 Fx6 Fv_a Fv_thrown Fv_found = some R ∧ LI (R.1) (r.1) ∧ LA (R.2.1) (pX6_a (r.2)) ∧ LI (R.2.2.1) (pX6_thrown (r.2)) ∧ LA (R.2.2.2) (pX6_found (r.2)) ∧ (pX6_fresh (r.2)) = (pX6_fresh b_this) ∧ (pX6_kept (r.2)) = (pX6_kept b_this) ∧ (pX6_keptMany (r.2)) = (pX6_keptMany b_this) ∧ (pX6_buffer (r.2)) = (pX6_buffer b_this) ∧ (pX6_buffered (r.2)) = (pX6_buffered b_this) ∧ (pX6_size (r.2)) = (pX6_size b_this) ∧ (pX6_at (r.2)) = (pX6_at b_this) ∧ (pX6_behind (r.2)) = (pX6_behind b_this) ∧ (pX6_kind (r.2)) = (pX6_kind b_this) ∧ (pX6_wrong (r.2)) = (pX6_wrong b_this) ∧ (pX6_wrongAt (r.2)) = (pX6_wrongAt b_this) ∧ (pX6_errorAt (r.2)) = (pX6_errorAt b_this) ∧ (pX6_number (r.2)) = (pX6_number b_this) ∧ (pX6_best (r.2)) = (pX6_best b_this) ∧ (pX6_rentBy (r.2)) = (pX6_rentBy b_this) ∧ (pX6_bareBy (r.2)) = (pX6_bareBy b_this) ∧ (pX6_aheadBy (r.2)) = (pX6_aheadBy b_this) ∧ (pX6_isEdge (r.2)) = (pX6_isEdge b_this) ∧ (pX6_tried (r.2)) = (pX6_tried b_this) ∧ (pX6_stands (r.2)) = (pX6_stands b_this) ∧ (pX6_foundOn (r.2)) = (pX6_foundOn b_this) ∧ (pX6_moving (r.2)) = (pX6_moving b_this) ∧ (pX6_movingMany (r.2)) = (pX6_movingMany b_this) ∧ (pX6_foundIncome (r.2)) = (pX6_foundIncome b_this) ∧ (pX6_foundMoves (r.2)) = (pX6_foundMoves b_this) := by
  intro fu
  induction fu with
  | zero => intro Fx5 Fx6 x5 x6 Fv_a Fv_thrown Fv_found b_this r h_x5 h_x6 h_v_a h_v_thrown h_v_found hg; rw [g_X6_firstCome_151.eq_1] at hg; cases hg
  | succ fu ih =>
    intro Fx5 Fx6 x5 x6 Fv_a Fv_thrown Fv_found b_this r h_x5 h_x6 h_v_a h_v_thrown h_v_found hg
    rw [g_X6_firstCome_151.eq_2] at hg
    rw [f_X6_firstCome_151.eq_2]
    refine lI (LI_le (LI_n (X := 8) (x := 8) rfl) h_x6) hg (fun hc hg => ?_) (fun hc hg => ?_)
    · cases hg
      exact ⟨_, rfl, h_x5, h_v_a, h_v_thrown, h_v_found, rfl, rfl, rfl, rfl, rfl, rfl, rfl, rfl, rfl, rfl, rfl, rfl, rfl, rfl, rfl, rfl, rfl, rfl, rfl, rfl, rfl, rfl, rfl, rfl, rfl⟩
    · refine lA (EI_i h_x6) rfl hg (fun ha_1 hg => ?_)
      refine lA (EI_add (EI_i (LI_n (X := 107) (x := 107) rfl)) (EI_i h_x6)) rfl hg (fun ha_2 hg => ?_)
      refine lL (LA_upd h_v_a (EI_add (EI_i (LI_n (X := 107) (x := 107) rfl)) (EI_i h_x6)) ha_2 (LA_at h_v_found (EI_i h_x6) ha_1)) hg (fun Fv_3 v_3 h_v_3 hg => ?_)
      refine lR hg (fun hr_3 hg => ?_)
      refine lJ (ih _ _ _ _ _ _ _ (sX6_a b_this v_3) _ h_x5 (LI_of (EI_add (EI_i h_x6) (EI_i (LI_n (X := 1) (x := 1) rfl))) hr_3) (LA_cg (eX6_a_a _ _) h_v_3) (LI_cg (eX6_thrown_a _ _) h_v_thrown) (LA_cg (eX6_found_a _ _) h_v_found) hg) (fun R hq => ?_)
      obtain ⟨c0, c1, c2, c3, c4, c5, c6, c7, c8, c9, c10, c11, c12, c13, c14, c15, c16, c17, c18, c19, c20, c21, c22, c23, c24, c25, c26, c27, c28⟩ := hq
      exact ⟨c0, c1, c2, c3, (c4).trans (eX6_fresh_a _ _), (c5).trans (eX6_kept_a _ _), (c6).trans (eX6_keptMany_a _ _), (c7).trans (eX6_buffer_a _ _), (c8).trans (eX6_buffered_a _ _), (c9).trans (eX6_size_a _ _), (c10).trans (eX6_at_a _ _), (c11).trans (eX6_behind_a _ _), (c12).trans (eX6_kind_a _ _), (c13).trans (eX6_wrong_a _ _), (c14).trans (eX6_wrongAt_a _ _), (c15).trans (eX6_errorAt_a _ _), (c16).trans (eX6_number_a _ _), (c17).trans (eX6_best_a _ _), (c18).trans (eX6_rentBy_a _ _), (c19).trans (eX6_bareBy_a _ _), (c20).trans (eX6_aheadBy_a _ _), (c21).trans (eX6_isEdge_a _ _), (c22).trans (eX6_tried_a _ _), (c23).trans (eX6_stands_a _ _), (c24).trans (eX6_foundOn_a _ _), (c25).trans (eX6_moving_a _ _), (c26).trans (eX6_movingMany_a _ _), (c27).trans (eX6_foundIncome_a _ _), (c28).trans (eX6_foundMoves_a _ _)⟩
set_option maxHeartbeats 4000000 in
set_option maxRecDepth 100000 in
theorem l_X6_firstCome_142 {n : Nat} : ∀ (Fv_a : Nat → Int32) (Fv_thrown : Int32) (Fv_found : Nat → Int32) (b_this : BX6) (r : Int × BX6), LA Fv_a (pX6_a b_this) → LI Fv_thrown (pX6_thrown b_this) → LA Fv_found (pX6_found b_this) → g_X6_firstCome_142 n b_this = some r → ∃ R, f_X6_firstCome_142 n Fv_a Fv_thrown Fv_found = some R ∧ LI (R.1) (r.1) ∧ LA (R.2.1) (pX6_a (r.2)) ∧ LI (R.2.2.1) (pX6_thrown (r.2)) ∧ LA (R.2.2.2) (pX6_found (r.2)) ∧ (pX6_fresh (r.2)) = (pX6_fresh b_this) ∧ (pX6_kept (r.2)) = (pX6_kept b_this) ∧ (pX6_keptMany (r.2)) = (pX6_keptMany b_this) ∧ (pX6_buffer (r.2)) = (pX6_buffer b_this) ∧ (pX6_buffered (r.2)) = (pX6_buffered b_this) ∧ (pX6_size (r.2)) = (pX6_size b_this) ∧ (pX6_at (r.2)) = (pX6_at b_this) ∧ (pX6_behind (r.2)) = (pX6_behind b_this) ∧ (pX6_kind (r.2)) = (pX6_kind b_this) ∧ (pX6_wrong (r.2)) = (pX6_wrong b_this) ∧ (pX6_wrongAt (r.2)) = (pX6_wrongAt b_this) ∧ (pX6_errorAt (r.2)) = (pX6_errorAt b_this) ∧ (pX6_number (r.2)) = (pX6_number b_this) ∧ (pX6_best (r.2)) = (pX6_best b_this) ∧ (pX6_rentBy (r.2)) = (pX6_rentBy b_this) ∧ (pX6_bareBy (r.2)) = (pX6_bareBy b_this) ∧ (pX6_aheadBy (r.2)) = (pX6_aheadBy b_this) ∧ (pX6_isEdge (r.2)) = (pX6_isEdge b_this) ∧ (pX6_tried (r.2)) = (pX6_tried b_this) ∧ (pX6_stands (r.2)) = (pX6_stands b_this) ∧ (pX6_foundOn (r.2)) = (pX6_foundOn b_this) ∧ (pX6_moving (r.2)) = (pX6_moving b_this) ∧ (pX6_movingMany (r.2)) = (pX6_movingMany b_this) ∧ (pX6_foundIncome (r.2)) = (pX6_foundIncome b_this) ∧ (pX6_foundMoves (r.2)) = (pX6_foundMoves b_this) := by
  intro Fv_a Fv_thrown Fv_found b_this r h_v_a h_v_thrown h_v_found hg
  unfold g_X6_firstCome_142 at hg
  unfold f_X6_firstCome_142
  refine lB_1_1 (fun r hr => l_X6_incomeNow  _ b_this r h_v_a hr) hg (fun Fr_4 r_4 hq hg => ?_)
  have q_4 := hq
  refine lJ (l_X6_firstCome_151 n _ _ _ _ _ _ _ b_this _ q_4 (LI_n (X := 0) (x := 0) rfl) h_v_a h_v_thrown h_v_found hg) (fun R hq => ?_)
  obtain ⟨c0, c1, c2, c3, c4, c5, c6, c7, c8, c9, c10, c11, c12, c13, c14, c15, c16, c17, c18, c19, c20, c21, c22, c23, c24, c25, c26, c27, c28⟩ := hq
  exact ⟨c0, c1, c2, c3, c4, c5, c6, c7, c8, c9, c10, c11, c12, c13, c14, c15, c16, c17, c18, c19, c20, c21, c22, c23, c24, c25, c26, c27, c28⟩
set_option maxHeartbeats 4000000 in
set_option maxRecDepth 100000 in
theorem l_X6_firstCome_89 {n : Nat} : ∀ (fu : Nat), ∀ (Fx1 : Int64) (Fx5 : Int64) (x1 : Int) (x5 : Int) (Fv_a : Nat → Int32) (Fv_thrown : Int32) (Fv_found : Nat → Int32) (b_this : BX6) (r : Int × BX6), LJ Fx1 x1 → LJ Fx5 x5 → LA Fv_a (pX6_a b_this) → LI Fv_thrown (pX6_thrown b_this) → LA Fv_found (pX6_found b_this) → g_X6_firstCome_89 n fu x1 x5 b_this = some r → ∃ R, f_X6_firstCome_89 n fu Fx1 Fx5 Fv_a Fv_thrown Fv_found = some R ∧ LI (R.1) (r.1) ∧ LA (R.2.1) (pX6_a (r.2)) ∧ LI (R.2.2.1) (pX6_thrown (r.2)) ∧ LA (R.2.2.2) (pX6_found (r.2)) ∧ (pX6_fresh (r.2)) = (pX6_fresh b_this) ∧ (pX6_kept (r.2)) = (pX6_kept b_this) ∧ (pX6_keptMany (r.2)) = (pX6_keptMany b_this) ∧ (pX6_buffer (r.2)) = (pX6_buffer b_this) ∧ (pX6_buffered (r.2)) = (pX6_buffered b_this) ∧ (pX6_size (r.2)) = (pX6_size b_this) ∧ (pX6_at (r.2)) = (pX6_at b_this) ∧ (pX6_behind (r.2)) = (pX6_behind b_this) ∧ (pX6_kind (r.2)) = (pX6_kind b_this) ∧ (pX6_wrong (r.2)) = (pX6_wrong b_this) ∧ (pX6_wrongAt (r.2)) = (pX6_wrongAt b_this) ∧ (pX6_errorAt (r.2)) = (pX6_errorAt b_this) ∧ (pX6_number (r.2)) = (pX6_number b_this) ∧ (pX6_best (r.2)) = (pX6_best b_this) ∧ (pX6_rentBy (r.2)) = (pX6_rentBy b_this) ∧ (pX6_bareBy (r.2)) = (pX6_bareBy b_this) ∧ (pX6_aheadBy (r.2)) = (pX6_aheadBy b_this) ∧ (pX6_isEdge (r.2)) = (pX6_isEdge b_this) ∧ (pX6_tried (r.2)) = (pX6_tried b_this) ∧ (pX6_stands (r.2)) = (pX6_stands b_this) ∧ (pX6_foundOn (r.2)) = (pX6_foundOn b_this) ∧ (pX6_moving (r.2)) = (pX6_moving b_this) ∧ (pX6_movingMany (r.2)) = (pX6_movingMany b_this) ∧ (pX6_foundIncome (r.2)) = (pX6_foundIncome b_this) ∧ (pX6_foundMoves (r.2)) = (pX6_foundMoves b_this) := by
  intro fu
  induction fu with
  | zero => intro Fx1 Fx5 x1 x5 Fv_a Fv_thrown Fv_found b_this r h_x1 h_x5 h_v_a h_v_thrown h_v_found hg; rw [g_X6_firstCome_89.eq_1] at hg; cases hg
  | succ fu ih =>
    intro Fx1 Fx5 x1 x5 Fv_a Fv_thrown Fv_found b_this r h_x1 h_x5 h_v_a h_v_thrown h_v_found hg
    rw [g_X6_firstCome_89.eq_2] at hg
    rw [f_X6_firstCome_89.eq_2]
    refine lI (LC_le h_x5 (LJ_n (X := 0) (x := 0) rfl)) hg (fun hc hg => ?_) (fun hc hg => ?_)
    · refine lJ (l_X6_firstCome_142 _ _ _ b_this _ h_v_a h_v_thrown h_v_found hg) (fun R hq => ?_)
      obtain ⟨c0, c1, c2, c3, c4, c5, c6, c7, c8, c9, c10, c11, c12, c13, c14, c15, c16, c17, c18, c19, c20, c21, c22, c23, c24, c25, c26, c27, c28⟩ := hq
      exact ⟨c0, c1, c2, c3, c4, c5, c6, c7, c8, c9, c10, c11, c12, c13, c14, c15, c16, c17, c18, c19, c20, c21, c22, c23, c24, c25, c26, c27, c28⟩
    · refine lI (LC_le h_x1 (LJ_n (X := 0) (x := 0) rfl)) hg (fun hc hg => ?_) (fun hc hg => ?_)
      · refine lJ (l_X6_firstCome_142 _ _ _ b_this _ h_v_a h_v_thrown h_v_found hg) (fun R hq => ?_)
        obtain ⟨c0, c1, c2, c3, c4, c5, c6, c7, c8, c9, c10, c11, c12, c13, c14, c15, c16, c17, c18, c19, c20, c21, c22, c23, c24, c25, c26, c27, c28⟩ := hq
        exact ⟨c0, c1, c2, c3, c4, c5, c6, c7, c8, c9, c10, c11, c12, c13, c14, c15, c16, c17, c18, c19, c20, c21, c22, c23, c24, c25, c26, c27, c28⟩
      · refine lG (not_congr (LJ_eq h_x5 (LJ_n rfl))) hg (fun hn_5 hg => ?_)
        refine lD hg (fun hd_6 hg => ?_)
        refine lRJ hg (fun hr_7 hg => ?_)
        refine lD hg (fun hd_8 hg => ?_)
        refine lRJ hg (fun hr_9 hg => ?_)
        refine lR hg (fun hr_10 hg => ?_)
        refine lL (LI_of (EI_sub (EI_l (LJ_of (EJ_rem (LJ_of (EJ_div h_x1 h_x5 hd_6) hr_7) (LJ_n (X := 10) (x := 10) rfl) hd_8) hr_9)) (EI_i (LI_n (X := 1) (x := 1) rfl))) hr_10) hg (fun Fy_7 y_7 h_y_7 hg => ?_)
        refine lB_1_1 (fun r hr => l_X6_takesStart  _ _ _ b_this r h_y_7 h_v_a hr) hg (fun Fr_8 r_8 hq hg => ?_)
        have q_11 := hq
        refine lA (EI_add (EI_i (LI_n (X := 107) (x := 107) rfl)) (EI_i h_y_7)) rfl hg (fun ha_12 hg => ?_)
        refine lL (LA_upd h_v_a (EI_add (EI_i (LI_n (X := 107) (x := 107) rfl)) (EI_i h_y_7)) ha_12 q_11) hg (fun Fv_11 v_11 h_v_11 hg => ?_)
        refine lD hg (fun hd_13 hg => ?_)
        refine lRJ hg (fun hr_14 hg => ?_)
        refine lL (LJ_of (EJ_div h_x5 (LJ_n (X := 10) (x := 10) rfl) hd_13) hr_14) hg (fun Fy_12 y_12 h_y_12 hg => ?_)
        refine lJ (ih _ _ _ _ _ _ _ (sX6_a b_this v_11) _ h_x1 h_y_12 (LA_cg (eX6_a_a _ _) h_v_11) (LI_cg (eX6_thrown_a _ _) h_v_thrown) (LA_cg (eX6_found_a _ _) h_v_found) hg) (fun R hq => ?_)
        obtain ⟨c0, c1, c2, c3, c4, c5, c6, c7, c8, c9, c10, c11, c12, c13, c14, c15, c16, c17, c18, c19, c20, c21, c22, c23, c24, c25, c26, c27, c28⟩ := hq
        exact ⟨c0, c1, c2, c3, (c4).trans (eX6_fresh_a _ _), (c5).trans (eX6_kept_a _ _), (c6).trans (eX6_keptMany_a _ _), (c7).trans (eX6_buffer_a _ _), (c8).trans (eX6_buffered_a _ _), (c9).trans (eX6_size_a _ _), (c10).trans (eX6_at_a _ _), (c11).trans (eX6_behind_a _ _), (c12).trans (eX6_kind_a _ _), (c13).trans (eX6_wrong_a _ _), (c14).trans (eX6_wrongAt_a _ _), (c15).trans (eX6_errorAt_a _ _), (c16).trans (eX6_number_a _ _), (c17).trans (eX6_best_a _ _), (c18).trans (eX6_rentBy_a _ _), (c19).trans (eX6_bareBy_a _ _), (c20).trans (eX6_aheadBy_a _ _), (c21).trans (eX6_isEdge_a _ _), (c22).trans (eX6_tried_a _ _), (c23).trans (eX6_stands_a _ _), (c24).trans (eX6_foundOn_a _ _), (c25).trans (eX6_moving_a _ _), (c26).trans (eX6_movingMany_a _ _), (c27).trans (eX6_foundIncome_a _ _), (c28).trans (eX6_foundMoves_a _ _)⟩
set_option maxHeartbeats 4000000 in
set_option maxRecDepth 100000 in
theorem l_X6_firstCome_67 {n : Nat} : ∀ (fu : Nat), ∀ (Fx1 : Int64) (Fx3 : Int64) (x1 : Int) (x3 : Int) (Fv_a : Nat → Int32) (Fv_thrown : Int32) (Fv_found : Nat → Int32) (b_this : BX6) (r : Int × BX6), LJ Fx1 x1 → LJ Fx3 x3 → LA Fv_a (pX6_a b_this) → LI Fv_thrown (pX6_thrown b_this) → LA Fv_found (pX6_found b_this) → g_X6_firstCome_67 n fu x1 x3 b_this = some r → ∃ R, f_X6_firstCome_67 n fu Fx1 Fx3 Fv_a Fv_thrown Fv_found = some R ∧ LI (R.1) (r.1) ∧ LA (R.2.1) (pX6_a (r.2)) ∧ LI (R.2.2.1) (pX6_thrown (r.2)) ∧ LA (R.2.2.2) (pX6_found (r.2)) ∧ (pX6_fresh (r.2)) = (pX6_fresh b_this) ∧ (pX6_kept (r.2)) = (pX6_kept b_this) ∧ (pX6_keptMany (r.2)) = (pX6_keptMany b_this) ∧ (pX6_buffer (r.2)) = (pX6_buffer b_this) ∧ (pX6_buffered (r.2)) = (pX6_buffered b_this) ∧ (pX6_size (r.2)) = (pX6_size b_this) ∧ (pX6_at (r.2)) = (pX6_at b_this) ∧ (pX6_behind (r.2)) = (pX6_behind b_this) ∧ (pX6_kind (r.2)) = (pX6_kind b_this) ∧ (pX6_wrong (r.2)) = (pX6_wrong b_this) ∧ (pX6_wrongAt (r.2)) = (pX6_wrongAt b_this) ∧ (pX6_errorAt (r.2)) = (pX6_errorAt b_this) ∧ (pX6_number (r.2)) = (pX6_number b_this) ∧ (pX6_best (r.2)) = (pX6_best b_this) ∧ (pX6_rentBy (r.2)) = (pX6_rentBy b_this) ∧ (pX6_bareBy (r.2)) = (pX6_bareBy b_this) ∧ (pX6_aheadBy (r.2)) = (pX6_aheadBy b_this) ∧ (pX6_isEdge (r.2)) = (pX6_isEdge b_this) ∧ (pX6_tried (r.2)) = (pX6_tried b_this) ∧ (pX6_stands (r.2)) = (pX6_stands b_this) ∧ (pX6_foundOn (r.2)) = (pX6_foundOn b_this) ∧ (pX6_moving (r.2)) = (pX6_moving b_this) ∧ (pX6_movingMany (r.2)) = (pX6_movingMany b_this) ∧ (pX6_foundIncome (r.2)) = (pX6_foundIncome b_this) ∧ (pX6_foundMoves (r.2)) = (pX6_foundMoves b_this) := by
  intro fu
  induction fu with
  | zero => intro Fx1 Fx3 x1 x3 Fv_a Fv_thrown Fv_found b_this r h_x1 h_x3 h_v_a h_v_thrown h_v_found hg; rw [g_X6_firstCome_67.eq_1] at hg; cases hg
  | succ fu ih =>
    intro Fx1 Fx3 x1 x3 Fv_a Fv_thrown Fv_found b_this r h_x1 h_x3 h_v_a h_v_thrown h_v_found hg
    rw [g_X6_firstCome_67.eq_2] at hg
    rw [f_X6_firstCome_67.eq_2]
    refine lD hg (fun hd_15 hg => ?_)
    refine lRJ hg (fun hr_16 hg => ?_)
    refine lI (LC_lt' h_x3 (LJ_of (EJ_div h_x1 (LJ_n (X := 10) (x := 10) rfl) hd_15) hr_16)) hg (fun hc hg => ?_) (fun hc hg => ?_)
    · refine lJ (l_X6_firstCome_89 n _ _ _ _ _ _ _ b_this _ h_x1 h_x3 h_v_a h_v_thrown h_v_found hg) (fun R hq => ?_)
      obtain ⟨c0, c1, c2, c3, c4, c5, c6, c7, c8, c9, c10, c11, c12, c13, c14, c15, c16, c17, c18, c19, c20, c21, c22, c23, c24, c25, c26, c27, c28⟩ := hq
      exact ⟨c0, c1, c2, c3, c4, c5, c6, c7, c8, c9, c10, c11, c12, c13, c14, c15, c16, c17, c18, c19, c20, c21, c22, c23, c24, c25, c26, c27, c28⟩
    · refine lRJ hg (fun hr_17 hg => ?_)
      refine lL (LJ_of (EJ_mul (EJ_j (LJ_n (X := 10) (x := 10) rfl)) (EJ_j h_x3)) hr_17) hg (fun Fy_13 y_13 h_y_13 hg => ?_)
      refine lJ (ih _ _ _ _ _ _ _ b_this _ h_x1 h_y_13 h_v_a h_v_thrown h_v_found hg) (fun R hq => ?_)
      obtain ⟨c0, c1, c2, c3, c4, c5, c6, c7, c8, c9, c10, c11, c12, c13, c14, c15, c16, c17, c18, c19, c20, c21, c22, c23, c24, c25, c26, c27, c28⟩ := hq
      exact ⟨c0, c1, c2, c3, c4, c5, c6, c7, c8, c9, c10, c11, c12, c13, c14, c15, c16, c17, c18, c19, c20, c21, c22, c23, c24, c25, c26, c27, c28⟩
set_option maxHeartbeats 4000000 in
set_option maxRecDepth 100000 in
theorem l_X6_firstCome_28 {n : Nat} : ∀ (fu : Nat), ∀ (Fx1 : Int64) (Fx3 : Int32) (x1 : Int) (x3 : Int) (Fv_a : Nat → Int32) (Fv_thrown : Int32) (Fv_found : Nat → Int32) (b_this : BX6) (r : Int × BX6), LJ Fx1 x1 → LI Fx3 x3 → LA Fv_a (pX6_a b_this) → LI Fv_thrown (pX6_thrown b_this) → LA Fv_found (pX6_found b_this) → g_X6_firstCome_28 n fu x1 x3 b_this = some r → ∃ R, f_X6_firstCome_28 n fu Fx1 Fx3 Fv_a Fv_thrown Fv_found = some R ∧ LI (R.1) (r.1) ∧ LA (R.2.1) (pX6_a (r.2)) ∧ LI (R.2.2.1) (pX6_thrown (r.2)) ∧ LA (R.2.2.2) (pX6_found (r.2)) ∧ (pX6_fresh (r.2)) = (pX6_fresh b_this) ∧ (pX6_kept (r.2)) = (pX6_kept b_this) ∧ (pX6_keptMany (r.2)) = (pX6_keptMany b_this) ∧ (pX6_buffer (r.2)) = (pX6_buffer b_this) ∧ (pX6_buffered (r.2)) = (pX6_buffered b_this) ∧ (pX6_size (r.2)) = (pX6_size b_this) ∧ (pX6_at (r.2)) = (pX6_at b_this) ∧ (pX6_behind (r.2)) = (pX6_behind b_this) ∧ (pX6_kind (r.2)) = (pX6_kind b_this) ∧ (pX6_wrong (r.2)) = (pX6_wrong b_this) ∧ (pX6_wrongAt (r.2)) = (pX6_wrongAt b_this) ∧ (pX6_errorAt (r.2)) = (pX6_errorAt b_this) ∧ (pX6_number (r.2)) = (pX6_number b_this) ∧ (pX6_best (r.2)) = (pX6_best b_this) ∧ (pX6_rentBy (r.2)) = (pX6_rentBy b_this) ∧ (pX6_bareBy (r.2)) = (pX6_bareBy b_this) ∧ (pX6_aheadBy (r.2)) = (pX6_aheadBy b_this) ∧ (pX6_isEdge (r.2)) = (pX6_isEdge b_this) ∧ (pX6_tried (r.2)) = (pX6_tried b_this) ∧ (pX6_stands (r.2)) = (pX6_stands b_this) ∧ (pX6_foundOn (r.2)) = (pX6_foundOn b_this) ∧ (pX6_moving (r.2)) = (pX6_moving b_this) ∧ (pX6_movingMany (r.2)) = (pX6_movingMany b_this) ∧ (pX6_foundIncome (r.2)) = (pX6_foundIncome b_this) ∧ (pX6_foundMoves (r.2)) = (pX6_foundMoves b_this) := by
  intro fu
  induction fu with
  | zero => intro Fx1 Fx3 x1 x3 Fv_a Fv_thrown Fv_found b_this r h_x1 h_x3 h_v_a h_v_thrown h_v_found hg; rw [g_X6_firstCome_28.eq_1] at hg; cases hg
  | succ fu ih =>
    intro Fx1 Fx3 x1 x3 Fv_a Fv_thrown Fv_found b_this r h_x1 h_x3 h_v_a h_v_thrown h_v_found hg
    rw [g_X6_firstCome_28.eq_2] at hg
    rw [f_X6_firstCome_28.eq_2]
    refine lI (LI_le (LI_n (X := 8) (x := 8) rfl) h_x3) hg (fun hc hg => ?_) (fun hc hg => ?_)
    · refine lJ (l_X6_firstCome_67 n _ _ _ _ _ _ _ b_this _ h_x1 (LJ_n (X := 1) (x := 1) rfl) h_v_a h_v_thrown h_v_found hg) (fun R hq => ?_)
      obtain ⟨c0, c1, c2, c3, c4, c5, c6, c7, c8, c9, c10, c11, c12, c13, c14, c15, c16, c17, c18, c19, c20, c21, c22, c23, c24, c25, c26, c27, c28⟩ := hq
      exact ⟨c0, c1, c2, c3, c4, c5, c6, c7, c8, c9, c10, c11, c12, c13, c14, c15, c16, c17, c18, c19, c20, c21, c22, c23, c24, c25, c26, c27, c28⟩
    · refine lA (EI_add (EI_i (LI_n (X := 107) (x := 107) rfl)) (EI_i h_x3)) rfl hg (fun ha_18 hg => ?_)
      refine lA (EI_i h_x3) rfl hg (fun ha_19 hg => ?_)
      refine lL (LA_upd h_v_found (EI_i h_x3) ha_19 (LA_at h_v_a (EI_add (EI_i (LI_n (X := 107) (x := 107) rfl)) (EI_i h_x3)) ha_18)) hg (fun Fv_16 v_16 h_v_16 hg => ?_)
      refine lA (EI_add (EI_i (LI_n (X := 107) (x := 107) rfl)) (EI_i h_x3)) rfl hg (fun ha_20 hg => ?_)
      refine lL (LA_upd h_v_a (EI_add (EI_i (LI_n (X := 107) (x := 107) rfl)) (EI_i h_x3)) ha_20 (LI_n (X := -1) (x := -1) rfl)) hg (fun Fv_18 v_18 h_v_18 hg => ?_)
      refine lR hg (fun hr_21 hg => ?_)
      refine lJ (ih _ _ _ _ _ _ _ (sX6_found (sX6_a b_this v_18) v_16) _ h_x1 (LI_of (EI_add (EI_i h_x3) (EI_i (LI_n (X := 1) (x := 1) rfl))) hr_21) (LA_cg (Eq.trans (eX6_a_found _ _) (eX6_a_a _ _)) h_v_18) (LI_cg (Eq.trans (eX6_thrown_found _ _) (eX6_thrown_a _ _)) h_v_thrown) (LA_cg (eX6_found_found _ _) h_v_16) hg) (fun R hq => ?_)
      obtain ⟨c0, c1, c2, c3, c4, c5, c6, c7, c8, c9, c10, c11, c12, c13, c14, c15, c16, c17, c18, c19, c20, c21, c22, c23, c24, c25, c26, c27, c28⟩ := hq
      exact ⟨c0, c1, c2, c3, (c4).trans (Eq.trans (eX6_fresh_found _ _) (eX6_fresh_a _ _)), (c5).trans (Eq.trans (eX6_kept_found _ _) (eX6_kept_a _ _)), (c6).trans (Eq.trans (eX6_keptMany_found _ _) (eX6_keptMany_a _ _)), (c7).trans (Eq.trans (eX6_buffer_found _ _) (eX6_buffer_a _ _)), (c8).trans (Eq.trans (eX6_buffered_found _ _) (eX6_buffered_a _ _)), (c9).trans (Eq.trans (eX6_size_found _ _) (eX6_size_a _ _)), (c10).trans (Eq.trans (eX6_at_found _ _) (eX6_at_a _ _)), (c11).trans (Eq.trans (eX6_behind_found _ _) (eX6_behind_a _ _)), (c12).trans (Eq.trans (eX6_kind_found _ _) (eX6_kind_a _ _)), (c13).trans (Eq.trans (eX6_wrong_found _ _) (eX6_wrong_a _ _)), (c14).trans (Eq.trans (eX6_wrongAt_found _ _) (eX6_wrongAt_a _ _)), (c15).trans (Eq.trans (eX6_errorAt_found _ _) (eX6_errorAt_a _ _)), (c16).trans (Eq.trans (eX6_number_found _ _) (eX6_number_a _ _)), (c17).trans (Eq.trans (eX6_best_found _ _) (eX6_best_a _ _)), (c18).trans (Eq.trans (eX6_rentBy_found _ _) (eX6_rentBy_a _ _)), (c19).trans (Eq.trans (eX6_bareBy_found _ _) (eX6_bareBy_a _ _)), (c20).trans (Eq.trans (eX6_aheadBy_found _ _) (eX6_aheadBy_a _ _)), (c21).trans (Eq.trans (eX6_isEdge_found _ _) (eX6_isEdge_a _ _)), (c22).trans (Eq.trans (eX6_tried_found _ _) (eX6_tried_a _ _)), (c23).trans (Eq.trans (eX6_stands_found _ _) (eX6_stands_a _ _)), (c24).trans (Eq.trans (eX6_foundOn_found _ _) (eX6_foundOn_a _ _)), (c25).trans (Eq.trans (eX6_moving_found _ _) (eX6_moving_a _ _)), (c26).trans (Eq.trans (eX6_movingMany_found _ _) (eX6_movingMany_a _ _)), (c27).trans (Eq.trans (eX6_foundIncome_found _ _) (eX6_foundIncome_a _ _)), (c28).trans (Eq.trans (eX6_foundMoves_found _ _) (eX6_foundMoves_a _ _))⟩
set_option maxHeartbeats 4000000 in
set_option maxRecDepth 100000 in
theorem l_X6_firstCome_14 {n : Nat} : ∀ (Ft1 : Int32) (Fx1 : Int64) (t1 : Int) (x1 : Int) (Fv_a : Nat → Int32) (Fv_thrown : Int32) (Fv_found : Nat → Int32) (b_this : BX6) (r : Int × BX6), LI Ft1 t1 → LJ Fx1 x1 → LA Fv_a (pX6_a b_this) → LI Fv_thrown (pX6_thrown b_this) → LA Fv_found (pX6_found b_this) → g_X6_firstCome_14 n t1 x1 b_this = some r → ∃ R, f_X6_firstCome_14 n Ft1 Fx1 Fv_a Fv_thrown Fv_found = some R ∧ LI (R.1) (r.1) ∧ LA (R.2.1) (pX6_a (r.2)) ∧ LI (R.2.2.1) (pX6_thrown (r.2)) ∧ LA (R.2.2.2) (pX6_found (r.2)) ∧ (pX6_fresh (r.2)) = (pX6_fresh b_this) ∧ (pX6_kept (r.2)) = (pX6_kept b_this) ∧ (pX6_keptMany (r.2)) = (pX6_keptMany b_this) ∧ (pX6_buffer (r.2)) = (pX6_buffer b_this) ∧ (pX6_buffered (r.2)) = (pX6_buffered b_this) ∧ (pX6_size (r.2)) = (pX6_size b_this) ∧ (pX6_at (r.2)) = (pX6_at b_this) ∧ (pX6_behind (r.2)) = (pX6_behind b_this) ∧ (pX6_kind (r.2)) = (pX6_kind b_this) ∧ (pX6_wrong (r.2)) = (pX6_wrong b_this) ∧ (pX6_wrongAt (r.2)) = (pX6_wrongAt b_this) ∧ (pX6_errorAt (r.2)) = (pX6_errorAt b_this) ∧ (pX6_number (r.2)) = (pX6_number b_this) ∧ (pX6_best (r.2)) = (pX6_best b_this) ∧ (pX6_rentBy (r.2)) = (pX6_rentBy b_this) ∧ (pX6_bareBy (r.2)) = (pX6_bareBy b_this) ∧ (pX6_aheadBy (r.2)) = (pX6_aheadBy b_this) ∧ (pX6_isEdge (r.2)) = (pX6_isEdge b_this) ∧ (pX6_tried (r.2)) = (pX6_tried b_this) ∧ (pX6_stands (r.2)) = (pX6_stands b_this) ∧ (pX6_foundOn (r.2)) = (pX6_foundOn b_this) ∧ (pX6_moving (r.2)) = (pX6_moving b_this) ∧ (pX6_movingMany (r.2)) = (pX6_movingMany b_this) ∧ (pX6_foundIncome (r.2)) = (pX6_foundIncome b_this) ∧ (pX6_foundMoves (r.2)) = (pX6_foundMoves b_this) := by
  intro Ft1 Fx1 t1 x1 Fv_a Fv_thrown Fv_found b_this r h_t1 h_x1 h_v_a h_v_thrown h_v_found hg
  unfold g_X6_firstCome_14 at hg
  unfold f_X6_firstCome_14
  refine lI (LI_le h_t1 (LI_n (X := 0) (x := 0) rfl)) hg (fun hc hg => ?_) (fun hc hg => ?_)
  · refine lJ (l_X6_firstCome_28 n _ _ _ _ _ _ _ (sX6_thrown b_this t1) _ h_x1 (LI_n (X := 0) (x := 0) rfl) (LA_cg (eX6_a_thrown _ _) h_v_a) (LI_cg (eX6_thrown_thrown _ _) h_t1) (LA_cg (eX6_found_thrown _ _) h_v_found) hg) (fun R hq => ?_)
    obtain ⟨c0, c1, c2, c3, c4, c5, c6, c7, c8, c9, c10, c11, c12, c13, c14, c15, c16, c17, c18, c19, c20, c21, c22, c23, c24, c25, c26, c27, c28⟩ := hq
    exact ⟨c0, c1, c2, c3, (c4).trans (eX6_fresh_thrown _ _), (c5).trans (eX6_kept_thrown _ _), (c6).trans (eX6_keptMany_thrown _ _), (c7).trans (eX6_buffer_thrown _ _), (c8).trans (eX6_buffered_thrown _ _), (c9).trans (eX6_size_thrown _ _), (c10).trans (eX6_at_thrown _ _), (c11).trans (eX6_behind_thrown _ _), (c12).trans (eX6_kind_thrown _ _), (c13).trans (eX6_wrong_thrown _ _), (c14).trans (eX6_wrongAt_thrown _ _), (c15).trans (eX6_errorAt_thrown _ _), (c16).trans (eX6_number_thrown _ _), (c17).trans (eX6_best_thrown _ _), (c18).trans (eX6_rentBy_thrown _ _), (c19).trans (eX6_bareBy_thrown _ _), (c20).trans (eX6_aheadBy_thrown _ _), (c21).trans (eX6_isEdge_thrown _ _), (c22).trans (eX6_tried_thrown _ _), (c23).trans (eX6_stands_thrown _ _), (c24).trans (eX6_foundOn_thrown _ _), (c25).trans (eX6_moving_thrown _ _), (c26).trans (eX6_movingMany_thrown _ _), (c27).trans (eX6_foundIncome_thrown _ _), (c28).trans (eX6_foundMoves_thrown _ _)⟩
  · cases hg
    exact ⟨_, rfl, (LI_n (X := 0) (x := 0) rfl), (LA_cg (eX6_a_thrown _ _) h_v_a), (LI_cg (eX6_thrown_thrown _ _) h_t1), (LA_cg (eX6_found_thrown _ _) h_v_found), (eX6_fresh_thrown _ _), (eX6_kept_thrown _ _), (eX6_keptMany_thrown _ _), (eX6_buffer_thrown _ _), (eX6_buffered_thrown _ _), (eX6_size_thrown _ _), (eX6_at_thrown _ _), (eX6_behind_thrown _ _), (eX6_kind_thrown _ _), (eX6_wrong_thrown _ _), (eX6_wrongAt_thrown _ _), (eX6_errorAt_thrown _ _), (eX6_number_thrown _ _), (eX6_best_thrown _ _), (eX6_rentBy_thrown _ _), (eX6_bareBy_thrown _ _), (eX6_aheadBy_thrown _ _), (eX6_isEdge_thrown _ _), (eX6_tried_thrown _ _), (eX6_stands_thrown _ _), (eX6_foundOn_thrown _ _), (eX6_moving_thrown _ _), (eX6_movingMany_thrown _ _), (eX6_foundIncome_thrown _ _), (eX6_foundMoves_thrown _ _)⟩
set_option maxHeartbeats 4000000 in
set_option maxRecDepth 100000 in
theorem l_X6_firstCome {n : Nat} : ∀ (Fx1 : Int64) (x1 : Int) (Fv_a : Nat → Int32) (Fv_thrown : Int32) (Fv_found : Nat → Int32) (b_this : BX6) (r : Int × BX6), LJ Fx1 x1 → LA Fv_a (pX6_a b_this) → LI Fv_thrown (pX6_thrown b_this) → LA Fv_found (pX6_found b_this) → g_X6_firstCome n b_this x1 = some r → ∃ R, f_X6_firstCome n Fv_a Fv_thrown Fv_found Fx1 = some R ∧ LI (R.1) (r.1) ∧ LA (R.2.1) (pX6_a (r.2)) ∧ LI (R.2.2.1) (pX6_thrown (r.2)) ∧ LA (R.2.2.2) (pX6_found (r.2)) ∧ (pX6_fresh (r.2)) = (pX6_fresh b_this) ∧ (pX6_kept (r.2)) = (pX6_kept b_this) ∧ (pX6_keptMany (r.2)) = (pX6_keptMany b_this) ∧ (pX6_buffer (r.2)) = (pX6_buffer b_this) ∧ (pX6_buffered (r.2)) = (pX6_buffered b_this) ∧ (pX6_size (r.2)) = (pX6_size b_this) ∧ (pX6_at (r.2)) = (pX6_at b_this) ∧ (pX6_behind (r.2)) = (pX6_behind b_this) ∧ (pX6_kind (r.2)) = (pX6_kind b_this) ∧ (pX6_wrong (r.2)) = (pX6_wrong b_this) ∧ (pX6_wrongAt (r.2)) = (pX6_wrongAt b_this) ∧ (pX6_errorAt (r.2)) = (pX6_errorAt b_this) ∧ (pX6_number (r.2)) = (pX6_number b_this) ∧ (pX6_best (r.2)) = (pX6_best b_this) ∧ (pX6_rentBy (r.2)) = (pX6_rentBy b_this) ∧ (pX6_bareBy (r.2)) = (pX6_bareBy b_this) ∧ (pX6_aheadBy (r.2)) = (pX6_aheadBy b_this) ∧ (pX6_isEdge (r.2)) = (pX6_isEdge b_this) ∧ (pX6_tried (r.2)) = (pX6_tried b_this) ∧ (pX6_stands (r.2)) = (pX6_stands b_this) ∧ (pX6_foundOn (r.2)) = (pX6_foundOn b_this) ∧ (pX6_moving (r.2)) = (pX6_moving b_this) ∧ (pX6_movingMany (r.2)) = (pX6_movingMany b_this) ∧ (pX6_foundIncome (r.2)) = (pX6_foundIncome b_this) ∧ (pX6_foundMoves (r.2)) = (pX6_foundMoves b_this) := by
  intro Fx1 x1 Fv_a Fv_thrown Fv_found b_this r h_x1 h_v_a h_v_thrown h_v_found hg
  unfold g_X6_firstCome at hg
  unfold f_X6_firstCome
  refine lB_1_1 (fun r hr => l_X6_isOrder  _ _ _ b_this r h_x1 h_v_a hr) hg (fun Fr_19 r_19 hq hg => ?_)
  have q_22 := hq
  refine lI (LI_eq q_22 (LI_n (X := 0) (x := 0) rfl)) hg (fun hc hg => ?_) (fun hc hg => ?_)
  · refine lJ (l_X6_firstCome_14 _ _ _ _ _ _ _ b_this _ (LI_n (X := 1) (x := 1) rfl) h_x1 h_v_a h_v_thrown h_v_found hg) (fun R hq => ?_)
    obtain ⟨c0, c1, c2, c3, c4, c5, c6, c7, c8, c9, c10, c11, c12, c13, c14, c15, c16, c17, c18, c19, c20, c21, c22, c23, c24, c25, c26, c27, c28⟩ := hq
    exact ⟨c0, c1, c2, c3, c4, c5, c6, c7, c8, c9, c10, c11, c12, c13, c14, c15, c16, c17, c18, c19, c20, c21, c22, c23, c24, c25, c26, c27, c28⟩
  · refine lJ (l_X6_firstCome_14 _ _ _ _ _ _ _ b_this _ (LI_n (X := 0) (x := 0) rfl) h_x1 h_v_a h_v_thrown h_v_found hg) (fun R hq => ?_)
    obtain ⟨c0, c1, c2, c3, c4, c5, c6, c7, c8, c9, c10, c11, c12, c13, c14, c15, c16, c17, c18, c19, c20, c21, c22, c23, c24, c25, c26, c27, c28⟩ := hq
    exact ⟨c0, c1, c2, c3, c4, c5, c6, c7, c8, c9, c10, c11, c12, c13, c14, c15, c16, c17, c18, c19, c20, c21, c22, c23, c24, c25, c26, c27, c28⟩
set_option maxHeartbeats 4000000 in
set_option maxRecDepth 100000 in
theorem l_X6_traderValue_14 : ∀ (Ft1 : Int32) (Fx1 : Int32) (Fx2 : Int32) (t1 : Int) (x1 : Int) (x2 : Int) (Fv_a : Nat → Int32) (Fv_thrown : Int32) (b_this : BX6) (r : Int × BX6), LI Ft1 t1 → LI Fx1 x1 → LI Fx2 x2 → LA Fv_a (pX6_a b_this) → LI Fv_thrown (pX6_thrown b_this) → g_X6_traderValue_14 t1 x1 x2 b_this = some r → ∃ R, f_X6_traderValue_14 Ft1 Fx1 Fx2 Fv_a Fv_thrown = some R ∧ LI (R.1) (r.1) ∧ LI (R.2) (pX6_thrown (r.2)) ∧ (pX6_a (r.2)) = (pX6_a b_this) ∧ (pX6_fresh (r.2)) = (pX6_fresh b_this) ∧ (pX6_kept (r.2)) = (pX6_kept b_this) ∧ (pX6_keptMany (r.2)) = (pX6_keptMany b_this) ∧ (pX6_buffer (r.2)) = (pX6_buffer b_this) ∧ (pX6_buffered (r.2)) = (pX6_buffered b_this) ∧ (pX6_size (r.2)) = (pX6_size b_this) ∧ (pX6_at (r.2)) = (pX6_at b_this) ∧ (pX6_behind (r.2)) = (pX6_behind b_this) ∧ (pX6_kind (r.2)) = (pX6_kind b_this) ∧ (pX6_wrong (r.2)) = (pX6_wrong b_this) ∧ (pX6_wrongAt (r.2)) = (pX6_wrongAt b_this) ∧ (pX6_errorAt (r.2)) = (pX6_errorAt b_this) ∧ (pX6_number (r.2)) = (pX6_number b_this) ∧ (pX6_best (r.2)) = (pX6_best b_this) ∧ (pX6_rentBy (r.2)) = (pX6_rentBy b_this) ∧ (pX6_bareBy (r.2)) = (pX6_bareBy b_this) ∧ (pX6_aheadBy (r.2)) = (pX6_aheadBy b_this) ∧ (pX6_isEdge (r.2)) = (pX6_isEdge b_this) ∧ (pX6_tried (r.2)) = (pX6_tried b_this) ∧ (pX6_stands (r.2)) = (pX6_stands b_this) ∧ (pX6_found (r.2)) = (pX6_found b_this) ∧ (pX6_foundOn (r.2)) = (pX6_foundOn b_this) ∧ (pX6_moving (r.2)) = (pX6_moving b_this) ∧ (pX6_movingMany (r.2)) = (pX6_movingMany b_this) ∧ (pX6_foundIncome (r.2)) = (pX6_foundIncome b_this) ∧ (pX6_foundMoves (r.2)) = (pX6_foundMoves b_this) := by
  intro Ft1 Fx1 Fx2 t1 x1 x2 Fv_a Fv_thrown b_this r h_t1 h_x1 h_x2 h_v_a h_v_thrown hg
  unfold g_X6_traderValue_14 at hg
  unfold f_X6_traderValue_14
  refine lI (LI_le h_t1 (LI_n (X := 0) (x := 0) rfl)) hg (fun hc hg => ?_) (fun hc hg => ?_)
  · refine lA (EI_add (EI_i h_x1) (EI_i h_x2)) rfl hg (fun ha_1 hg => ?_)
    cases hg
    exact ⟨_, rfl, (LA_at h_v_a (EI_add (EI_i h_x1) (EI_i h_x2)) ha_1), (LI_cg (eX6_thrown_thrown _ _) h_t1), (eX6_a_thrown _ _), (eX6_fresh_thrown _ _), (eX6_kept_thrown _ _), (eX6_keptMany_thrown _ _), (eX6_buffer_thrown _ _), (eX6_buffered_thrown _ _), (eX6_size_thrown _ _), (eX6_at_thrown _ _), (eX6_behind_thrown _ _), (eX6_kind_thrown _ _), (eX6_wrong_thrown _ _), (eX6_wrongAt_thrown _ _), (eX6_errorAt_thrown _ _), (eX6_number_thrown _ _), (eX6_best_thrown _ _), (eX6_rentBy_thrown _ _), (eX6_bareBy_thrown _ _), (eX6_aheadBy_thrown _ _), (eX6_isEdge_thrown _ _), (eX6_tried_thrown _ _), (eX6_stands_thrown _ _), (eX6_found_thrown _ _), (eX6_foundOn_thrown _ _), (eX6_moving_thrown _ _), (eX6_movingMany_thrown _ _), (eX6_foundIncome_thrown _ _), (eX6_foundMoves_thrown _ _)⟩
  · cases hg
    exact ⟨_, rfl, (LI_n (X := 0) (x := 0) rfl), (LI_cg (eX6_thrown_thrown _ _) h_t1), (eX6_a_thrown _ _), (eX6_fresh_thrown _ _), (eX6_kept_thrown _ _), (eX6_keptMany_thrown _ _), (eX6_buffer_thrown _ _), (eX6_buffered_thrown _ _), (eX6_size_thrown _ _), (eX6_at_thrown _ _), (eX6_behind_thrown _ _), (eX6_kind_thrown _ _), (eX6_wrong_thrown _ _), (eX6_wrongAt_thrown _ _), (eX6_errorAt_thrown _ _), (eX6_number_thrown _ _), (eX6_best_thrown _ _), (eX6_rentBy_thrown _ _), (eX6_bareBy_thrown _ _), (eX6_aheadBy_thrown _ _), (eX6_isEdge_thrown _ _), (eX6_tried_thrown _ _), (eX6_stands_thrown _ _), (eX6_found_thrown _ _), (eX6_foundOn_thrown _ _), (eX6_moving_thrown _ _), (eX6_movingMany_thrown _ _), (eX6_foundIncome_thrown _ _), (eX6_foundMoves_thrown _ _)⟩
set_option maxHeartbeats 4000000 in
set_option maxRecDepth 100000 in
theorem l_X6_traderValue : ∀ (Fx1 : Int32) (Fx2 : Int32) (x1 : Int) (x2 : Int) (Fv_a : Nat → Int32) (Fv_thrown : Int32) (b_this : BX6) (r : Int × BX6), LI Fx1 x1 → LI Fx2 x2 → LA Fv_a (pX6_a b_this) → LI Fv_thrown (pX6_thrown b_this) → g_X6_traderValue b_this x1 x2 = some r → ∃ R, f_X6_traderValue Fv_a Fv_thrown Fx1 Fx2 = some R ∧ LI (R.1) (r.1) ∧ LI (R.2) (pX6_thrown (r.2)) ∧ (pX6_a (r.2)) = (pX6_a b_this) ∧ (pX6_fresh (r.2)) = (pX6_fresh b_this) ∧ (pX6_kept (r.2)) = (pX6_kept b_this) ∧ (pX6_keptMany (r.2)) = (pX6_keptMany b_this) ∧ (pX6_buffer (r.2)) = (pX6_buffer b_this) ∧ (pX6_buffered (r.2)) = (pX6_buffered b_this) ∧ (pX6_size (r.2)) = (pX6_size b_this) ∧ (pX6_at (r.2)) = (pX6_at b_this) ∧ (pX6_behind (r.2)) = (pX6_behind b_this) ∧ (pX6_kind (r.2)) = (pX6_kind b_this) ∧ (pX6_wrong (r.2)) = (pX6_wrong b_this) ∧ (pX6_wrongAt (r.2)) = (pX6_wrongAt b_this) ∧ (pX6_errorAt (r.2)) = (pX6_errorAt b_this) ∧ (pX6_number (r.2)) = (pX6_number b_this) ∧ (pX6_best (r.2)) = (pX6_best b_this) ∧ (pX6_rentBy (r.2)) = (pX6_rentBy b_this) ∧ (pX6_bareBy (r.2)) = (pX6_bareBy b_this) ∧ (pX6_aheadBy (r.2)) = (pX6_aheadBy b_this) ∧ (pX6_isEdge (r.2)) = (pX6_isEdge b_this) ∧ (pX6_tried (r.2)) = (pX6_tried b_this) ∧ (pX6_stands (r.2)) = (pX6_stands b_this) ∧ (pX6_found (r.2)) = (pX6_found b_this) ∧ (pX6_foundOn (r.2)) = (pX6_foundOn b_this) ∧ (pX6_moving (r.2)) = (pX6_moving b_this) ∧ (pX6_movingMany (r.2)) = (pX6_movingMany b_this) ∧ (pX6_foundIncome (r.2)) = (pX6_foundIncome b_this) ∧ (pX6_foundMoves (r.2)) = (pX6_foundMoves b_this) := by
  intro Fx1 Fx2 x1 x2 Fv_a Fv_thrown b_this r h_x1 h_x2 h_v_a h_v_thrown hg
  unfold g_X6_traderValue at hg
  unfold f_X6_traderValue
  refine lB_1_1 (fun r hr => l_X6_isTrader  _ _ _ b_this r h_x2 h_v_a hr) hg (fun Fr_2 r_2 hq hg => ?_)
  have q_2 := hq
  refine lI (LI_eq q_2 (LI_n (X := 0) (x := 0) rfl)) hg (fun hc hg => ?_) (fun hc hg => ?_)
  · refine lJ (l_X6_traderValue_14 _ _ _ _ _ _ _ _ b_this _ (LI_n (X := 1) (x := 1) rfl) h_x1 h_x2 h_v_a h_v_thrown hg) (fun R hq => ?_)
    obtain ⟨c0, c1, c2, c3, c4, c5, c6, c7, c8, c9, c10, c11, c12, c13, c14, c15, c16, c17, c18, c19, c20, c21, c22, c23, c24, c25, c26, c27, c28⟩ := hq
    exact ⟨c0, c1, c2, c3, c4, c5, c6, c7, c8, c9, c10, c11, c12, c13, c14, c15, c16, c17, c18, c19, c20, c21, c22, c23, c24, c25, c26, c27, c28⟩
  · refine lJ (l_X6_traderValue_14 _ _ _ _ _ _ _ _ b_this _ (LI_n (X := 0) (x := 0) rfl) h_x1 h_x2 h_v_a h_v_thrown hg) (fun R hq => ?_)
    obtain ⟨c0, c1, c2, c3, c4, c5, c6, c7, c8, c9, c10, c11, c12, c13, c14, c15, c16, c17, c18, c19, c20, c21, c22, c23, c24, c25, c26, c27, c28⟩ := hq
    exact ⟨c0, c1, c2, c3, c4, c5, c6, c7, c8, c9, c10, c11, c12, c13, c14, c15, c16, c17, c18, c19, c20, c21, c22, c23, c24, c25, c26, c27, c28⟩
set_option maxHeartbeats 4000000 in
set_option maxRecDepth 100000 in
theorem l_X6_frontage : ∀ (Fx1 : Int32) (x1 : Int) (Fv_a : Nat → Int32) (Fv_thrown : Int32) (b_this : BX6) (r : Int × BX6), LI Fx1 x1 → LA Fv_a (pX6_a b_this) → LI Fv_thrown (pX6_thrown b_this) → g_X6_frontage b_this x1 = some r → ∃ R, f_X6_frontage Fv_a Fv_thrown Fx1 = some R ∧ LI (R.1) (r.1) ∧ LI (R.2) (pX6_thrown (r.2)) ∧ (pX6_a (r.2)) = (pX6_a b_this) ∧ (pX6_fresh (r.2)) = (pX6_fresh b_this) ∧ (pX6_kept (r.2)) = (pX6_kept b_this) ∧ (pX6_keptMany (r.2)) = (pX6_keptMany b_this) ∧ (pX6_buffer (r.2)) = (pX6_buffer b_this) ∧ (pX6_buffered (r.2)) = (pX6_buffered b_this) ∧ (pX6_size (r.2)) = (pX6_size b_this) ∧ (pX6_at (r.2)) = (pX6_at b_this) ∧ (pX6_behind (r.2)) = (pX6_behind b_this) ∧ (pX6_kind (r.2)) = (pX6_kind b_this) ∧ (pX6_wrong (r.2)) = (pX6_wrong b_this) ∧ (pX6_wrongAt (r.2)) = (pX6_wrongAt b_this) ∧ (pX6_errorAt (r.2)) = (pX6_errorAt b_this) ∧ (pX6_number (r.2)) = (pX6_number b_this) ∧ (pX6_best (r.2)) = (pX6_best b_this) ∧ (pX6_rentBy (r.2)) = (pX6_rentBy b_this) ∧ (pX6_bareBy (r.2)) = (pX6_bareBy b_this) ∧ (pX6_aheadBy (r.2)) = (pX6_aheadBy b_this) ∧ (pX6_isEdge (r.2)) = (pX6_isEdge b_this) ∧ (pX6_tried (r.2)) = (pX6_tried b_this) ∧ (pX6_stands (r.2)) = (pX6_stands b_this) ∧ (pX6_found (r.2)) = (pX6_found b_this) ∧ (pX6_foundOn (r.2)) = (pX6_foundOn b_this) ∧ (pX6_moving (r.2)) = (pX6_moving b_this) ∧ (pX6_movingMany (r.2)) = (pX6_movingMany b_this) ∧ (pX6_foundIncome (r.2)) = (pX6_foundIncome b_this) ∧ (pX6_foundMoves (r.2)) = (pX6_foundMoves b_this) := by
  intro Fx1 x1 Fv_a Fv_thrown b_this r h_x1 h_v_a h_v_thrown hg
  unfold g_X6_frontage at hg
  unfold f_X6_frontage
  refine lB_2_2 (fun r hr => l_X6_traderValue  _ _ _ _ _ _ b_this r (LI_n (X := 83) (x := 83) rfl) h_x1 h_v_a h_v_thrown hr) hg (fun Fr_1 Fv_2 r_1 b_1 hq hg => ?_)
  obtain ⟨q_2, q_3, q_4, q_5, q_6, q_7, q_8, q_9, q_10, q_11, q_12, q_13, q_14, q_15, q_16, q_17, q_18, q_19, q_20, q_21, q_22, q_23, q_24, q_25, q_26, q_27, q_28, q_29, q_30⟩ := hq
  have hl_31 := (LA_cg q_4 h_v_a)
  cases hg
  exact ⟨_, rfl, q_2, q_3, q_4, q_5, q_6, q_7, q_8, q_9, q_10, q_11, q_12, q_13, q_14, q_15, q_16, q_17, q_18, q_19, q_20, q_21, q_22, q_23, q_24, q_25, q_26, q_27, q_28, q_29, q_30⟩
