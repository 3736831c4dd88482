set_option maxHeartbeats 4000000 in
set_option maxRecDepth 100000 in
theorem l_X6_pitchCount : ∀ (Fv_a : Nat → Int32) (Fv_thrown : Int32) (b_this : BX6) (r : Int × BX6), LA Fv_a (pX6_a b_this) → LI Fv_thrown (pX6_thrown b_this) → g_X6_pitchCount b_this = some r → ∃ R, f_X6_pitchCount Fv_a Fv_thrown = some R ∧ LI (R.1) (r.1) ∧ LI (R.2) (pX6_thrown (r.2)) ∧ (pX6_a (r.2)) = (pX6_a b_this) ∧ (pX6_fresh (r.2)) = (pX6_fresh b_this) ∧ (pX6_kept (r.2)) = (pX6_kept b_this) ∧ (pX6_keptMany (r.2)) = (pX6_keptMany b_this) ∧ (pX6_buffer (r.2)) = (pX6_buffer b_this) ∧ (pX6_buffered (r.2)) = (pX6_buffered b_this) ∧ (pX6_size (r.2)) = (pX6_size b_this) ∧ (pX6_at (r.2)) = (pX6_at b_this) ∧ (pX6_behind (r.2)) = (pX6_behind b_this) ∧ (pX6_kind (r.2)) = (pX6_kind b_this) ∧ (pX6_wrong (r.2)) = (pX6_wrong b_this) ∧ (pX6_wrongAt (r.2)) = (pX6_wrongAt b_this) ∧ (pX6_errorAt (r.2)) = (pX6_errorAt b_this) ∧ (pX6_number (r.2)) = (pX6_number b_this) ∧ (pX6_best (r.2)) = (pX6_best b_this) ∧ (pX6_rentBy (r.2)) = (pX6_rentBy b_this) ∧ (pX6_bareBy (r.2)) = (pX6_bareBy b_this) ∧ (pX6_aheadBy (r.2)) = (pX6_aheadBy b_this) ∧ (pX6_isEdge (r.2)) = (pX6_isEdge b_this) ∧ (pX6_tried (r.2)) = (pX6_tried b_this) ∧ (pX6_stands (r.2)) = (pX6_stands b_this) ∧ (pX6_found (r.2)) = (pX6_found b_this) ∧ (pX6_foundOn (r.2)) = (pX6_foundOn b_this) ∧ (pX6_moving (r.2)) = (pX6_moving b_this) ∧ (pX6_movingMany (r.2)) = (pX6_movingMany b_this) ∧ (pX6_foundIncome (r.2)) = (pX6_foundIncome b_this) ∧ (pX6_foundMoves (r.2)) = (pX6_foundMoves b_this) := by
  intro Fv_a Fv_thrown b_this r h_v_a h_v_thrown hg
  unfold g_X6_pitchCount at hg
  unfold f_X6_pitchCount
  refine lA (EI_i (LI_n (X := 1) (x := 1) rfl)) rfl hg (fun ha_1 hg => ?_)
  cases hg
  exact ⟨_, rfl, (LA_at h_v_a (EI_i (LI_n (X := 1) (x := 1) rfl)) ha_1), (LI_cg (eX6_thrown_thrown _ _) (LI_n (X := 0) (x := 0) rfl)), (eX6_a_thrown _ _), (eX6_fresh_thrown _ _), (eX6_kept_thrown _ _), (eX6_keptMany_thrown _ _), (eX6_buffer_thrown _ _), (eX6_buffered_thrown _ _), (eX6_size_thrown _ _), (eX6_at_thrown _ _), (eX6_behind_thrown _ _), (eX6_kind_thrown _ _), (eX6_wrong_thrown _ _), (eX6_wrongAt_thrown _ _), (eX6_errorAt_thrown _ _), (eX6_number_thrown _ _), (eX6_best_thrown _ _), (eX6_rentBy_thrown _ _), (eX6_bareBy_thrown _ _), (eX6_aheadBy_thrown _ _), (eX6_isEdge_thrown _ _), (eX6_tried_thrown _ _), (eX6_stands_thrown _ _), (eX6_found_thrown _ _), (eX6_foundOn_thrown _ _), (eX6_moving_thrown _ _), (eX6_movingMany_thrown _ _), (eX6_foundIncome_thrown _ _), (eX6_foundMoves_thrown _ _)⟩
set_option maxHeartbeats 4000000 in
set_option maxRecDepth 100000 in
theorem l_X6_place_35 {n : Nat} : ∀ (Ft1 : Int32) (Fx1 : Int32) (Fx2 : Int32) (t1 : Int) (x1 : Int) (x2 : Int) (Fv_a : Nat → Int32) (Fv_kept : Nat → Int32) (Fv_keptMany : Int32) (Fv_thrown : Int32) (b_this : BX6) (r : Int × BX6), LI Ft1 t1 → LI Fx1 x1 → LI Fx2 x2 → LA Fv_a (pX6_a b_this) → LA Fv_kept (pX6_kept b_this) → LI Fv_keptMany (pX6_keptMany b_this) → LI Fv_thrown (pX6_thrown b_this) → g_X6_place_35 n t1 x1 x2 b_this = some r → ∃ R, f_X6_place_35 n Ft1 Fx1 Fx2 Fv_a Fv_kept Fv_keptMany Fv_thrown = some R ∧ LI (R.1) (r.1) ∧ LA (R.2.1) (pX6_a (r.2)) ∧ LA (R.2.2.1) (pX6_kept (r.2)) ∧ LI (R.2.2.2.1) (pX6_keptMany (r.2)) ∧ LI (R.2.2.2.2) (pX6_thrown (r.2)) ∧ (pX6_fresh (r.2)) = (pX6_fresh b_this) ∧ (pX6_buffer (r.2)) = (pX6_buffer b_this) ∧ (pX6_buffered (r.2)) = (pX6_buffered b_this) ∧ (pX6_size (r.2)) = (pX6_size b_this) ∧ (pX6_at (r.2)) = (pX6_at b_this) ∧ (pX6_behind (r.2)) = (pX6_behind b_this) ∧ (pX6_kind (r.2)) = (pX6_kind b_this) ∧ (pX6_wrong (r.2)) = (pX6_wrong b_this) ∧ (pX6_wrongAt (r.2)) = (pX6_wrongAt b_this) ∧ (pX6_errorAt (r.2)) = (pX6_errorAt b_this) ∧ (pX6_number (r.2)) = (pX6_number b_this) ∧ (pX6_best (r.2)) = (pX6_best b_this) ∧ (pX6_rentBy (r.2)) = (pX6_rentBy b_this) ∧ (pX6_bareBy (r.2)) = (pX6_bareBy b_this) ∧ (pX6_aheadBy (r.2)) = (pX6_aheadBy b_this) ∧ (pX6_isEdge (r.2)) = (pX6_isEdge b_this) ∧ (pX6_tried (r.2)) = (pX6_tried b_this) ∧ (pX6_stands (r.2)) = (pX6_stands b_this) ∧ (pX6_found (r.2)) = (pX6_found b_this) ∧ (pX6_foundOn (r.2)) = (pX6_foundOn b_this) ∧ (pX6_moving (r.2)) = (pX6_moving b_this) ∧ (pX6_movingMany (r.2)) = (pX6_movingMany b_this) ∧ (pX6_foundIncome (r.2)) = (pX6_foundIncome b_this) ∧ (pX6_foundMoves (r.2)) = (pX6_foundMoves b_this) := by
  intro Ft1 Fx1 Fx2 t1 x1 x2 Fv_a Fv_kept Fv_keptMany Fv_thrown b_this r h_t1 h_x1 h_x2 h_v_a h_v_kept h_v_keptMany h_v_thrown hg
  unfold g_X6_place_35 at hg
  unfold f_X6_place_35
  refine lI (LI_le h_t1 (LI_n (X := 0) (x := 0) rfl)) hg (fun hc hg => ?_) (fun hc hg => ?_)
  · refine lB_2_1 (fun r hr => l_X6_keeps  _ _ _ (sX6_thrown b_this t1) r (LA_cg (eX6_a_thrown _ _) h_v_a) (LA_cg (eX6_kept_thrown _ _) h_v_kept) (LI_cg (eX6_keptMany_thrown _ _) h_v_keptMany) hr) hg (fun Fv_1 Fv_2 b_1 hq hg => ?_)
    obtain ⟨q_2, q_3, q_4, q_5, q_6, q_7, q_8, q_9, q_10, q_11, q_12, q_13, q_14, q_15, q_16, q_17, q_18, q_19, q_20, q_21, q_22, q_23, q_24, q_25, q_26, q_27, q_28, q_29⟩ := hq
    have qe_30 := Eq.trans q_4 (eX6_a_thrown _ _)
    have qe_31 := Eq.trans q_5 (eX6_fresh_thrown _ _)
    have qe_32 := Eq.trans q_6 (eX6_thrown_thrown _ _)
    have qe_33 := Eq.trans q_7 (eX6_buffer_thrown _ _)
    have qe_34 := Eq.trans q_8 (eX6_buffered_thrown _ _)
    have qe_35 := Eq.trans q_9 (eX6_size_thrown _ _)
    have qe_36 := Eq.trans q_10 (eX6_at_thrown _ _)
    have qe_37 := Eq.trans q_11 (eX6_behind_thrown _ _)
    have qe_38 := Eq.trans q_12 (eX6_kind_thrown _ _)
    have qe_39 := Eq.trans q_13 (eX6_wrong_thrown _ _)
    have qe_40 := Eq.trans q_14 (eX6_wrongAt_thrown _ _)
    have qe_41 := Eq.trans q_15 (eX6_errorAt_thrown _ _)
    have qe_42 := Eq.trans q_16 (eX6_number_thrown _ _)
    have qe_43 := Eq.trans q_17 (eX6_best_thrown _ _)
    have qe_44 := Eq.trans q_18 (eX6_rentBy_thrown _ _)
    have qe_45 := Eq.trans q_19 (eX6_bareBy_thrown _ _)
    have qe_46 := Eq.trans q_20 (eX6_aheadBy_thrown _ _)
    have qe_47 := Eq.trans q_21 (eX6_isEdge_thrown _ _)
    have qe_48 := Eq.trans q_22 (eX6_tried_thrown _ _)
    have qe_49 := Eq.trans q_23 (eX6_stands_thrown _ _)
    have qe_50 := Eq.trans q_24 (eX6_found_thrown _ _)
    have qe_51 := Eq.trans q_25 (eX6_foundOn_thrown _ _)
    have qe_52 := Eq.trans q_26 (eX6_moving_thrown _ _)
    have qe_53 := Eq.trans q_27 (eX6_movingMany_thrown _ _)
    have qe_54 := Eq.trans q_28 (eX6_foundIncome_thrown _ _)
    have qe_55 := Eq.trans q_29 (eX6_foundMoves_thrown _ _)
    have hl_56 := (LA_cg qe_30 h_v_a)
    have hl_57 := (LI_cg qe_32 h_t1)
    refine lA (EI_add (EI_i (LI_n (X := 107) (x := 107) rfl)) (EI_i h_x1)) rfl hg (fun ha_58 hg => ?_)
    refine lL (LA_upd hl_56 (EI_add (EI_i (LI_n (X := 107) (x := 107) rfl)) (EI_i h_x1)) ha_58 h_x2) hg (fun Fv_5 v_5 h_v_5 hg => ?_)
    refine lB_1_1 (fun r hr => l_X6_rentOf  _ _ _ _ _ (sX6_a b_1 v_5) r h_x1 h_x2 (LA_cg (eX6_a_a _ _) h_v_5) hr) hg (fun Fr_6 r_6 hq hg => ?_)
    have q_59 := hq
    cases hg
    exact ⟨_, rfl, q_59, (LA_cg (eX6_a_a _ _) h_v_5), (LA_cg (eX6_kept_a _ _) q_2), (LI_cg (eX6_keptMany_a _ _) q_3), (LI_cg (eX6_thrown_a _ _) hl_57), (Eq.trans (eX6_fresh_a _ _) qe_31), (Eq.trans (eX6_buffer_a _ _) qe_33), (Eq.trans (eX6_buffered_a _ _) qe_34), (Eq.trans (eX6_size_a _ _) qe_35), (Eq.trans (eX6_at_a _ _) qe_36), (Eq.trans (eX6_behind_a _ _) qe_37), (Eq.trans (eX6_kind_a _ _) qe_38), (Eq.trans (eX6_wrong_a _ _) qe_39), (Eq.trans (eX6_wrongAt_a _ _) qe_40), (Eq.trans (eX6_errorAt_a _ _) qe_41), (Eq.trans (eX6_number_a _ _) qe_42), (Eq.trans (eX6_best_a _ _) qe_43), (Eq.trans (eX6_rentBy_a _ _) qe_44), (Eq.trans (eX6_bareBy_a _ _) qe_45), (Eq.trans (eX6_aheadBy_a _ _) qe_46), (Eq.trans (eX6_isEdge_a _ _) qe_47), (Eq.trans (eX6_tried_a _ _) qe_48), (Eq.trans (eX6_stands_a _ _) qe_49), (Eq.trans (eX6_found_a _ _) qe_50), (Eq.trans (eX6_foundOn_a _ _) qe_51), (Eq.trans (eX6_moving_a _ _) qe_52), (Eq.trans (eX6_movingMany_a _ _) qe_53), (Eq.trans (eX6_foundIncome_a _ _) qe_54), (Eq.trans (eX6_foundMoves_a _ _) qe_55)⟩
  · cases hg
    exact ⟨_, rfl, (LI_n (X := 0) (x := 0) rfl), (LA_cg (eX6_a_thrown _ _) h_v_a), (LA_cg (eX6_kept_thrown _ _) h_v_kept), (LI_cg (eX6_keptMany_thrown _ _) h_v_keptMany), (LI_cg (eX6_thrown_thrown _ _) h_t1), (eX6_fresh_thrown _ _), (eX6_buffer_thrown _ _), (eX6_buffered_thrown _ _), (eX6_size_thrown _ _), (eX6_at_thrown _ _), (eX6_behind_thrown _ _), (eX6_kind_thrown _ _), (eX6_wrong_thrown _ _), (eX6_wrongAt_thrown _ _), (eX6_errorAt_thrown _ _), (eX6_number_thrown _ _), (eX6_best_thrown _ _), (eX6_rentBy_thrown _ _), (eX6_bareBy_thrown _ _), (eX6_aheadBy_thrown _ _), (eX6_isEdge_thrown _ _), (eX6_tried_thrown _ _), (eX6_stands_thrown _ _), (eX6_found_thrown _ _), (eX6_foundOn_thrown _ _), (eX6_moving_thrown _ _), (eX6_movingMany_thrown _ _), (eX6_foundIncome_thrown _ _), (eX6_foundMoves_thrown _ _)⟩
set_option maxHeartbeats 4000000 in
set_option maxRecDepth 100000 in
theorem l_X6_place_17 {n : Nat} : ∀ (Fx1 : Int32) (Fx2 : Int32) (x1 : Int) (x2 : Int) (Fv_a : Nat → Int32) (Fv_kept : Nat → Int32) (Fv_keptMany : Int32) (Fv_thrown : Int32) (b_this : BX6) (r : Int × BX6), LI Fx1 x1 → LI Fx2 x2 → LA Fv_a (pX6_a b_this) → LA Fv_kept (pX6_kept b_this) → LI Fv_keptMany (pX6_keptMany b_this) → LI Fv_thrown (pX6_thrown b_this) → g_X6_place_17 n x1 x2 b_this = some r → ∃ R, f_X6_place_17 n Fx1 Fx2 Fv_a Fv_kept Fv_keptMany Fv_thrown = some R ∧ LI (R.1) (r.1) ∧ LA (R.2.1) (pX6_a (r.2)) ∧ LA (R.2.2.1) (pX6_kept (r.2)) ∧ LI (R.2.2.2.1) (pX6_keptMany (r.2)) ∧ LI (R.2.2.2.2) (pX6_thrown (r.2)) ∧ (pX6_fresh (r.2)) = (pX6_fresh b_this) ∧ (pX6_buffer (r.2)) = (pX6_buffer b_this) ∧ (pX6_buffered (r.2)) = (pX6_buffered b_this) ∧ (pX6_size (r.2)) = (pX6_size b_this) ∧ (pX6_at (r.2)) = (pX6_at b_this) ∧ (pX6_behind (r.2)) = (pX6_behind b_this) ∧ (pX6_kind (r.2)) = (pX6_kind b_this) ∧ (pX6_wrong (r.2)) = (pX6_wrong b_this) ∧ (pX6_wrongAt (r.2)) = (pX6_wrongAt b_this) ∧ (pX6_errorAt (r.2)) = (pX6_errorAt b_this) ∧ (pX6_number (r.2)) = (pX6_number b_this) ∧ (pX6_best (r.2)) = (pX6_best b_this) ∧ (pX6_rentBy (r.2)) = (pX6_rentBy b_this) ∧ (pX6_bareBy (r.2)) = (pX6_bareBy b_this) ∧ (pX6_aheadBy (r.2)) = (pX6_aheadBy b_this) ∧ (pX6_isEdge (r.2)) = (pX6_isEdge b_this) ∧ (pX6_tried (r.2)) = (pX6_tried b_this) ∧ (pX6_stands (r.2)) = (pX6_stands b_this) ∧ (pX6_found (r.2)) = (pX6_found b_this) ∧ (pX6_foundOn (r.2)) = (pX6_foundOn b_this) ∧ (pX6_moving (r.2)) = (pX6_moving b_this) ∧ (pX6_movingMany (r.2)) = (pX6_movingMany b_this) ∧ (pX6_foundIncome (r.2)) = (pX6_foundIncome b_this) ∧ (pX6_foundMoves (r.2)) = (pX6_foundMoves b_this) := by
  intro Fx1 Fx2 x1 x2 Fv_a Fv_kept Fv_keptMany Fv_thrown b_this r h_x1 h_x2 h_v_a h_v_kept h_v_keptMany h_v_thrown hg
  unfold g_X6_place_17 at hg
  unfold f_X6_place_17
  refine lJ (l_X6_place_35 _ _ _ _ _ _ _ _ _ _ b_this _ (LI_n (X := 1) (x := 1) rfl) h_x1 h_x2 h_v_a h_v_kept h_v_keptMany h_v_thrown hg) (fun R hq => ?_)
  obtain ⟨c0, c1, c2, c3, c4, c5, c6, c7, c8, c9, c10, c11, c12, c13, c14, c15, c16, c17, c18, c19, c20, c21, c22, c23, c24, c25, c26, c27, c28⟩ := hq
  exact ⟨c0, c1, c2, c3, c4, c5, c6, c7, c8, c9, c10, c11, c12, c13, c14, c15, c16, c17, c18, c19, c20, c21, c22, c23, c24, c25, c26, c27, c28⟩
set_option maxHeartbeats 4000000 in
set_option maxRecDepth 100000 in
theorem l_X6_place {n : Nat} : ∀ (Fx1 : Int32) (Fx2 : Int32) (x1 : Int) (x2 : Int) (Fv_a : Nat → Int32) (Fv_kept : Nat → Int32) (Fv_keptMany : Int32) (Fv_thrown : Int32) (b_this : BX6) (r : Int × BX6), LI Fx1 x1 → LI Fx2 x2 → LA Fv_a (pX6_a b_this) → LA Fv_kept (pX6_kept b_this) → LI Fv_keptMany (pX6_keptMany b_this) → LI Fv_thrown (pX6_thrown b_this) → g_X6_place n b_this x1 x2 = some r → ∃ R, f_X6_place n Fv_a Fv_kept Fv_keptMany Fv_thrown Fx1 Fx2 = some R ∧ LI (R.1) (r.1) ∧ LA (R.2.1) (pX6_a (r.2)) ∧ LA (R.2.2.1) (pX6_kept (r.2)) ∧ LI (R.2.2.2.1) (pX6_keptMany (r.2)) ∧ LI (R.2.2.2.2) (pX6_thrown (r.2)) ∧ (pX6_fresh (r.2)) = (pX6_fresh b_this) ∧ (pX6_buffer (r.2)) = (pX6_buffer b_this) ∧ (pX6_buffered (r.2)) = (pX6_buffered b_this) ∧ (pX6_size (r.2)) = (pX6_size b_this) ∧ (pX6_at (r.2)) = (pX6_at b_this) ∧ (pX6_behind (r.2)) = (pX6_behind b_this) ∧ (pX6_kind (r.2)) = (pX6_kind b_this) ∧ (pX6_wrong (r.2)) = (pX6_wrong b_this) ∧ (pX6_wrongAt (r.2)) = (pX6_wrongAt b_this) ∧ (pX6_errorAt (r.2)) = (pX6_errorAt b_this) ∧ (pX6_number (r.2)) = (pX6_number b_this) ∧ (pX6_best (r.2)) = (pX6_best b_this) ∧ (pX6_rentBy (r.2)) = (pX6_rentBy b_this) ∧ (pX6_bareBy (r.2)) = (pX6_bareBy b_this) ∧ (pX6_aheadBy (r.2)) = (pX6_aheadBy b_this) ∧ (pX6_isEdge (r.2)) = (pX6_isEdge b_this) ∧ (pX6_tried (r.2)) = (pX6_tried b_this) ∧ (pX6_stands (r.2)) = (pX6_stands b_this) ∧ (pX6_found (r.2)) = (pX6_found b_this) ∧ (pX6_foundOn (r.2)) = (pX6_foundOn b_this) ∧ (pX6_moving (r.2)) = (pX6_moving b_this) ∧ (pX6_movingMany (r.2)) = (pX6_movingMany b_this) ∧ (pX6_foundIncome (r.2)) = (pX6_foundIncome b_this) ∧ (pX6_foundMoves (r.2)) = (pX6_foundMoves b_this) := by
  intro Fx1 Fx2 x1 x2 Fv_a Fv_kept Fv_keptMany Fv_thrown b_this r h_x1 h_x2 h_v_a h_v_kept h_v_keptMany h_v_thrown hg
  unfold g_X6_place at hg
  unfold f_X6_place
  refine lB_1_1 (fun r hr => l_X6_isTrader  _ _ _ b_this r h_x1 h_v_a hr) hg (fun Fr_8 r_8 hq hg => ?_)
  have q_60 := hq
  refine lI (LI_eq q_60 (LI_n (X := 0) (x := 0) rfl)) hg (fun hc hg => ?_) (fun hc hg => ?_)
  · refine lJ (l_X6_place_17 _ _ _ _ _ _ _ _ b_this _ h_x1 h_x2 h_v_a h_v_kept h_v_keptMany h_v_thrown hg) (fun R hq => ?_)
    obtain ⟨c0, c1, c2, c3, c4, c5, c6, c7, c8, c9, c10, c11, c12, c13, c14, c15, c16, c17, c18, c19, c20, c21, c22, c23, c24, c25, c26, c27, c28⟩ := hq
    exact ⟨c0, c1, c2, c3, c4, c5, c6, c7, c8, c9, c10, c11, c12, c13, c14, c15, c16, c17, c18, c19, c20, c21, c22, c23, c24, c25, c26, c27, c28⟩
  · refine lB_1_1 (fun r hr => l_X6_isPitch  _ _ _ b_this r h_x2 h_v_a hr) hg (fun Fr_10 r_10 hq hg => ?_)
    have q_61 := hq
    refine lI (LI_eq q_61 (LI_n (X := 0) (x := 0) rfl)) hg (fun hc hg => ?_) (fun hc hg => ?_)
    · refine lJ (l_X6_place_17 _ _ _ _ _ _ _ _ b_this _ h_x1 h_x2 h_v_a h_v_kept h_v_keptMany h_v_thrown hg) (fun R hq => ?_)
      obtain ⟨c0, c1, c2, c3, c4, c5, c6, c7, c8, c9, c10, c11, c12, c13, c14, c15, c16, c17, c18, c19, c20, c21, c22, c23, c24, c25, c26, c27, c28⟩ := hq
      exact ⟨c0, c1, c2, c3, c4, c5, c6, c7, c8, c9, c10, c11, c12, c13, c14, c15, c16, c17, c18, c19, c20, c21, c22, c23, c24, c25, c26, c27, c28⟩
    · refine lB_1_1 (fun r hr => l_X6_hinders  _ _ _ _ _ b_this r h_x1 h_x2 h_v_a hr) hg (fun Fr_12 r_12 hq hg => ?_)
      have q_62 := hq
      refine lI (LI_eq q_62 (LI_n (X := 0) (x := 0) rfl)) hg (fun hc hg => ?_) (fun hc hg => ?_)
      · refine lJ (l_X6_place_35 _ _ _ _ _ _ _ _ _ _ b_this _ (LI_n (X := 0) (x := 0) rfl) h_x1 h_x2 h_v_a h_v_kept h_v_keptMany h_v_thrown hg) (fun R hq => ?_)
        obtain ⟨c0, c1, c2, c3, c4, c5, c6, c7, c8, c9, c10, c11, c12, c13, c14, c15, c16, c17, c18, c19, c20, c21, c22, c23, c24, c25, c26, c27, c28⟩ := hq
        exact ⟨c0, c1, c2, c3, c4, c5, c6, c7, c8, c9, c10, c11, c12, c13, c14, c15, c16, c17, c18, c19, c20, c21, c22, c23, c24, c25, c26, c27, c28⟩
      · refine lJ (l_X6_place_35 _ _ _ _ _ _ _ _ _ _ b_this _ (LI_n (X := 2) (x := 2) rfl) h_x1 h_x2 h_v_a h_v_kept h_v_keptMany h_v_thrown hg) (fun R hq => ?_)
        obtain ⟨c0, c1, c2, c3, c4, c5, c6, c7, c8, c9, c10, c11, c12, c13, c14, c15, c16, c17, c18, c19, c20, c21, c22, c23, c24, c25, c26, c27, c28⟩ := hq
        exact ⟨c0, c1, c2, c3, c4, c5, c6, c7, c8, c9, c10, c11, c12, c13, c14, c15, c16, c17, c18, c19, c20, c21, c22, c23, c24, c25, c26, c27, c28⟩
set_option maxHeartbeats 4000000 in
set_option maxRecDepth 100000 in
theorem l_X6_remove_31 {n : Nat} : ∀ (Ft1 : Int32) (Fx1 : Int32) (t1 : Int) (x1 : Int) (Fv_a : Nat → Int32) (Fv_kept : Nat → Int32) (Fv_keptMany : Int32) (Fv_thrown : Int32) (b_this : BX6) (r : Int × BX6), LI Ft1 t1 → LI Fx1 x1 → LA Fv_a (pX6_a b_this) → LA Fv_kept (pX6_kept b_this) → LI Fv_keptMany (pX6_keptMany b_this) → LI Fv_thrown (pX6_thrown b_this) → g_X6_remove_31 n t1 x1 b_this = some r → ∃ R, f_X6_remove_31 n Ft1 Fx1 Fv_a Fv_kept Fv_keptMany Fv_thrown = some R ∧ LI (R.1) (r.1) ∧ LA (R.2.1) (pX6_a (r.2)) ∧ LA (R.2.2.1) (pX6_kept (r.2)) ∧ LI (R.2.2.2.1) (pX6_keptMany (r.2)) ∧ LI (R.2.2.2.2) (pX6_thrown (r.2)) ∧ (pX6_fresh (r.2)) = (pX6_fresh b_this) ∧ (pX6_buffer (r.2)) = (pX6_buffer b_this) ∧ (pX6_buffered (r.2)) = (pX6_buffered b_this) ∧ (pX6_size (r.2)) = (pX6_size b_this) ∧ (pX6_at (r.2)) = (pX6_at b_this) ∧ (pX6_behind (r.2)) = (pX6_behind b_this) ∧ (pX6_kind (r.2)) = (pX6_kind b_this) ∧ (pX6_wrong (r.2)) = (pX6_wrong b_this) ∧ (pX6_wrongAt (r.2)) = (pX6_wrongAt b_this) ∧ (pX6_errorAt (r.2)) = (pX6_errorAt b_this) ∧ (pX6_number (r.2)) = (pX6_number b_this) ∧ (pX6_best (r.2)) = (pX6_best b_this) ∧ (pX6_rentBy (r.2)) = (pX6_rentBy b_this) ∧ (pX6_bareBy (r.2)) = (pX6_bareBy b_this) ∧ (pX6_aheadBy (r.2)) = (pX6_aheadBy b_this) ∧ (pX6_isEdge (r.2)) = (pX6_isEdge b_this) ∧ (pX6_tried (r.2)) = (pX6_tried b_this) ∧ (pX6_stands (r.2)) = (pX6_stands b_this) ∧ (pX6_found (r.2)) = (pX6_found b_this) ∧ (pX6_foundOn (r.2)) = (pX6_foundOn b_this) ∧ (pX6_moving (r.2)) = (pX6_moving b_this) ∧ (pX6_movingMany (r.2)) = (pX6_movingMany b_this) ∧ (pX6_foundIncome (r.2)) = (pX6_foundIncome b_this) ∧ (pX6_foundMoves (r.2)) = (pX6_foundMoves b_this) := by
  intro Ft1 Fx1 t1 x1 Fv_a Fv_kept Fv_keptMany Fv_thrown b_this r h_t1 h_x1 h_v_a h_v_kept h_v_keptMany h_v_thrown hg
  unfold g_X6_remove_31 at hg
  unfold f_X6_remove_31
  refine lI (LI_le h_t1 (LI_n (X := 0) (x := 0) rfl)) hg (fun hc hg => ?_) (fun hc hg => ?_)
  · refine lB_2_1 (fun r hr => l_X6_keeps  _ _ _ (sX6_thrown b_this t1) r (LA_cg (eX6_a_thrown _ _) h_v_a) (LA_cg (eX6_kept_thrown _ _) h_v_kept) (LI_cg (eX6_keptMany_thrown _ _) h_v_keptMany) hr) hg (fun Fv_1 Fv_2 b_1 hq hg => ?_)
    obtain ⟨q_2, q_3, q_4, q_5, q_6, q_7, q_8, q_9, q_10, q_11, q_12, q_13, q_14, q_15, q_16, q_17, q_18, q_19, q_20, q_21, q_22, q_23, q_24, q_25, q_26, q_27, q_28, q_29⟩ := hq
    have qe_30 := Eq.trans q_4 (eX6_a_thrown _ _)
    have qe_31 := Eq.trans q_5 (eX6_fresh_thrown _ _)
    have qe_32 := Eq.trans q_6 (eX6_thrown_thrown _ _)
    have qe_33 := Eq.trans q_7 (eX6_buffer_thrown _ _)
    have qe_34 := Eq.trans q_8 (eX6_buffered_thrown _ _)
    have qe_35 := Eq.trans q_9 (eX6_size_thrown _ _)
    have qe_36 := Eq.trans q_10 (eX6_at_thrown _ _)
    have qe_37 := Eq.trans q_11 (eX6_behind_thrown _ _)
    have qe_38 := Eq.trans q_12 (eX6_kind_thrown _ _)
    have qe_39 := Eq.trans q_13 (eX6_wrong_thrown _ _)
    have qe_40 := Eq.trans q_14 (eX6_wrongAt_thrown _ _)
    have qe_41 := Eq.trans q_15 (eX6_errorAt_thrown _ _)
    have qe_42 := Eq.trans q_16 (eX6_number_thrown _ _)
    have qe_43 := Eq.trans q_17 (eX6_best_thrown _ _)
    have qe_44 := Eq.trans q_18 (eX6_rentBy_thrown _ _)
    have qe_45 := Eq.trans q_19 (eX6_bareBy_thrown _ _)
    have qe_46 := Eq.trans q_20 (eX6_aheadBy_thrown _ _)
    have qe_47 := Eq.trans q_21 (eX6_isEdge_thrown _ _)
    have qe_48 := Eq.trans q_22 (eX6_tried_thrown _ _)
    have qe_49 := Eq.trans q_23 (eX6_stands_thrown _ _)
    have qe_50 := Eq.trans q_24 (eX6_found_thrown _ _)
    have qe_51 := Eq.trans q_25 (eX6_foundOn_thrown _ _)
    have qe_52 := Eq.trans q_26 (eX6_moving_thrown _ _)
    have qe_53 := Eq.trans q_27 (eX6_movingMany_thrown _ _)
    have qe_54 := Eq.trans q_28 (eX6_foundIncome_thrown _ _)
    have qe_55 := Eq.trans q_29 (eX6_foundMoves_thrown _ _)
    have hl_56 := (LA_cg qe_30 h_v_a)
    have hl_57 := (LI_cg qe_32 h_t1)
    refine lA (EI_add (EI_i (LI_n (X := 107) (x := 107) rfl)) (EI_i h_x1)) rfl hg (fun ha_58 hg => ?_)
    refine lL (LA_at hl_56 (EI_add (EI_i (LI_n (X := 107) (x := 107) rfl)) (EI_i h_x1)) ha_58) hg (fun Fy_5 y_5 h_y_5 hg => ?_)
    refine lA (EI_add (EI_i (LI_n (X := 107) (x := 107) rfl)) (EI_i h_x1)) rfl hg (fun ha_59 hg => ?_)
    refine lL (LA_upd hl_56 (EI_add (EI_i (LI_n (X := 107) (x := 107) rfl)) (EI_i h_x1)) ha_59 (LI_n (X := -1) (x := -1) rfl)) hg (fun Fv_7 v_7 h_v_7 hg => ?_)
    cases hg
    exact ⟨_, rfl, h_y_5, (LA_cg (eX6_a_a _ _) h_v_7), (LA_cg (eX6_kept_a _ _) q_2), (LI_cg (eX6_keptMany_a _ _) q_3), (LI_cg (eX6_thrown_a _ _) hl_57), (Eq.trans (eX6_fresh_a _ _) qe_31), (Eq.trans (eX6_buffer_a _ _) qe_33), (Eq.trans (eX6_buffered_a _ _) qe_34), (Eq.trans (eX6_size_a _ _) qe_35), (Eq.trans (eX6_at_a _ _) qe_36), (Eq.trans (eX6_behind_a _ _) qe_37), (Eq.trans (eX6_kind_a _ _) qe_38), (Eq.trans (eX6_wrong_a _ _) qe_39), (Eq.trans (eX6_wrongAt_a _ _) qe_40), (Eq.trans (eX6_errorAt_a _ _) qe_41), (Eq.trans (eX6_number_a _ _) qe_42), (Eq.trans (eX6_best_a _ _) qe_43), (Eq.trans (eX6_rentBy_a _ _) qe_44), (Eq.trans (eX6_bareBy_a _ _) qe_45), (Eq.trans (eX6_aheadBy_a _ _) qe_46), (Eq.trans (eX6_isEdge_a _ _) qe_47), (Eq.trans (eX6_tried_a _ _) qe_48), (Eq.trans (eX6_stands_a _ _) qe_49), (Eq.trans (eX6_found_a _ _) qe_50), (Eq.trans (eX6_foundOn_a _ _) qe_51), (Eq.trans (eX6_moving_a _ _) qe_52), (Eq.trans (eX6_movingMany_a _ _) qe_53), (Eq.trans (eX6_foundIncome_a _ _) qe_54), (Eq.trans (eX6_foundMoves_a _ _) qe_55)⟩
  · cases hg
    exact ⟨_, rfl, (LI_n (X := 0) (x := 0) rfl), (LA_cg (eX6_a_thrown _ _) h_v_a), (LA_cg (eX6_kept_thrown _ _) h_v_kept), (LI_cg (eX6_keptMany_thrown _ _) h_v_keptMany), (LI_cg (eX6_thrown_thrown _ _) h_t1), (eX6_fresh_thrown _ _), (eX6_buffer_thrown _ _), (eX6_buffered_thrown _ _), (eX6_size_thrown _ _), (eX6_at_thrown _ _), (eX6_behind_thrown _ _), (eX6_kind_thrown _ _), (eX6_wrong_thrown _ _), (eX6_wrongAt_thrown _ _), (eX6_errorAt_thrown _ _), (eX6_number_thrown _ _), (eX6_best_thrown _ _), (eX6_rentBy_thrown _ _), (eX6_bareBy_thrown _ _), (eX6_aheadBy_thrown _ _), (eX6_isEdge_thrown _ _), (eX6_tried_thrown _ _), (eX6_stands_thrown _ _), (eX6_found_thrown _ _), (eX6_foundOn_thrown _ _), (eX6_moving_thrown _ _), (eX6_movingMany_thrown _ _), (eX6_foundIncome_thrown _ _), (eX6_foundMoves_thrown _ _)⟩
set_option maxHeartbeats 4000000 in
set_option maxRecDepth 100000 in
theorem l_X6_remove {n : Nat} : ∀ (Fx1 : Int32) (x1 : Int) (Fv_a : Nat → Int32) (Fv_kept : Nat → Int32) (Fv_keptMany : Int32) (Fv_thrown : Int32) (b_this : BX6) (r : Int × BX6), LI Fx1 x1 → LA Fv_a (pX6_a b_this) → LA Fv_kept (pX6_kept b_this) → LI Fv_keptMany (pX6_keptMany b_this) → LI Fv_thrown (pX6_thrown b_this) → g_X6_remove n b_this x1 = some r → ∃ R, f_X6_remove n Fv_a Fv_kept Fv_keptMany Fv_thrown Fx1 = some R ∧ LI (R.1) (r.1) ∧ LA (R.2.1) (pX6_a (r.2)) ∧ LA (R.2.2.1) (pX6_kept (r.2)) ∧ LI (R.2.2.2.1) (pX6_keptMany (r.2)) ∧ LI (R.2.2.2.2) (pX6_thrown (r.2)) ∧ (pX6_fresh (r.2)) = (pX6_fresh b_this) ∧ (pX6_buffer (r.2)) = (pX6_buffer b_this) ∧ (pX6_buffered (r.2)) = (pX6_buffered b_this) ∧ (pX6_size (r.2)) = (pX6_size b_this) ∧ (pX6_at (r.2)) = (pX6_at b_this) ∧ (pX6_behind (r.2)) = (pX6_behind b_this) ∧ (pX6_kind (r.2)) = (pX6_kind b_this) ∧ (pX6_wrong (r.2)) = (pX6_wrong b_this) ∧ (pX6_wrongAt (r.2)) = (pX6_wrongAt b_this) ∧ (pX6_errorAt (r.2)) = (pX6_errorAt b_this) ∧ (pX6_number (r.2)) = (pX6_number b_this) ∧ (pX6_best (r.2)) = (pX6_best b_this) ∧ (pX6_rentBy (r.2)) = (pX6_rentBy b_this) ∧ (pX6_bareBy (r.2)) = (pX6_bareBy b_this) ∧ (pX6_aheadBy (r.2)) = (pX6_aheadBy b_this) ∧ (pX6_isEdge (r.2)) = (pX6_isEdge b_this) ∧ (pX6_tried (r.2)) = (pX6_tried b_this) ∧ (pX6_stands (r.2)) = (pX6_stands b_this) ∧ (pX6_found (r.2)) = (pX6_found b_this) ∧ (pX6_foundOn (r.2)) = (pX6_foundOn b_this) ∧ (pX6_moving (r.2)) = (pX6_moving b_this) ∧ (pX6_movingMany (r.2)) = (pX6_movingMany b_this) ∧ (pX6_foundIncome (r.2)) = (pX6_foundIncome b_this) ∧ (pX6_foundMoves (r.2)) = (pX6_foundMoves b_this) := by
  intro Fx1 x1 Fv_a Fv_kept Fv_keptMany Fv_thrown b_this r h_x1 h_v_a h_v_kept h_v_keptMany h_v_thrown hg
  unfold g_X6_remove at hg
  unfold f_X6_remove
  refine lB_1_1 (fun r hr => l_X6_isTrader  _ _ _ b_this r h_x1 h_v_a hr) hg (fun Fr_8 r_8 hq hg => ?_)
  have q_60 := hq
  refine lI (LI_eq q_60 (LI_n (X := 0) (x := 0) rfl)) hg (fun hc hg => ?_) (fun hc hg => ?_)
  · refine lJ (l_X6_remove_31 _ _ _ _ _ _ _ _ b_this _ (LI_n (X := 1) (x := 1) rfl) h_x1 h_v_a h_v_kept h_v_keptMany h_v_thrown hg) (fun R hq => ?_)
    obtain ⟨c0, c1, c2, c3, c4, c5, c6, c7, c8, c9, c10, c11, c12, c13, c14, c15, c16, c17, c18, c19, c20, c21, c22, c23, c24, c25, c26, c27, c28⟩ := hq
    exact ⟨c0, c1, c2, c3, c4, c5, c6, c7, c8, c9, c10, c11, c12, c13, c14, c15, c16, c17, c18, c19, c20, c21, c22, c23, c24, c25, c26, c27, c28⟩
  · refine lA (EI_add (EI_i (LI_n (X := 107) (x := 107) rfl)) (EI_i h_x1)) rfl hg (fun ha_61 hg => ?_)
    refine lI (LI_eq (LA_at h_v_a (EI_add (EI_i (LI_n (X := 107) (x := 107) rfl)) (EI_i h_x1)) ha_61) (LI_n (X := -1) (x := -1) rfl)) hg (fun hc hg => ?_) (fun hc hg => ?_)
    · refine lJ (l_X6_remove_31 _ _ _ _ _ _ _ _ b_this _ (LI_n (X := 2) (x := 2) rfl) h_x1 h_v_a h_v_kept h_v_keptMany h_v_thrown hg) (fun R hq => ?_)
      obtain ⟨c0, c1, c2, c3, c4, c5, c6, c7, c8, c9, c10, c11, c12, c13, c14, c15, c16, c17, c18, c19, c20, c21, c22, c23, c24, c25, c26, c27, c28⟩ := hq
      exact ⟨c0, c1, c2, c3, c4, c5, c6, c7, c8, c9, c10, c11, c12, c13, c14, c15, c16, c17, c18, c19, c20, c21, c22, c23, c24, c25, c26, c27, c28⟩
    · refine lJ (l_X6_remove_31 _ _ _ _ _ _ _ _ b_this _ (LI_n (X := 0) (x := 0) rfl) h_x1 h_v_a h_v_kept h_v_keptMany h_v_thrown hg) (fun R hq => ?_)
      obtain ⟨c0, c1, c2, c3, c4, c5, c6, c7, c8, c9, c10, c11, c12, c13, c14, c15, c16, c17, c18, c19, c20, c21, c22, c23, c24, c25, c26, c27, c28⟩ := hq
      exact ⟨c0, c1, c2, c3, c4, c5, c6, c7, c8, c9, c10, c11, c12, c13, c14, c15, c16, c17, c18, c19, c20, c21, c22, c23, c24, c25, c26, c27, c28⟩
set_option maxHeartbeats 4000000 in
set_option maxRecDepth 100000 in
theorem l_X6_rent : ∀ (Fx1 : Int32) (x1 : Int) (Fv_a : Nat → Int32) (Fv_thrown : Int32) (b_this : BX6) (r : Int × BX6), LI Fx1 x1 → LA Fv_a (pX6_a b_this) → LI Fv_thrown (pX6_thrown b_this) → g_X6_rent b_this x1 = some r → ∃ R, f_X6_rent Fv_a Fv_thrown Fx1 = some R ∧ LI (R.1) (r.1) ∧ LI (R.2) (pX6_thrown (r.2)) ∧ (pX6_a (r.2)) = (pX6_a b_this) ∧ (pX6_fresh (r.2)) = (pX6_fresh b_this) ∧ (pX6_kept (r.2)) = (pX6_kept b_this) ∧ (pX6_keptMany (r.2)) = (pX6_keptMany b_this) ∧ (pX6_buffer (r.2)) = (pX6_buffer b_this) ∧ (pX6_buffered (r.2)) = (pX6_buffered b_this) ∧ (pX6_size (r.2)) = (pX6_size b_this) ∧ (pX6_at (r.2)) = (pX6_at b_this) ∧ (pX6_behind (r.2)) = (pX6_behind b_this) ∧ (pX6_kind (r.2)) = (pX6_kind b_this) ∧ (pX6_wrong (r.2)) = (pX6_wrong b_this) ∧ (pX6_wrongAt (r.2)) = (pX6_wrongAt b_this) ∧ (pX6_errorAt (r.2)) = (pX6_errorAt b_this) ∧ (pX6_number (r.2)) = (pX6_number b_this) ∧ (pX6_best (r.2)) = (pX6_best b_this) ∧ (pX6_rentBy (r.2)) = (pX6_rentBy b_this) ∧ (pX6_bareBy (r.2)) = (pX6_bareBy b_this) ∧ (pX6_aheadBy (r.2)) = (pX6_aheadBy b_this) ∧ (pX6_isEdge (r.2)) = (pX6_isEdge b_this) ∧ (pX6_tried (r.2)) = (pX6_tried b_this) ∧ (pX6_stands (r.2)) = (pX6_stands b_this) ∧ (pX6_found (r.2)) = (pX6_found b_this) ∧ (pX6_foundOn (r.2)) = (pX6_foundOn b_this) ∧ (pX6_moving (r.2)) = (pX6_moving b_this) ∧ (pX6_movingMany (r.2)) = (pX6_movingMany b_this) ∧ (pX6_foundIncome (r.2)) = (pX6_foundIncome b_this) ∧ (pX6_foundMoves (r.2)) = (pX6_foundMoves b_this) := by
  intro Fx1 x1 Fv_a Fv_thrown b_this r h_x1 h_v_a h_v_thrown hg
  unfold g_X6_rent at hg
  unfold f_X6_rent
  refine lB_2_2 (fun r hr => l_X6_pitchValue  _ _ _ _ _ _ b_this r (LI_n (X := 2) (x := 2) rfl) h_x1 h_v_a h_v_thrown hr) hg (fun Fr_1 Fv_2 r_1 b_1 hq hg => ?_)
  obtain ⟨q_2, q_3, q_4, q_5, q_6, q_7, q_8, q_9, q_10, q_11, q_12, q_13, q_14, q_15, q_16, q_17, q_18, q_19, q_20, q_21, q_22, q_23, q_24, q_25, q_26, q_27, q_28, q_29, q_30⟩ := hq
  have hl_31 := (LA_cg q_4 h_v_a)
  cases hg
  exact ⟨_, rfl, q_2, q_3, q_4, q_5, q_6, q_7, q_8, q_9, q_10, q_11, q_12, q_13, q_14, q_15, q_16, q_17, q_18, q_19, q_20, q_21, q_22, q_23, q_24, q_25, q_26, q_27, q_28, q_29, q_30⟩
set_option maxHeartbeats 4000000 in
set_option maxRecDepth 100000 in
theorem l_X6_row : ∀ (Fx1 : Int32) (x1 : Int) (Fv_a : Nat → Int32) (Fv_thrown : Int32) (b_this : BX6) (r : Int × BX6), LI Fx1 x1 → LA Fv_a (pX6_a b_this) → LI Fv_thrown (pX6_thrown b_this) → g_X6_row b_this x1 = some r → ∃ R, f_X6_row Fv_a Fv_thrown Fx1 = some R ∧ LI (R.1) (r.1) ∧ LI (R.2) (pX6_thrown (r.2)) ∧ (pX6_a (r.2)) = (pX6_a b_this) ∧ (pX6_fresh (r.2)) = (pX6_fresh b_this) ∧ (pX6_kept (r.2)) = (pX6_kept b_this) ∧ (pX6_keptMany (r.2)) = (pX6_keptMany b_this) ∧ (pX6_buffer (r.2)) = (pX6_buffer b_this) ∧ (pX6_buffered (r.2)) = (pX6_buffered b_this) ∧ (pX6_size (r.2)) = (pX6_size b_this) ∧ (pX6_at (r.2)) = (pX6_at b_this) ∧ (pX6_behind (r.2)) = (pX6_behind b_this) ∧ (pX6_kind (r.2)) = (pX6_kind b_this) ∧ (pX6_wrong (r.2)) = (pX6_wrong b_this) ∧ (pX6_wrongAt (r.2)) = (pX6_wrongAt b_this) ∧ (pX6_errorAt (r.2)) = (pX6_errorAt b_this) ∧ (pX6_number (r.2)) = (pX6_number b_this) ∧ (pX6_best (r.2)) = (pX6_best b_this) ∧ (pX6_rentBy (r.2)) = (pX6_rentBy b_this) ∧ (pX6_bareBy (r.2)) = (pX6_bareBy b_this) ∧ (pX6_aheadBy (r.2)) = (pX6_aheadBy b_this) ∧ (pX6_isEdge (r.2)) = (pX6_isEdge b_this) ∧ (pX6_tried (r.2)) = (pX6_tried b_this) ∧ (pX6_stands (r.2)) = (pX6_stands b_this) ∧ (pX6_found (r.2)) = (pX6_found b_this) ∧ (pX6_foundOn (r.2)) = (pX6_foundOn b_this) ∧ (pX6_moving (r.2)) = (pX6_moving b_this) ∧ (pX6_movingMany (r.2)) = (pX6_movingMany b_this) ∧ (pX6_foundIncome (r.2)) = (pX6_foundIncome b_this) ∧ (pX6_foundMoves (r.2)) = (pX6_foundMoves b_this) := by
  intro Fx1 x1 Fv_a Fv_thrown b_this r h_x1 h_v_a h_v_thrown hg
  unfold g_X6_row at hg
  unfold f_X6_row
  refine lB_2_2 (fun r hr => l_X6_pitchValue  _ _ _ _ _ _ b_this r (LI_n (X := 50) (x := 50) rfl) h_x1 h_v_a h_v_thrown hr) hg (fun Fr_1 Fv_2 r_1 b_1 hq hg => ?_)
  obtain ⟨q_2, q_3, q_4, q_5, q_6, q_7, q_8, q_9, q_10, q_11, q_12, q_13, q_14, q_15, q_16, q_17, q_18, q_19, q_20, q_21, q_22, q_23, q_24, q_25, q_26, q_27, q_28, q_29, q_30⟩ := hq
  have hl_31 := (LA_cg q_4 h_v_a)
  cases hg
  exact ⟨_, rfl, q_2, q_3, q_4, q_5, q_6, q_7, q_8, q_9, q_10, q_11, q_12, q_13, q_14, q_15, q_16, q_17, q_18, q_19, q_20, q_21, q_22, q_23, q_24, q_25, q_26, q_27, q_28, q_29, q_30⟩
set_option maxHeartbeats 4000000 in
set_option maxRecDepth 100000 in
theorem l_X6_setClash_61 {n : Nat} : ∀ (Ft1 : Int32) (Ft2 : Int32) (Ft3 : Int32) (t1 : Int) (t2 : Int) (t3 : Int) (Fv_a : Nat → Int32) (Fv_kept : Nat → Int32) (Fv_keptMany : Int32) (Fv_thrown : Int32) (b_this : BX6) (r : BX6), LI Ft1 t1 → LI Ft2 t2 → LI Ft3 t3 → LA Fv_a (pX6_a b_this) → LA Fv_kept (pX6_kept b_this) → LI Fv_keptMany (pX6_keptMany b_this) → LI Fv_thrown (pX6_thrown b_this) → g_X6_setClash_61 n t1 t2 t3 b_this = some r → ∃ R, f_X6_setClash_61 n Ft1 Ft2 Ft3 Fv_a Fv_kept Fv_keptMany Fv_thrown = some R ∧ LA (R.1) (pX6_a r) ∧ LA (R.2.1) (pX6_kept r) ∧ LI (R.2.2.1) (pX6_keptMany r) ∧ LI (R.2.2.2) (pX6_thrown r) ∧ (pX6_fresh r) = (pX6_fresh b_this) ∧ (pX6_buffer r) = (pX6_buffer b_this) ∧ (pX6_buffered r) = (pX6_buffered b_this) ∧ (pX6_size r) = (pX6_size b_this) ∧ (pX6_at r) = (pX6_at b_this) ∧ (pX6_behind r) = (pX6_behind b_this) ∧ (pX6_kind r) = (pX6_kind b_this) ∧ (pX6_wrong r) = (pX6_wrong b_this) ∧ (pX6_wrongAt r) = (pX6_wrongAt b_this) ∧ (pX6_errorAt r) = (pX6_errorAt b_this) ∧ (pX6_number r) = (pX6_number b_this) ∧ (pX6_best r) = (pX6_best b_this) ∧ (pX6_rentBy r) = (pX6_rentBy b_this) ∧ (pX6_bareBy r) = (pX6_bareBy b_this) ∧ (pX6_aheadBy r) = (pX6_aheadBy b_this) ∧ (pX6_isEdge r) = (pX6_isEdge b_this) ∧ (pX6_tried r) = (pX6_tried b_this) ∧ (pX6_stands r) = (pX6_stands b_this) ∧ (pX6_found r) = (pX6_found b_this) ∧ (pX6_foundOn r) = (pX6_foundOn b_this) ∧ (pX6_moving r) = (pX6_moving b_this) ∧ (pX6_movingMany r) = (pX6_movingMany b_this) ∧ (pX6_foundIncome r) = (pX6_foundIncome b_this) ∧ (pX6_foundMoves r) = (pX6_foundMoves b_this) := by
  intro Ft1 Ft2 Ft3 t1 t2 t3 Fv_a Fv_kept Fv_keptMany Fv_thrown b_this r h_t1 h_t2 h_t3 h_v_a h_v_kept h_v_keptMany h_v_thrown hg
  unfold g_X6_setClash_61 at hg
  unfold f_X6_setClash_61
  refine lB_1_1 (fun r hr => l_X6_clashes  _ _ _ _ _ _ _ (pX6_a b_this) r h_t1 h_t2 h_t3 h_v_a hr) hg (fun Fv_1 b_1 hq hg => ?_)
  have q_2 := hq
  cases hg
  exact ⟨_, rfl, (LA_cg (eX6_a_a _ _) q_2), (LA_cg (eX6_kept_a _ _) h_v_kept), (LI_cg (eX6_keptMany_a _ _) h_v_keptMany), (LI_cg (eX6_thrown_a _ _) h_v_thrown), (eX6_fresh_a _ _), (eX6_buffer_a _ _), (eX6_buffered_a _ _), (eX6_size_a _ _), (eX6_at_a _ _), (eX6_behind_a _ _), (eX6_kind_a _ _), (eX6_wrong_a _ _), (eX6_wrongAt_a _ _), (eX6_errorAt_a _ _), (eX6_number_a _ _), (eX6_best_a _ _), (eX6_rentBy_a _ _), (eX6_bareBy_a _ _), (eX6_aheadBy_a _ _), (eX6_isEdge_a _ _), (eX6_tried_a _ _), (eX6_stands_a _ _), (eX6_found_a _ _), (eX6_foundOn_a _ _), (eX6_moving_a _ _), (eX6_movingMany_a _ _), (eX6_foundIncome_a _ _), (eX6_foundMoves_a _ _)⟩
set_option maxHeartbeats 4000000 in
set_option maxRecDepth 100000 in
theorem l_X6_setClash_31 {n : Nat} : ∀ (Ft1 : Int32) (Fx1 : Int32) (Fx2 : Int32) (Fx3 : Int32) (t1 : Int) (x1 : Int) (x2 : Int) (x3 : Int) (Fv_a : Nat → Int32) (Fv_kept : Nat → Int32) (Fv_keptMany : Int32) (Fv_thrown : Int32) (b_this : BX6) (r : BX6), LI Ft1 t1 → LI Fx1 x1 → LI Fx2 x2 → LI Fx3 x3 → LA Fv_a (pX6_a b_this) → LA Fv_kept (pX6_kept b_this) → LI Fv_keptMany (pX6_keptMany b_this) → LI Fv_thrown (pX6_thrown b_this) → g_X6_setClash_31 n t1 x1 x2 x3 b_this = some r → ∃ R, f_X6_setClash_31 n Ft1 Fx1 Fx2 Fx3 Fv_a Fv_kept Fv_keptMany Fv_thrown = some R ∧ LA (R.1) (pX6_a r) ∧ LA (R.2.1) (pX6_kept r) ∧ LI (R.2.2.1) (pX6_keptMany r) ∧ LI (R.2.2.2) (pX6_thrown r) ∧ (pX6_fresh r) = (pX6_fresh b_this) ∧ (pX6_buffer r) = (pX6_buffer b_this) ∧ (pX6_buffered r) = (pX6_buffered b_this) ∧ (pX6_size r) = (pX6_size b_this) ∧ (pX6_at r) = (pX6_at b_this) ∧ (pX6_behind r) = (pX6_behind b_this) ∧ (pX6_kind r) = (pX6_kind b_this) ∧ (pX6_wrong r) = (pX6_wrong b_this) ∧ (pX6_wrongAt r) = (pX6_wrongAt b_this) ∧ (pX6_errorAt r) = (pX6_errorAt b_this) ∧ (pX6_number r) = (pX6_number b_this) ∧ (pX6_best r) = (pX6_best b_this) ∧ (pX6_rentBy r) = (pX6_rentBy b_this) ∧ (pX6_bareBy r) = (pX6_bareBy b_this) ∧ (pX6_aheadBy r) = (pX6_aheadBy b_this) ∧ (pX6_isEdge r) = (pX6_isEdge b_this) ∧ (pX6_tried r) = (pX6_tried b_this) ∧ (pX6_stands r) = (pX6_stands b_this) ∧ (pX6_found r) = (pX6_found b_this) ∧ (pX6_foundOn r) = (pX6_foundOn b_this) ∧ (pX6_moving r) = (pX6_moving b_this) ∧ (pX6_movingMany r) = (pX6_movingMany b_this) ∧ (pX6_foundIncome r) = (pX6_foundIncome b_this) ∧ (pX6_foundMoves r) = (pX6_foundMoves b_this) := by
  intro Ft1 Fx1 Fx2 Fx3 t1 x1 x2 x3 Fv_a Fv_kept Fv_keptMany Fv_thrown b_this r h_t1 h_x1 h_x2 h_x3 h_v_a h_v_kept h_v_keptMany h_v_thrown hg
  unfold g_X6_setClash_31 at hg
  unfold f_X6_setClash_31
  refine lI (LI_le h_t1 (LI_n (X := 0) (x := 0) rfl)) hg (fun hc hg => ?_) (fun hc hg => ?_)
  · refine lB_2_1 (fun r hr => l_X6_keeps  _ _ _ (sX6_thrown b_this t1) r (LA_cg (eX6_a_thrown _ _) h_v_a) (LA_cg (eX6_kept_thrown _ _) h_v_kept) (LI_cg (eX6_keptMany_thrown _ _) h_v_keptMany) hr) hg (fun Fv_3 Fv_4 b_3 hq hg => ?_)
    obtain ⟨q_4, q_5, q_6, q_7, q_8, q_9, q_10, q_11, q_12, q_13, q_14, q_15, q_16, q_17, q_18, q_19, q_20, q_21, q_22, q_23, q_24, q_25, q_26, q_27, q_28, q_29, q_30, q_31⟩ := hq
    have qe_32 := Eq.trans q_6 (eX6_a_thrown _ _)
    have qe_33 := Eq.trans q_7 (eX6_fresh_thrown _ _)
    have qe_34 := Eq.trans q_8 (eX6_thrown_thrown _ _)
    have qe_35 := Eq.trans q_9 (eX6_buffer_thrown _ _)
    have qe_36 := Eq.trans q_10 (eX6_buffered_thrown _ _)
    have qe_37 := Eq.trans q_11 (eX6_size_thrown _ _)
    have qe_38 := Eq.trans q_12 (eX6_at_thrown _ _)
    have qe_39 := Eq.trans q_13 (eX6_behind_thrown _ _)
    have qe_40 := Eq.trans q_14 (eX6_kind_thrown _ _)
    have qe_41 := Eq.trans q_15 (eX6_wrong_thrown _ _)
    have qe_42 := Eq.trans q_16 (eX6_wrongAt_thrown _ _)
    have qe_43 := Eq.trans q_17 (eX6_errorAt_thrown _ _)
    have qe_44 := Eq.trans q_18 (eX6_number_thrown _ _)
    have qe_45 := Eq.trans q_19 (eX6_best_thrown _ _)
    have qe_46 := Eq.trans q_20 (eX6_rentBy_thrown _ _)
    have qe_47 := Eq.trans q_21 (eX6_bareBy_thrown _ _)
    have qe_48 := Eq.trans q_22 (eX6_aheadBy_thrown _ _)
    have qe_49 := Eq.trans q_23 (eX6_isEdge_thrown _ _)
    have qe_50 := Eq.trans q_24 (eX6_tried_thrown _ _)
    have qe_51 := Eq.trans q_25 (eX6_stands_thrown _ _)
    have qe_52 := Eq.trans q_26 (eX6_found_thrown _ _)
    have qe_53 := Eq.trans q_27 (eX6_foundOn_thrown _ _)
    have qe_54 := Eq.trans q_28 (eX6_moving_thrown _ _)
    have qe_55 := Eq.trans q_29 (eX6_movingMany_thrown _ _)
    have qe_56 := Eq.trans q_30 (eX6_foundIncome_thrown _ _)
    have qe_57 := Eq.trans q_31 (eX6_foundMoves_thrown _ _)
    have hl_58 := (LA_cg qe_32 h_v_a)
    have hl_59 := (LI_cg qe_34 h_t1)
    refine lI (LI_eq h_x3 (LI_n (X := 0) (x := 0) rfl)) hg (fun hc hg => ?_) (fun hc hg => ?_)
    · refine lJ (l_X6_setClash_61 _ _ _ _ _ _ _ _ _ _ b_3 _ h_x1 h_x2 (LI_n (X := 0) (x := 0) rfl) hl_58 q_4 q_5 hl_59 hg) (fun R hq => ?_)
      obtain ⟨c0, c1, c2, c3, c4, c5, c6, c7, c8, c9, c10, c11, c12, c13, c14, c15, c16, c17, c18, c19, c20, c21, c22, c23, c24, c25, c26, c27⟩ := hq
      exact ⟨c0, c1, c2, c3, (c4).trans qe_33, (c5).trans qe_35, (c6).trans qe_36, (c7).trans qe_37, (c8).trans qe_38, (c9).trans qe_39, (c10).trans qe_40, (c11).trans qe_41, (c12).trans qe_42, (c13).trans qe_43, (c14).trans qe_44, (c15).trans qe_45, (c16).trans qe_46, (c17).trans qe_47, (c18).trans qe_48, (c19).trans qe_49, (c20).trans qe_50, (c21).trans qe_51, (c22).trans qe_52, (c23).trans qe_53, (c24).trans qe_54, (c25).trans qe_55, (c26).trans qe_56, (c27).trans qe_57⟩
    · refine lJ (l_X6_setClash_61 _ _ _ _ _ _ _ _ _ _ b_3 _ h_x1 h_x2 (LI_n (X := 1) (x := 1) rfl) hl_58 q_4 q_5 hl_59 hg) (fun R hq => ?_)
      obtain ⟨c0, c1, c2, c3, c4, c5, c6, c7, c8, c9, c10, c11, c12, c13, c14, c15, c16, c17, c18, c19, c20, c21, c22, c23, c24, c25, c26, c27⟩ := hq
      exact ⟨c0, c1, c2, c3, (c4).trans qe_33, (c5).trans qe_35, (c6).trans qe_36, (c7).trans qe_37, (c8).trans qe_38, (c9).trans qe_39, (c10).trans qe_40, (c11).trans qe_41, (c12).trans qe_42, (c13).trans qe_43, (c14).trans qe_44, (c15).trans qe_45, (c16).trans qe_46, (c17).trans qe_47, (c18).trans qe_48, (c19).trans qe_49, (c20).trans qe_50, (c21).trans qe_51, (c22).trans qe_52, (c23).trans qe_53, (c24).trans qe_54, (c25).trans qe_55, (c26).trans qe_56, (c27).trans qe_57⟩
  · cases hg
    exact ⟨_, rfl, (LA_cg (eX6_a_thrown _ _) h_v_a), (LA_cg (eX6_kept_thrown _ _) h_v_kept), (LI_cg (eX6_keptMany_thrown _ _) h_v_keptMany), (LI_cg (eX6_thrown_thrown _ _) h_t1), (eX6_fresh_thrown _ _), (eX6_buffer_thrown _ _), (eX6_buffered_thrown _ _), (eX6_size_thrown _ _), (eX6_at_thrown _ _), (eX6_behind_thrown _ _), (eX6_kind_thrown _ _), (eX6_wrong_thrown _ _), (eX6_wrongAt_thrown _ _), (eX6_errorAt_thrown _ _), (eX6_number_thrown _ _), (eX6_best_thrown _ _), (eX6_rentBy_thrown _ _), (eX6_bareBy_thrown _ _), (eX6_aheadBy_thrown _ _), (eX6_isEdge_thrown _ _), (eX6_tried_thrown _ _), (eX6_stands_thrown _ _), (eX6_found_thrown _ _), (eX6_foundOn_thrown _ _), (eX6_moving_thrown _ _), (eX6_movingMany_thrown _ _), (eX6_foundIncome_thrown _ _), (eX6_foundMoves_thrown _ _)⟩
set_option maxHeartbeats 4000000 in
set_option maxRecDepth 100000 in
theorem l_X6_setClash_30 {n : Nat} : ∀ (Fx1 : Int32) (Fx2 : Int32) (Fx3 : Int32) (x1 : Int) (x2 : Int) (x3 : Int) (Fv_a : Nat → Int32) (Fv_kept : Nat → Int32) (Fv_keptMany : Int32) (Fv_thrown : Int32) (b_this : BX6) (r : BX6), LI Fx1 x1 → LI Fx2 x2 → LI Fx3 x3 → LA Fv_a (pX6_a b_this) → LA Fv_kept (pX6_kept b_this) → LI Fv_keptMany (pX6_keptMany b_this) → LI Fv_thrown (pX6_thrown b_this) → g_X6_setClash_30 n x1 x2 x3 b_this = some r → ∃ R, f_X6_setClash_30 n Fx1 Fx2 Fx3 Fv_a Fv_kept Fv_keptMany Fv_thrown = some R ∧ LA (R.1) (pX6_a r) ∧ LA (R.2.1) (pX6_kept r) ∧ LI (R.2.2.1) (pX6_keptMany r) ∧ LI (R.2.2.2) (pX6_thrown r) ∧ (pX6_fresh r) = (pX6_fresh b_this) ∧ (pX6_buffer r) = (pX6_buffer b_this) ∧ (pX6_buffered r) = (pX6_buffered b_this) ∧ (pX6_size r) = (pX6_size b_this) ∧ (pX6_at r) = (pX6_at b_this) ∧ (pX6_behind r) = (pX6_behind b_this) ∧ (pX6_kind r) = (pX6_kind b_this) ∧ (pX6_wrong r) = (pX6_wrong b_this) ∧ (pX6_wrongAt r) = (pX6_wrongAt b_this) ∧ (pX6_errorAt r) = (pX6_errorAt b_this) ∧ (pX6_number r) = (pX6_number b_this) ∧ (pX6_best r) = (pX6_best b_this) ∧ (pX6_rentBy r) = (pX6_rentBy b_this) ∧ (pX6_bareBy r) = (pX6_bareBy b_this) ∧ (pX6_aheadBy r) = (pX6_aheadBy b_this) ∧ (pX6_isEdge r) = (pX6_isEdge b_this) ∧ (pX6_tried r) = (pX6_tried b_this) ∧ (pX6_stands r) = (pX6_stands b_this) ∧ (pX6_found r) = (pX6_found b_this) ∧ (pX6_foundOn r) = (pX6_foundOn b_this) ∧ (pX6_moving r) = (pX6_moving b_this) ∧ (pX6_movingMany r) = (pX6_movingMany b_this) ∧ (pX6_foundIncome r) = (pX6_foundIncome b_this) ∧ (pX6_foundMoves r) = (pX6_foundMoves b_this) := by
  intro Fx1 Fx2 Fx3 x1 x2 x3 Fv_a Fv_kept Fv_keptMany Fv_thrown b_this r h_x1 h_x2 h_x3 h_v_a h_v_kept h_v_keptMany h_v_thrown hg
  unfold g_X6_setClash_30 at hg
  unfold f_X6_setClash_30
  refine lJ (l_X6_setClash_31 _ _ _ _ _ _ _ _ _ _ _ _ b_this _ (LI_n (X := 0) (x := 0) rfl) h_x1 h_x2 h_x3 h_v_a h_v_kept h_v_keptMany h_v_thrown hg) (fun R hq => ?_)
  obtain ⟨c0, c1, c2, c3, c4, c5, c6, c7, c8, c9, c10, c11, c12, c13, c14, c15, c16, c17, c18, c19, c20, c21, c22, c23, c24, c25, c26, c27⟩ := hq
  exact ⟨c0, c1, c2, c3, c4, c5, c6, c7, c8, c9, c10, c11, c12, c13, c14, c15, c16, c17, c18, c19, c20, c21, c22, c23, c24, c25, c26, c27⟩
set_option maxHeartbeats 4000000 in
set_option maxRecDepth 100000 in
theorem l_X6_setClash {n : Nat} : ∀ (Fx1 : Int32) (Fx2 : Int32) (Fx3 : Int32) (x1 : Int) (x2 : Int) (x3 : Int) (Fv_a : Nat → Int32) (Fv_kept : Nat → Int32) (Fv_keptMany : Int32) (Fv_thrown : Int32) (b_this : BX6) (r : BX6), LI Fx1 x1 → LI Fx2 x2 → LI Fx3 x3 → LA Fv_a (pX6_a b_this) → LA Fv_kept (pX6_kept b_this) → LI Fv_keptMany (pX6_keptMany b_this) → LI Fv_thrown (pX6_thrown b_this) → g_X6_setClash n b_this x1 x2 x3 = some r → ∃ R, f_X6_setClash n Fv_a Fv_kept Fv_keptMany Fv_thrown Fx1 Fx2 Fx3 = some R ∧ LA (R.1) (pX6_a r) ∧ LA (R.2.1) (pX6_kept r) ∧ LI (R.2.2.1) (pX6_keptMany r) ∧ LI (R.2.2.2) (pX6_thrown r) ∧ (pX6_fresh r) = (pX6_fresh b_this) ∧ (pX6_buffer r) = (pX6_buffer b_this) ∧ (pX6_buffered r) = (pX6_buffered b_this) ∧ (pX6_size r) = (pX6_size b_this) ∧ (pX6_at r) = (pX6_at b_this) ∧ (pX6_behind r) = (pX6_behind b_this) ∧ (pX6_kind r) = (pX6_kind b_this) ∧ (pX6_wrong r) = (pX6_wrong b_this) ∧ (pX6_wrongAt r) = (pX6_wrongAt b_this) ∧ (pX6_errorAt r) = (pX6_errorAt b_this) ∧ (pX6_number r) = (pX6_number b_this) ∧ (pX6_best r) = (pX6_best b_this) ∧ (pX6_rentBy r) = (pX6_rentBy b_this) ∧ (pX6_bareBy r) = (pX6_bareBy b_this) ∧ (pX6_aheadBy r) = (pX6_aheadBy b_this) ∧ (pX6_isEdge r) = (pX6_isEdge b_this) ∧ (pX6_tried r) = (pX6_tried b_this) ∧ (pX6_stands r) = (pX6_stands b_this) ∧ (pX6_found r) = (pX6_found b_this) ∧ (pX6_foundOn r) = (pX6_foundOn b_this) ∧ (pX6_moving r) = (pX6_moving b_this) ∧ (pX6_movingMany r) = (pX6_movingMany b_this) ∧ (pX6_foundIncome r) = (pX6_foundIncome b_this) ∧ (pX6_foundMoves r) = (pX6_foundMoves b_this) := by
  intro Fx1 Fx2 Fx3 x1 x2 x3 Fv_a Fv_kept Fv_keptMany Fv_thrown b_this r h_x1 h_x2 h_x3 h_v_a h_v_kept h_v_keptMany h_v_thrown hg
  unfold g_X6_setClash at hg
  unfold f_X6_setClash
  refine lB_1_1 (fun r hr => l_X6_areTrades  _ _ _ _ r h_x1 h_x2 hr) hg (fun Fr_6 r_6 hq hg => ?_)
  have q_60 := hq
  refine lI (LI_eq q_60 (LI_n (X := 0) (x := 0) rfl)) hg (fun hc hg => ?_) (fun hc hg => ?_)
  · refine lJ (l_X6_setClash_31 _ _ _ _ _ _ _ _ _ _ _ _ b_this _ (LI_n (X := 1) (x := 1) rfl) h_x1 h_x2 h_x3 h_v_a h_v_kept h_v_keptMany h_v_thrown hg) (fun R hq => ?_)
    obtain ⟨c0, c1, c2, c3, c4, c5, c6, c7, c8, c9, c10, c11, c12, c13, c14, c15, c16, c17, c18, c19, c20, c21, c22, c23, c24, c25, c26, c27⟩ := hq
    exact ⟨c0, c1, c2, c3, c4, c5, c6, c7, c8, c9, c10, c11, c12, c13, c14, c15, c16, c17, c18, c19, c20, c21, c22, c23, c24, c25, c26, c27⟩
  · refine lI (LI_eq h_x3 (LI_n (X := 0) (x := 0) rfl)) hg (fun hc hg => ?_) (fun hc hg => ?_)
    · refine lJ (l_X6_setClash_30 _ _ _ _ _ _ _ _ _ _ b_this _ h_x1 h_x2 h_x3 h_v_a h_v_kept h_v_keptMany h_v_thrown hg) (fun R hq => ?_)
      obtain ⟨c0, c1, c2, c3, c4, c5, c6, c7, c8, c9, c10, c11, c12, c13, c14, c15, c16, c17, c18, c19, c20, c21, c22, c23, c24, c25, c26, c27⟩ := hq
      exact ⟨c0, c1, c2, c3, c4, c5, c6, c7, c8, c9, c10, c11, c12, c13, c14, c15, c16, c17, c18, c19, c20, c21, c22, c23, c24, c25, c26, c27⟩
    · refine lB_1_1 (fun r hr => l_X6_areBeside  _ _ _ _ _ b_this r h_x1 h_x2 h_v_a hr) hg (fun Fr_8 r_8 hq hg => ?_)
      have q_61 := hq
      refine lI (LI_eq q_61 (LI_n (X := 0) (x := 0) rfl)) hg (fun hc hg => ?_) (fun hc hg => ?_)
      · refine lJ (l_X6_setClash_30 _ _ _ _ _ _ _ _ _ _ b_this _ h_x1 h_x2 h_x3 h_v_a h_v_kept h_v_keptMany h_v_thrown hg) (fun R hq => ?_)
        obtain ⟨c0, c1, c2, c3, c4, c5, c6, c7, c8, c9, c10, c11, c12, c13, c14, c15, c16, c17, c18, c19, c20, c21, c22, c23, c24, c25, c26, c27⟩ := hq
        exact ⟨c0, c1, c2, c3, c4, c5, c6, c7, c8, c9, c10, c11, c12, c13, c14, c15, c16, c17, c18, c19, c20, c21, c22, c23, c24, c25, c26, c27⟩
      · refine lJ (l_X6_setClash_31 _ _ _ _ _ _ _ _ _ _ _ _ b_this _ (LI_n (X := 2) (x := 2) rfl) h_x1 h_x2 h_x3 h_v_a h_v_kept h_v_keptMany h_v_thrown hg) (fun R hq => ?_)
        obtain ⟨c0, c1, c2, c3, c4, c5, c6, c7, c8, c9, c10, c11, c12, c13, c14, c15, c16, c17, c18, c19, c20, c21, c22, c23, c24, c25, c26, c27⟩ := hq
        exact ⟨c0, c1, c2, c3, c4, c5, c6, c7, c8, c9, c10, c11, c12, c13, c14, c15, c16, c17, c18, c19, c20, c21, c22, c23, c24, c25, c26, c27⟩
set_option maxHeartbeats 4000000 in
set_option maxRecDepth 100000 in
theorem l_X6_setCovers_30 {n : Nat} : ∀ (Ft1 : Int32) (Fx1 : Int32) (t1 : Int) (x1 : Int) (Fv_a : Nat → Int32) (Fv_kept : Nat → Int32) (Fv_keptMany : Int32) (Fv_thrown : Int32) (b_this : BX6) (r : Int × BX6), LI Ft1 t1 → LI Fx1 x1 → LA Fv_a (pX6_a b_this) → LA Fv_kept (pX6_kept b_this) → LI Fv_keptMany (pX6_keptMany b_this) → LI Fv_thrown (pX6_thrown b_this) → g_X6_setCovers_30 n t1 x1 b_this = some r → ∃ R, f_X6_setCovers_30 n Ft1 Fx1 Fv_a Fv_kept Fv_keptMany Fv_thrown = some R ∧ LI (R.1) (r.1) ∧ LA (R.2.1) (pX6_a (r.2)) ∧ LA (R.2.2.1) (pX6_kept (r.2)) ∧ LI (R.2.2.2.1) (pX6_keptMany (r.2)) ∧ LI (R.2.2.2.2) (pX6_thrown (r.2)) ∧ (pX6_fresh (r.2)) = (pX6_fresh b_this) ∧ (pX6_buffer (r.2)) = (pX6_buffer b_this) ∧ (pX6_buffered (r.2)) = (pX6_buffered b_this) ∧ (pX6_size (r.2)) = (pX6_size b_this) ∧ (pX6_at (r.2)) = (pX6_at b_this) ∧ (pX6_behind (r.2)) = (pX6_behind b_this) ∧ (pX6_kind (r.2)) = (pX6_kind b_this) ∧ (pX6_wrong (r.2)) = (pX6_wrong b_this) ∧ (pX6_wrongAt (r.2)) = (pX6_wrongAt b_this) ∧ (pX6_errorAt (r.2)) = (pX6_errorAt b_this) ∧ (pX6_number (r.2)) = (pX6_number b_this) ∧ (pX6_best (r.2)) = (pX6_best b_this) ∧ (pX6_rentBy (r.2)) = (pX6_rentBy b_this) ∧ (pX6_bareBy (r.2)) = (pX6_bareBy b_this) ∧ (pX6_aheadBy (r.2)) = (pX6_aheadBy b_this) ∧ (pX6_isEdge (r.2)) = (pX6_isEdge b_this) ∧ (pX6_tried (r.2)) = (pX6_tried b_this) ∧ (pX6_stands (r.2)) = (pX6_stands b_this) ∧ (pX6_found (r.2)) = (pX6_found b_this) ∧ (pX6_foundOn (r.2)) = (pX6_foundOn b_this) ∧ (pX6_moving (r.2)) = (pX6_moving b_this) ∧ (pX6_movingMany (r.2)) = (pX6_movingMany b_this) ∧ (pX6_foundIncome (r.2)) = (pX6_foundIncome b_this) ∧ (pX6_foundMoves (r.2)) = (pX6_foundMoves b_this) := by
  intro Ft1 Fx1 t1 x1 Fv_a Fv_kept Fv_keptMany Fv_thrown b_this r h_t1 h_x1 h_v_a h_v_kept h_v_keptMany h_v_thrown hg
  unfold g_X6_setCovers_30 at hg
  unfold f_X6_setCovers_30
  refine lI (LI_le h_t1 (LI_n (X := 0) (x := 0) rfl)) hg (fun hc hg => ?_) (fun hc hg => ?_)
  · refine lB_2_1 (fun r hr => l_X6_keeps  _ _ _ (sX6_thrown b_this t1) r (LA_cg (eX6_a_thrown _ _) h_v_a) (LA_cg (eX6_kept_thrown _ _) h_v_kept) (LI_cg (eX6_keptMany_thrown _ _) h_v_keptMany) hr) hg (fun Fv_1 Fv_2 b_1 hq hg => ?_)
    obtain ⟨q_2, q_3, q_4, q_5, q_6, q_7, q_8, q_9, q_10, q_11, q_12, q_13, q_14, q_15, q_16, q_17, q_18, q_19, q_20, q_21, q_22, q_23, q_24, q_25, q_26, q_27, q_28, q_29⟩ := hq
    have qe_30 := Eq.trans q_4 (eX6_a_thrown _ _)
    have qe_31 := Eq.trans q_5 (eX6_fresh_thrown _ _)
    have qe_32 := Eq.trans q_6 (eX6_thrown_thrown _ _)
    have qe_33 := Eq.trans q_7 (eX6_buffer_thrown _ _)
    have qe_34 := Eq.trans q_8 (eX6_buffered_thrown _ _)
    have qe_35 := Eq.trans q_9 (eX6_size_thrown _ _)
    have qe_36 := Eq.trans q_10 (eX6_at_thrown _ _)
    have qe_37 := Eq.trans q_11 (eX6_behind_thrown _ _)
    have qe_38 := Eq.trans q_12 (eX6_kind_thrown _ _)
    have qe_39 := Eq.trans q_13 (eX6_wrong_thrown _ _)
    have qe_40 := Eq.trans q_14 (eX6_wrongAt_thrown _ _)
    have qe_41 := Eq.trans q_15 (eX6_errorAt_thrown _ _)
    have qe_42 := Eq.trans q_16 (eX6_number_thrown _ _)
    have qe_43 := Eq.trans q_17 (eX6_best_thrown _ _)
    have qe_44 := Eq.trans q_18 (eX6_rentBy_thrown _ _)
    have qe_45 := Eq.trans q_19 (eX6_bareBy_thrown _ _)
    have qe_46 := Eq.trans q_20 (eX6_aheadBy_thrown _ _)
    have qe_47 := Eq.trans q_21 (eX6_isEdge_thrown _ _)
    have qe_48 := Eq.trans q_22 (eX6_tried_thrown _ _)
    have qe_49 := Eq.trans q_23 (eX6_stands_thrown _ _)
    have qe_50 := Eq.trans q_24 (eX6_found_thrown _ _)
    have qe_51 := Eq.trans q_25 (eX6_foundOn_thrown _ _)
    have qe_52 := Eq.trans q_26 (eX6_moving_thrown _ _)
    have qe_53 := Eq.trans q_27 (eX6_movingMany_thrown _ _)
    have qe_54 := Eq.trans q_28 (eX6_foundIncome_thrown _ _)
    have qe_55 := Eq.trans q_29 (eX6_foundMoves_thrown _ _)
    have hl_56 := (LA_cg qe_30 h_v_a)
    have hl_57 := (LI_cg qe_32 h_t1)
    refine lA (EI_i (LI_n (X := 179) (x := 179) rfl)) rfl hg (fun ha_58 hg => ?_)
    refine lL (LA_at hl_56 (EI_i (LI_n (X := 179) (x := 179) rfl)) ha_58) hg (fun Fy_5 y_5 h_y_5 hg => ?_)
    refine lA (EI_i (LI_n (X := 179) (x := 179) rfl)) rfl hg (fun ha_59 hg => ?_)
    refine lL (LA_upd hl_56 (EI_i (LI_n (X := 179) (x := 179) rfl)) ha_59 h_x1) hg (fun Fv_7 v_7 h_v_7 hg => ?_)
    cases hg
    exact ⟨_, rfl, h_y_5, (LA_cg (eX6_a_a _ _) h_v_7), (LA_cg (eX6_kept_a _ _) q_2), (LI_cg (eX6_keptMany_a _ _) q_3), (LI_cg (eX6_thrown_a _ _) hl_57), (Eq.trans (eX6_fresh_a _ _) qe_31), (Eq.trans (eX6_buffer_a _ _) qe_33), (Eq.trans (eX6_buffered_a _ _) qe_34), (Eq.trans (eX6_size_a _ _) qe_35), (Eq.trans (eX6_at_a _ _) qe_36), (Eq.trans (eX6_behind_a _ _) qe_37), (Eq.trans (eX6_kind_a _ _) qe_38), (Eq.trans (eX6_wrong_a _ _) qe_39), (Eq.trans (eX6_wrongAt_a _ _) qe_40), (Eq.trans (eX6_errorAt_a _ _) qe_41), (Eq.trans (eX6_number_a _ _) qe_42), (Eq.trans (eX6_best_a _ _) qe_43), (Eq.trans (eX6_rentBy_a _ _) qe_44), (Eq.trans (eX6_bareBy_a _ _) qe_45), (Eq.trans (eX6_aheadBy_a _ _) qe_46), (Eq.trans (eX6_isEdge_a _ _) qe_47), (Eq.trans (eX6_tried_a _ _) qe_48), (Eq.trans (eX6_stands_a _ _) qe_49), (Eq.trans (eX6_found_a _ _) qe_50), (Eq.trans (eX6_foundOn_a _ _) qe_51), (Eq.trans (eX6_moving_a _ _) qe_52), (Eq.trans (eX6_movingMany_a _ _) qe_53), (Eq.trans (eX6_foundIncome_a _ _) qe_54), (Eq.trans (eX6_foundMoves_a _ _) qe_55)⟩
  · cases hg
    exact ⟨_, rfl, (LI_n (X := 0) (x := 0) rfl), (LA_cg (eX6_a_thrown _ _) h_v_a), (LA_cg (eX6_kept_thrown _ _) h_v_kept), (LI_cg (eX6_keptMany_thrown _ _) h_v_keptMany), (LI_cg (eX6_thrown_thrown _ _) h_t1), (eX6_fresh_thrown _ _), (eX6_buffer_thrown _ _), (eX6_buffered_thrown _ _), (eX6_size_thrown _ _), (eX6_at_thrown _ _), (eX6_behind_thrown _ _), (eX6_kind_thrown _ _), (eX6_wrong_thrown _ _), (eX6_wrongAt_thrown _ _), (eX6_errorAt_thrown _ _), (eX6_number_thrown _ _), (eX6_best_thrown _ _), (eX6_rentBy_thrown _ _), (eX6_bareBy_thrown _ _), (eX6_aheadBy_thrown _ _), (eX6_isEdge_thrown _ _), (eX6_tried_thrown _ _), (eX6_stands_thrown _ _), (eX6_found_thrown _ _), (eX6_foundOn_thrown _ _), (eX6_moving_thrown _ _), (eX6_movingMany_thrown _ _), (eX6_foundIncome_thrown _ _), (eX6_foundMoves_thrown _ _)⟩
set_option maxHeartbeats 4000000 in
set_option maxRecDepth 100000 in
theorem l_X6_setCovers {n : Nat} : ∀ (Fx1 : Int32) (x1 : Int) (Fv_a : Nat → Int32) (Fv_kept : Nat → Int32) (Fv_keptMany : Int32) (Fv_thrown : Int32) (b_this : BX6) (r : Int × BX6), LI Fx1 x1 → LA Fv_a (pX6_a b_this) → LA Fv_kept (pX6_kept b_this) → LI Fv_keptMany (pX6_keptMany b_this) → LI Fv_thrown (pX6_thrown b_this) → g_X6_setCovers n b_this x1 = some r → ∃ R, f_X6_setCovers n Fv_a Fv_kept Fv_keptMany Fv_thrown Fx1 = some R ∧ LI (R.1) (r.1) ∧ LA (R.2.1) (pX6_a (r.2)) ∧ LA (R.2.2.1) (pX6_kept (r.2)) ∧ LI (R.2.2.2.1) (pX6_keptMany (r.2)) ∧ LI (R.2.2.2.2) (pX6_thrown (r.2)) ∧ (pX6_fresh (r.2)) = (pX6_fresh b_this) ∧ (pX6_buffer (r.2)) = (pX6_buffer b_this) ∧ (pX6_buffered (r.2)) = (pX6_buffered b_this) ∧ (pX6_size (r.2)) = (pX6_size b_this) ∧ (pX6_at (r.2)) = (pX6_at b_this) ∧ (pX6_behind (r.2)) = (pX6_behind b_this) ∧ (pX6_kind (r.2)) = (pX6_kind b_this) ∧ (pX6_wrong (r.2)) = (pX6_wrong b_this) ∧ (pX6_wrongAt (r.2)) = (pX6_wrongAt b_this) ∧ (pX6_errorAt (r.2)) = (pX6_errorAt b_this) ∧ (pX6_number (r.2)) = (pX6_number b_this) ∧ (pX6_best (r.2)) = (pX6_best b_this) ∧ (pX6_rentBy (r.2)) = (pX6_rentBy b_this) ∧ (pX6_bareBy (r.2)) = (pX6_bareBy b_this) ∧ (pX6_aheadBy (r.2)) = (pX6_aheadBy b_this) ∧ (pX6_isEdge (r.2)) = (pX6_isEdge b_this) ∧ (pX6_tried (r.2)) = (pX6_tried b_this) ∧ (pX6_stands (r.2)) = (pX6_stands b_this) ∧ (pX6_found (r.2)) = (pX6_found b_this) ∧ (pX6_foundOn (r.2)) = (pX6_foundOn b_this) ∧ (pX6_moving (r.2)) = (pX6_moving b_this) ∧ (pX6_movingMany (r.2)) = (pX6_movingMany b_this) ∧ (pX6_foundIncome (r.2)) = (pX6_foundIncome b_this) ∧ (pX6_foundMoves (r.2)) = (pX6_foundMoves b_this) := by
  intro Fx1 x1 Fv_a Fv_kept Fv_keptMany Fv_thrown b_this r h_x1 h_v_a h_v_kept h_v_keptMany h_v_thrown hg
  unfold g_X6_setCovers at hg
  unfold f_X6_setCovers
  refine lB_1_1 (fun r hr => l_X6_isIn  _ _ _ _ _ _ r (LJ_i h_x1) (LJ_n (X := 0) (x := 0) rfl) (LJ_n (X := 4) (x := 4) rfl) hr) hg (fun Fr_8 r_8 hq hg => ?_)
  have q_60 := hq
  refine lI (LI_eq q_60 (LI_n (X := 0) (x := 0) rfl)) hg (fun hc hg => ?_) (fun hc hg => ?_)
  · refine lJ (l_X6_setCovers_30 _ _ _ _ _ _ _ _ b_this _ (LI_n (X := 1) (x := 1) rfl) h_x1 h_v_a h_v_kept h_v_keptMany h_v_thrown hg) (fun R hq => ?_)
    obtain ⟨c0, c1, c2, c3, c4, c5, c6, c7, c8, c9, c10, c11, c12, c13, c14, c15, c16, c17, c18, c19, c20, c21, c22, c23, c24, c25, c26, c27, c28⟩ := hq
    exact ⟨c0, c1, c2, c3, c4, c5, c6, c7, c8, c9, c10, c11, c12, c13, c14, c15, c16, c17, c18, c19, c20, c21, c22, c23, c24, c25, c26, c27, c28⟩
  · refine lB_1_1 (fun r hr => l_X6_usedCovers  _ b_this r h_v_a hr) hg (fun Fr_10 r_10 hq hg => ?_)
    have q_61 := hq
    refine lI (LI_le q_61 h_x1) hg (fun hc hg => ?_) (fun hc hg => ?_)
    · refine lJ (l_X6_setCovers_30 _ _ _ _ _ _ _ _ b_this _ (LI_n (X := 0) (x := 0) rfl) h_x1 h_v_a h_v_kept h_v_keptMany h_v_thrown hg) (fun R hq => ?_)
      obtain ⟨c0, c1, c2, c3, c4, c5, c6, c7, c8, c9, c10, c11, c12, c13, c14, c15, c16, c17, c18, c19, c20, c21, c22, c23, c24, c25, c26, c27, c28⟩ := hq
      exact ⟨c0, c1, c2, c3, c4, c5, c6, c7, c8, c9, c10, c11, c12, c13, c14, c15, c16, c17, c18, c19, c20, c21, c22, c23, c24, c25, c26, c27, c28⟩
    · refine lJ (l_X6_setCovers_30 _ _ _ _ _ _ _ _ b_this _ (LI_n (X := 2) (x := 2) rfl) h_x1 h_v_a h_v_kept h_v_keptMany h_v_thrown hg) (fun R hq => ?_)
      obtain ⟨c0, c1, c2, c3, c4, c5, c6, c7, c8, c9, c10, c11, c12, c13, c14, c15, c16, c17, c18, c19, c20, c21, c22, c23, c24, c25, c26, c27, c28⟩ := hq
      exact ⟨c0, c1, c2, c3, c4, c5, c6, c7, c8, c9, c10, c11, c12, c13, c14, c15, c16, c17, c18, c19, c20, c21, c22, c23, c24, c25, c26, c27, c28⟩
set_option maxHeartbeats 4000000 in
set_option maxRecDepth 100000 in
theorem l_X6_setRent_30 {n : Nat} : ∀ (Ft1 : Int32) (Fx1 : Int32) (Fx2 : Int32) (t1 : Int) (x1 : Int) (x2 : Int) (Fv_a : Nat → Int32) (Fv_kept : Nat → Int32) (Fv_keptMany : Int32) (Fv_thrown : Int32) (b_this : BX6) (r : Int × BX6), LI Ft1 t1 → LI Fx1 x1 → LI Fx2 x2 → LA Fv_a (pX6_a b_this) → LA Fv_kept (pX6_kept b_this) → LI Fv_keptMany (pX6_keptMany b_this) → LI Fv_thrown (pX6_thrown b_this) → g_X6_setRent_30 n t1 x1 x2 b_this = some r → ∃ R, f_X6_setRent_30 n Ft1 Fx1 Fx2 Fv_a Fv_kept Fv_keptMany Fv_thrown = some R ∧ LI (R.1) (r.1) ∧ LA (R.2.1) (pX6_a (r.2)) ∧ LA (R.2.2.1) (pX6_kept (r.2)) ∧ LI (R.2.2.2.1) (pX6_keptMany (r.2)) ∧ LI (R.2.2.2.2) (pX6_thrown (r.2)) ∧ (pX6_fresh (r.2)) = (pX6_fresh b_this) ∧ (pX6_buffer (r.2)) = (pX6_buffer b_this) ∧ (pX6_buffered (r.2)) = (pX6_buffered b_this) ∧ (pX6_size (r.2)) = (pX6_size b_this) ∧ (pX6_at (r.2)) = (pX6_at b_this) ∧ (pX6_behind (r.2)) = (pX6_behind b_this) ∧ (pX6_kind (r.2)) = (pX6_kind b_this) ∧ (pX6_wrong (r.2)) = (pX6_wrong b_this) ∧ (pX6_wrongAt (r.2)) = (pX6_wrongAt b_this) ∧ (pX6_errorAt (r.2)) = (pX6_errorAt b_this) ∧ (pX6_number (r.2)) = (pX6_number b_this) ∧ (pX6_best (r.2)) = (pX6_best b_this) ∧ (pX6_rentBy (r.2)) = (pX6_rentBy b_this) ∧ (pX6_bareBy (r.2)) = (pX6_bareBy b_this) ∧ (pX6_aheadBy (r.2)) = (pX6_aheadBy b_this) ∧ (pX6_isEdge (r.2)) = (pX6_isEdge b_this) ∧ (pX6_tried (r.2)) = (pX6_tried b_this) ∧ (pX6_stands (r.2)) = (pX6_stands b_this) ∧ (pX6_found (r.2)) = (pX6_found b_this) ∧ (pX6_foundOn (r.2)) = (pX6_foundOn b_this) ∧ (pX6_moving (r.2)) = (pX6_moving b_this) ∧ (pX6_movingMany (r.2)) = (pX6_movingMany b_this) ∧ (pX6_foundIncome (r.2)) = (pX6_foundIncome b_this) ∧ (pX6_foundMoves (r.2)) = (pX6_foundMoves b_this) := by
  intro Ft1 Fx1 Fx2 t1 x1 x2 Fv_a Fv_kept Fv_keptMany Fv_thrown b_this r h_t1 h_x1 h_x2 h_v_a h_v_kept h_v_keptMany h_v_thrown hg
  unfold g_X6_setRent_30 at hg
  unfold f_X6_setRent_30
  refine lI (LI_le h_t1 (LI_n (X := 0) (x := 0) rfl)) hg (fun hc hg => ?_) (fun hc hg => ?_)
  · refine lB_2_1 (fun r hr => l_X6_keeps  _ _ _ (sX6_thrown b_this t1) r (LA_cg (eX6_a_thrown _ _) h_v_a) (LA_cg (eX6_kept_thrown _ _) h_v_kept) (LI_cg (eX6_keptMany_thrown _ _) h_v_keptMany) hr) hg (fun Fv_1 Fv_2 b_1 hq hg => ?_)
    obtain ⟨q_2, q_3, q_4, q_5, q_6, q_7, q_8, q_9, q_10, q_11, q_12, q_13, q_14, q_15, q_16, q_17, q_18, q_19, q_20, q_21, q_22, q_23, q_24, q_25, q_26, q_27, q_28, q_29⟩ := hq
    have qe_30 := Eq.trans q_4 (eX6_a_thrown _ _)
    have qe_31 := Eq.trans q_5 (eX6_fresh_thrown _ _)
    have qe_32 := Eq.trans q_6 (eX6_thrown_thrown _ _)
    have qe_33 := Eq.trans q_7 (eX6_buffer_thrown _ _)
    have qe_34 := Eq.trans q_8 (eX6_buffered_thrown _ _)
    have qe_35 := Eq.trans q_9 (eX6_size_thrown _ _)
    have qe_36 := Eq.trans q_10 (eX6_at_thrown _ _)
    have qe_37 := Eq.trans q_11 (eX6_behind_thrown _ _)
    have qe_38 := Eq.trans q_12 (eX6_kind_thrown _ _)
    have qe_39 := Eq.trans q_13 (eX6_wrong_thrown _ _)
    have qe_40 := Eq.trans q_14 (eX6_wrongAt_thrown _ _)
    have qe_41 := Eq.trans q_15 (eX6_errorAt_thrown _ _)
    have qe_42 := Eq.trans q_16 (eX6_number_thrown _ _)
    have qe_43 := Eq.trans q_17 (eX6_best_thrown _ _)
    have qe_44 := Eq.trans q_18 (eX6_rentBy_thrown _ _)
    have qe_45 := Eq.trans q_19 (eX6_bareBy_thrown _ _)
    have qe_46 := Eq.trans q_20 (eX6_aheadBy_thrown _ _)
    have qe_47 := Eq.trans q_21 (eX6_isEdge_thrown _ _)
    have qe_48 := Eq.trans q_22 (eX6_tried_thrown _ _)
    have qe_49 := Eq.trans q_23 (eX6_stands_thrown _ _)
    have qe_50 := Eq.trans q_24 (eX6_found_thrown _ _)
    have qe_51 := Eq.trans q_25 (eX6_foundOn_thrown _ _)
    have qe_52 := Eq.trans q_26 (eX6_moving_thrown _ _)
    have qe_53 := Eq.trans q_27 (eX6_movingMany_thrown _ _)
    have qe_54 := Eq.trans q_28 (eX6_foundIncome_thrown _ _)
    have qe_55 := Eq.trans q_29 (eX6_foundMoves_thrown _ _)
    have hl_56 := (LA_cg qe_30 h_v_a)
    have hl_57 := (LI_cg qe_32 h_t1)
    refine lA (EI_add (EI_i (LI_n (X := 2) (x := 2) rfl)) (EI_i h_x1)) rfl hg (fun ha_58 hg => ?_)
    refine lL (LA_upd hl_56 (EI_add (EI_i (LI_n (X := 2) (x := 2) rfl)) (EI_i h_x1)) ha_58 h_x2) hg (fun Fv_5 v_5 h_v_5 hg => ?_)
    refine lB_1_1 (fun r hr => l_X6_on  _ _ _ (sX6_a b_1 v_5) r h_x1 (LA_cg (eX6_a_a _ _) h_v_5) hr) hg (fun Fr_6 r_6 hq hg => ?_)
    have q_59 := hq
    refine lI (LI_eq q_59 (LI_n (X := -1) (x := -1) rfl)) hg (fun hc hg => ?_) (fun hc hg => ?_)
    · cases hg
      exact ⟨_, rfl, (LI_n (X := -1) (x := -1) rfl), (LA_cg (eX6_a_a _ _) h_v_5), (LA_cg (eX6_kept_a _ _) q_2), (LI_cg (eX6_keptMany_a _ _) q_3), (LI_cg (eX6_thrown_a _ _) hl_57), (Eq.trans (eX6_fresh_a _ _) qe_31), (Eq.trans (eX6_buffer_a _ _) qe_33), (Eq.trans (eX6_buffered_a _ _) qe_34), (Eq.trans (eX6_size_a _ _) qe_35), (Eq.trans (eX6_at_a _ _) qe_36), (Eq.trans (eX6_behind_a _ _) qe_37), (Eq.trans (eX6_kind_a _ _) qe_38), (Eq.trans (eX6_wrong_a _ _) qe_39), (Eq.trans (eX6_wrongAt_a _ _) qe_40), (Eq.trans (eX6_errorAt_a _ _) qe_41), (Eq.trans (eX6_number_a _ _) qe_42), (Eq.trans (eX6_best_a _ _) qe_43), (Eq.trans (eX6_rentBy_a _ _) qe_44), (Eq.trans (eX6_bareBy_a _ _) qe_45), (Eq.trans (eX6_aheadBy_a _ _) qe_46), (Eq.trans (eX6_isEdge_a _ _) qe_47), (Eq.trans (eX6_tried_a _ _) qe_48), (Eq.trans (eX6_stands_a _ _) qe_49), (Eq.trans (eX6_found_a _ _) qe_50), (Eq.trans (eX6_foundOn_a _ _) qe_51), (Eq.trans (eX6_moving_a _ _) qe_52), (Eq.trans (eX6_movingMany_a _ _) qe_53), (Eq.trans (eX6_foundIncome_a _ _) qe_54), (Eq.trans (eX6_foundMoves_a _ _) qe_55)⟩
    · refine lA (EI_add (EI_i (LI_n (X := 107) (x := 107) rfl)) (EI_i q_59)) rfl hg (fun ha_60 hg => ?_)
      refine lB_1_1 (fun r hr => l_X6_rentOf  _ _ _ _ _ (sX6_a b_1 v_5) r q_59 (LA_at h_v_5 (EI_add (EI_i (LI_n (X := 107) (x := 107) rfl)) (EI_i q_59)) ha_60) (LA_cg (eX6_a_a _ _) h_v_5) hr) hg (fun Fr_9 r_9 hq hg => ?_)
      have q_61 := hq
      refine lA (EI_add (EI_i (LI_n (X := 91) (x := 91) rfl)) (EI_i q_59)) rfl hg (fun ha_62 hg => ?_)
      refine lI (LI_lt (LA_at h_v_5 (EI_add (EI_i (LI_n (X := 91) (x := 91) rfl)) (EI_i q_59)) ha_62) q_61) hg (fun hc hg => ?_) (fun hc hg => ?_)
      · refine lA (EI_add (EI_i (LI_n (X := 107) (x := 107) rfl)) (EI_i q_59)) rfl hg (fun ha_63 hg => ?_)
        refine lL (LA_upd h_v_5 (EI_add (EI_i (LI_n (X := 107) (x := 107) rfl)) (EI_i q_59)) ha_63 (LI_n (X := -1) (x := -1) rfl)) hg (fun Fv_13 v_13 h_v_13 hg => ?_)
        cases hg
        exact ⟨_, rfl, q_59, (LA_cg (eX6_a_a _ _) h_v_13), (LA_cg (eX6_kept_a _ _) q_2), (LI_cg (eX6_keptMany_a _ _) q_3), (LI_cg (eX6_thrown_a _ _) hl_57), (Eq.trans (eX6_fresh_a _ _) qe_31), (Eq.trans (eX6_buffer_a _ _) qe_33), (Eq.trans (eX6_buffered_a _ _) qe_34), (Eq.trans (eX6_size_a _ _) qe_35), (Eq.trans (eX6_at_a _ _) qe_36), (Eq.trans (eX6_behind_a _ _) qe_37), (Eq.trans (eX6_kind_a _ _) qe_38), (Eq.trans (eX6_wrong_a _ _) qe_39), (Eq.trans (eX6_wrongAt_a _ _) qe_40), (Eq.trans (eX6_errorAt_a _ _) qe_41), (Eq.trans (eX6_number_a _ _) qe_42), (Eq.trans (eX6_best_a _ _) qe_43), (Eq.trans (eX6_rentBy_a _ _) qe_44), (Eq.trans (eX6_bareBy_a _ _) qe_45), (Eq.trans (eX6_aheadBy_a _ _) qe_46), (Eq.trans (eX6_isEdge_a _ _) qe_47), (Eq.trans (eX6_tried_a _ _) qe_48), (Eq.trans (eX6_stands_a _ _) qe_49), (Eq.trans (eX6_found_a _ _) qe_50), (Eq.trans (eX6_foundOn_a _ _) qe_51), (Eq.trans (eX6_moving_a _ _) qe_52), (Eq.trans (eX6_movingMany_a _ _) qe_53), (Eq.trans (eX6_foundIncome_a _ _) qe_54), (Eq.trans (eX6_foundMoves_a _ _) qe_55)⟩
      · cases hg
        exact ⟨_, rfl, (LI_n (X := -1) (x := -1) rfl), (LA_cg (eX6_a_a _ _) h_v_5), (LA_cg (eX6_kept_a _ _) q_2), (LI_cg (eX6_keptMany_a _ _) q_3), (LI_cg (eX6_thrown_a _ _) hl_57), (Eq.trans (eX6_fresh_a _ _) qe_31), (Eq.trans (eX6_buffer_a _ _) qe_33), (Eq.trans (eX6_buffered_a _ _) qe_34), (Eq.trans (eX6_size_a _ _) qe_35), (Eq.trans (eX6_at_a _ _) qe_36), (Eq.trans (eX6_behind_a _ _) qe_37), (Eq.trans (eX6_kind_a _ _) qe_38), (Eq.trans (eX6_wrong_a _ _) qe_39), (Eq.trans (eX6_wrongAt_a _ _) qe_40), (Eq.trans (eX6_errorAt_a _ _) qe_41), (Eq.trans (eX6_number_a _ _) qe_42), (Eq.trans (eX6_best_a _ _) qe_43), (Eq.trans (eX6_rentBy_a _ _) qe_44), (Eq.trans (eX6_bareBy_a _ _) qe_45), (Eq.trans (eX6_aheadBy_a _ _) qe_46), (Eq.trans (eX6_isEdge_a _ _) qe_47), (Eq.trans (eX6_tried_a _ _) qe_48), (Eq.trans (eX6_stands_a _ _) qe_49), (Eq.trans (eX6_found_a _ _) qe_50), (Eq.trans (eX6_foundOn_a _ _) qe_51), (Eq.trans (eX6_moving_a _ _) qe_52), (Eq.trans (eX6_movingMany_a _ _) qe_53), (Eq.trans (eX6_foundIncome_a _ _) qe_54), (Eq.trans (eX6_foundMoves_a _ _) qe_55)⟩
  · cases hg
    exact ⟨_, rfl, (LI_n (X := 0) (x := 0) rfl), (LA_cg (eX6_a_thrown _ _) h_v_a), (LA_cg (eX6_kept_thrown _ _) h_v_kept), (LI_cg (eX6_keptMany_thrown _ _) h_v_keptMany), (LI_cg (eX6_thrown_thrown _ _) h_t1), (eX6_fresh_thrown _ _), (eX6_buffer_thrown _ _), (eX6_buffered_thrown _ _), (eX6_size_thrown _ _), (eX6_at_thrown _ _), (eX6_behind_thrown _ _), (eX6_kind_thrown _ _), (eX6_wrong_thrown _ _), (eX6_wrongAt_thrown _ _), (eX6_errorAt_thrown _ _), (eX6_number_thrown _ _), (eX6_best_thrown _ _), (eX6_rentBy_thrown _ _), (eX6_bareBy_thrown _ _), (eX6_aheadBy_thrown _ _), (eX6_isEdge_thrown _ _), (eX6_tried_thrown _ _), (eX6_stands_thrown _ _), (eX6_found_thrown _ _), (eX6_foundOn_thrown _ _), (eX6_moving_thrown _ _), (eX6_movingMany_thrown _ _), (eX6_foundIncome_thrown _ _), (eX6_foundMoves_thrown _ _)⟩
set_option maxHeartbeats 4000000 in
set_option maxRecDepth 100000 in
theorem l_X6_setRent {n : Nat} : ∀ (Fx1 : Int32) (Fx2 : Int32) (x1 : Int) (x2 : Int) (Fv_a : Nat → Int32) (Fv_kept : Nat → Int32) (Fv_keptMany : Int32) (Fv_thrown : Int32) (b_this : BX6) (r : Int × BX6), LI Fx1 x1 → LI Fx2 x2 → LA Fv_a (pX6_a b_this) → LA Fv_kept (pX6_kept b_this) → LI Fv_keptMany (pX6_keptMany b_this) → LI Fv_thrown (pX6_thrown b_this) → g_X6_setRent n b_this x1 x2 = some r → ∃ R, f_X6_setRent n Fv_a Fv_kept Fv_keptMany Fv_thrown Fx1 Fx2 = some R ∧ LI (R.1) (r.1) ∧ LA (R.2.1) (pX6_a (r.2)) ∧ LA (R.2.2.1) (pX6_kept (r.2)) ∧ LI (R.2.2.2.1) (pX6_keptMany (r.2)) ∧ LI (R.2.2.2.2) (pX6_thrown (r.2)) ∧ (pX6_fresh (r.2)) = (pX6_fresh b_this) ∧ (pX6_buffer (r.2)) = (pX6_buffer b_this) ∧ (pX6_buffered (r.2)) = (pX6_buffered b_this) ∧ (pX6_size (r.2)) = (pX6_size b_this) ∧ (pX6_at (r.2)) = (pX6_at b_this) ∧ (pX6_behind (r.2)) = (pX6_behind b_this) ∧ (pX6_kind (r.2)) = (pX6_kind b_this) ∧ (pX6_wrong (r.2)) = (pX6_wrong b_this) ∧ (pX6_wrongAt (r.2)) = (pX6_wrongAt b_this) ∧ (pX6_errorAt (r.2)) = (pX6_errorAt b_this) ∧ (pX6_number (r.2)) = (pX6_number b_this) ∧ (pX6_best (r.2)) = (pX6_best b_this) ∧ (pX6_rentBy (r.2)) = (pX6_rentBy b_this) ∧ (pX6_bareBy (r.2)) = (pX6_bareBy b_this) ∧ (pX6_aheadBy (r.2)) = (pX6_aheadBy b_this) ∧ (pX6_isEdge (r.2)) = (pX6_isEdge b_this) ∧ (pX6_tried (r.2)) = (pX6_tried b_this) ∧ (pX6_stands (r.2)) = (pX6_stands b_this) ∧ (pX6_found (r.2)) = (pX6_found b_this) ∧ (pX6_foundOn (r.2)) = (pX6_foundOn b_this) ∧ (pX6_moving (r.2)) = (pX6_moving b_this) ∧ (pX6_movingMany (r.2)) = (pX6_movingMany b_this) ∧ (pX6_foundIncome (r.2)) = (pX6_foundIncome b_this) ∧ (pX6_foundMoves (r.2)) = (pX6_foundMoves b_this) := by
  intro Fx1 Fx2 x1 x2 Fv_a Fv_kept Fv_keptMany Fv_thrown b_this r h_x1 h_x2 h_v_a h_v_kept h_v_keptMany h_v_thrown hg
  unfold g_X6_setRent at hg
  unfold f_X6_setRent
  refine lB_1_1 (fun r hr => l_X6_isPitch  _ _ _ b_this r h_x1 h_v_a hr) hg (fun Fr_14 r_14 hq hg => ?_)
  have q_64 := hq
  refine lI (LI_eq q_64 (LI_n (X := 0) (x := 0) rfl)) hg (fun hc hg => ?_) (fun hc hg => ?_)
  · refine lJ (l_X6_setRent_30 _ _ _ _ _ _ _ _ _ _ b_this _ (LI_n (X := 1) (x := 1) rfl) h_x1 h_x2 h_v_a h_v_kept h_v_keptMany h_v_thrown hg) (fun R hq => ?_)
    obtain ⟨c0, c1, c2, c3, c4, c5, c6, c7, c8, c9, c10, c11, c12, c13, c14, c15, c16, c17, c18, c19, c20, c21, c22, c23, c24, c25, c26, c27, c28⟩ := hq
    exact ⟨c0, c1, c2, c3, c4, c5, c6, c7, c8, c9, c10, c11, c12, c13, c14, c15, c16, c17, c18, c19, c20, c21, c22, c23, c24, c25, c26, c27, c28⟩
  · refine lB_1_1 (fun r hr => l_X6_isIn  _ _ _ _ _ _ r (LJ_i h_x2) (LJ_n (X := 1) (x := 1) rfl) (LJ_n (X := 999) (x := 999) rfl) hr) hg (fun Fr_16 r_16 hq hg => ?_)
    have q_65 := hq
    refine lI (LI_eq q_65 (LI_n (X := 0) (x := 0) rfl)) hg (fun hc hg => ?_) (fun hc hg => ?_)
    · refine lJ (l_X6_setRent_30 _ _ _ _ _ _ _ _ _ _ b_this _ (LI_n (X := 2) (x := 2) rfl) h_x1 h_x2 h_v_a h_v_kept h_v_keptMany h_v_thrown hg) (fun R hq => ?_)
      obtain ⟨c0, c1, c2, c3, c4, c5, c6, c7, c8, c9, c10, c11, c12, c13, c14, c15, c16, c17, c18, c19, c20, c21, c22, c23, c24, c25, c26, c27, c28⟩ := hq
      exact ⟨c0, c1, c2, c3, c4, c5, c6, c7, c8, c9, c10, c11, c12, c13, c14, c15, c16, c17, c18, c19, c20, c21, c22, c23, c24, c25, c26, c27, c28⟩
    · refine lJ (l_X6_setRent_30 _ _ _ _ _ _ _ _ _ _ b_this _ (LI_n (X := 0) (x := 0) rfl) h_x1 h_x2 h_v_a h_v_kept h_v_keptMany h_v_thrown hg) (fun R hq => ?_)
      obtain ⟨c0, c1, c2, c3, c4, c5, c6, c7, c8, c9, c10, c11, c12, c13, c14, c15, c16, c17, c18, c19, c20, c21, c22, c23, c24, c25, c26, c27, c28⟩ := hq
      exact ⟨c0, c1, c2, c3, c4, c5, c6, c7, c8, c9, c10, c11, c12, c13, c14, c15, c16, c17, c18, c19, c20, c21, c22, c23, c24, c25, c26, c27, c28⟩
set_option maxHeartbeats 4000000 in
set_option maxRecDepth 100000 in
theorem l_X6_start : ∀ (Fx1 : Int32) (x1 : Int) (Fv_a : Nat → Int32) (Fv_thrown : Int32) (b_this : BX6) (r : Int × BX6), LI Fx1 x1 → LA Fv_a (pX6_a b_this) → LI Fv_thrown (pX6_thrown b_this) → g_X6_start b_this x1 = some r → ∃ R, f_X6_start Fv_a Fv_thrown Fx1 = some R ∧ LI (R.1) (r.1) ∧ LI (R.2) (pX6_thrown (r.2)) ∧ (pX6_a (r.2)) = (pX6_a b_this) ∧ (pX6_fresh (r.2)) = (pX6_fresh b_this) ∧ (pX6_kept (r.2)) = (pX6_kept b_this) ∧ (pX6_keptMany (r.2)) = (pX6_keptMany b_this) ∧ (pX6_buffer (r.2)) = (pX6_buffer b_this) ∧ (pX6_buffered (r.2)) = (pX6_buffered b_this) ∧ (pX6_size (r.2)) = (pX6_size b_this) ∧ (pX6_at (r.2)) = (pX6_at b_this) ∧ (pX6_behind (r.2)) = (pX6_behind b_this) ∧ (pX6_kind (r.2)) = (pX6_kind b_this) ∧ (pX6_wrong (r.2)) = (pX6_wrong b_this) ∧ (pX6_wrongAt (r.2)) = (pX6_wrongAt b_this) ∧ (pX6_errorAt (r.2)) = (pX6_errorAt b_this) ∧ (pX6_number (r.2)) = (pX6_number b_this) ∧ (pX6_best (r.2)) = (pX6_best b_this) ∧ (pX6_rentBy (r.2)) = (pX6_rentBy b_this) ∧ (pX6_bareBy (r.2)) = (pX6_bareBy b_this) ∧ (pX6_aheadBy (r.2)) = (pX6_aheadBy b_this) ∧ (pX6_isEdge (r.2)) = (pX6_isEdge b_this) ∧ (pX6_tried (r.2)) = (pX6_tried b_this) ∧ (pX6_stands (r.2)) = (pX6_stands b_this) ∧ (pX6_found (r.2)) = (pX6_found b_this) ∧ (pX6_foundOn (r.2)) = (pX6_foundOn b_this) ∧ (pX6_moving (r.2)) = (pX6_moving b_this) ∧ (pX6_movingMany (r.2)) = (pX6_movingMany b_this) ∧ (pX6_foundIncome (r.2)) = (pX6_foundIncome b_this) ∧ (pX6_foundMoves (r.2)) = (pX6_foundMoves b_this) := by
  intro Fx1 x1 Fv_a Fv_thrown b_this r h_x1 h_v_a h_v_thrown hg
  unfold g_X6_start at hg
  unfold f_X6_start
  refine lB_2_2 (fun r hr => l_X6_traderValue  _ _ _ _ _ _ b_this r (LI_n (X := 107) (x := 107) rfl) h_x1 h_v_a h_v_thrown hr) hg (fun Fr_1 Fv_2 r_1 b_1 hq hg => ?_)
  obtain ⟨q_2, q_3, q_4, q_5, q_6, q_7, q_8, q_9, q_10, q_11, q_12, q_13, q_14, q_15, q_16, q_17, q_18, q_19, q_20, q_21, q_22, q_23, q_24, q_25, q_26, q_27, q_28, q_29, q_30⟩ := hq
  have hl_31 := (LA_cg q_4 h_v_a)
  cases hg
  exact ⟨_, rfl, q_2, q_3, q_4, q_5, q_6, q_7, q_8, q_9, q_10, q_11, q_12, q_13, q_14, q_15, q_16, q_17, q_18, q_19, q_20, q_21, q_22, q_23, q_24, q_25, q_26, q_27, q_28, q_29, q_30⟩
set_option maxHeartbeats 4000000 in
set_option maxRecDepth 100000 in
theorem l_X6_swap_35 {n : Nat} : ∀ (Ft1 : Int32) (Fx1 : Int32) (Fx2 : Int32) (t1 : Int) (x1 : Int) (x2 : Int) (Fv_a : Nat → Int32) (Fv_kept : Nat → Int32) (Fv_keptMany : Int32) (Fv_thrown : Int32) (Fv_tried : Nat → Int32) (Fv_stands : Nat → Int32) (b_this : BX6) (r : Int × BX6), LI Ft1 t1 → LI Fx1 x1 → LI Fx2 x2 → LA Fv_a (pX6_a b_this) → LA Fv_kept (pX6_kept b_this) → LI Fv_keptMany (pX6_keptMany b_this) → LI Fv_thrown (pX6_thrown b_this) → LA Fv_tried (pX6_tried b_this) → LA Fv_stands (pX6_stands b_this) → g_X6_swap_35 n t1 x1 x2 b_this = some r → ∃ R, f_X6_swap_35 n Ft1 Fx1 Fx2 Fv_a Fv_kept Fv_keptMany Fv_thrown Fv_tried Fv_stands = some R ∧ LI (R.1) (r.1) ∧ LA (R.2.1) (pX6_a (r.2)) ∧ LA (R.2.2.1) (pX6_kept (r.2)) ∧ LI (R.2.2.2.1) (pX6_keptMany (r.2)) ∧ LI (R.2.2.2.2.1) (pX6_thrown (r.2)) ∧ LA (R.2.2.2.2.2.1) (pX6_tried (r.2)) ∧ LA (R.2.2.2.2.2.2) (pX6_stands (r.2)) ∧ (pX6_fresh (r.2)) = (pX6_fresh b_this) ∧ (pX6_buffer (r.2)) = (pX6_buffer b_this) ∧ (pX6_buffered (r.2)) = (pX6_buffered b_this) ∧ (pX6_size (r.2)) = (pX6_size b_this) ∧ (pX6_at (r.2)) = (pX6_at b_this) ∧ (pX6_behind (r.2)) = (pX6_behind b_this) ∧ (pX6_kind (r.2)) = (pX6_kind b_this) ∧ (pX6_wrong (r.2)) = (pX6_wrong b_this) ∧ (pX6_wrongAt (r.2)) = (pX6_wrongAt b_this) ∧ (pX6_errorAt (r.2)) = (pX6_errorAt b_this) ∧ (pX6_number (r.2)) = (pX6_number b_this) ∧ (pX6_best (r.2)) = (pX6_best b_this) ∧ (pX6_rentBy (r.2)) = (pX6_rentBy b_this) ∧ (pX6_bareBy (r.2)) = (pX6_bareBy b_this) ∧ (pX6_aheadBy (r.2)) = (pX6_aheadBy b_this) ∧ (pX6_isEdge (r.2)) = (pX6_isEdge b_this) ∧ (pX6_found (r.2)) = (pX6_found b_this) ∧ (pX6_foundOn (r.2)) = (pX6_foundOn b_this) ∧ (pX6_moving (r.2)) = (pX6_moving b_this) ∧ (pX6_movingMany (r.2)) = (pX6_movingMany b_this) ∧ (pX6_foundIncome (r.2)) = (pX6_foundIncome b_this) ∧ (pX6_foundMoves (r.2)) = (pX6_foundMoves b_this) := by
  intro Ft1 Fx1 Fx2 t1 x1 x2 Fv_a Fv_kept Fv_keptMany Fv_thrown Fv_tried Fv_stands b_this r h_t1 h_x1 h_x2 h_v_a h_v_kept h_v_keptMany h_v_thrown h_v_tried h_v_stands hg
  unfold g_X6_swap_35 at hg
  unfold f_X6_swap_35
  refine lI (LI_le h_t1 (LI_n (X := 0) (x := 0) rfl)) hg (fun hc hg => ?_) (fun hc hg => ?_)
  · refine lB_2_1 (fun r hr => l_X6_keeps  _ _ _ (sX6_thrown b_this t1) r (LA_cg (eX6_a_thrown _ _) h_v_a) (LA_cg (eX6_kept_thrown _ _) h_v_kept) (LI_cg (eX6_keptMany_thrown _ _) h_v_keptMany) hr) hg (fun Fv_1 Fv_2 b_1 hq hg => ?_)
    obtain ⟨q_2, q_3, q_4, q_5, q_6, q_7, q_8, q_9, q_10, q_11, q_12, q_13, q_14, q_15, q_16, q_17, q_18, q_19, q_20, q_21, q_22, q_23, q_24, q_25, q_26, q_27, q_28, q_29⟩ := hq
    have qe_30 := Eq.trans q_4 (eX6_a_thrown _ _)
    have qe_31 := Eq.trans q_5 (eX6_fresh_thrown _ _)
    have qe_32 := Eq.trans q_6 (eX6_thrown_thrown _ _)
    have qe_33 := Eq.trans q_7 (eX6_buffer_thrown _ _)
    have qe_34 := Eq.trans q_8 (eX6_buffered_thrown _ _)
    have qe_35 := Eq.trans q_9 (eX6_size_thrown _ _)
    have qe_36 := Eq.trans q_10 (eX6_at_thrown _ _)
    have qe_37 := Eq.trans q_11 (eX6_behind_thrown _ _)
    have qe_38 := Eq.trans q_12 (eX6_kind_thrown _ _)
    have qe_39 := Eq.trans q_13 (eX6_wrong_thrown _ _)
    have qe_40 := Eq.trans q_14 (eX6_wrongAt_thrown _ _)
    have qe_41 := Eq.trans q_15 (eX6_errorAt_thrown _ _)
    have qe_42 := Eq.trans q_16 (eX6_number_thrown _ _)
    have qe_43 := Eq.trans q_17 (eX6_best_thrown _ _)
    have qe_44 := Eq.trans q_18 (eX6_rentBy_thrown _ _)
    have qe_45 := Eq.trans q_19 (eX6_bareBy_thrown _ _)
    have qe_46 := Eq.trans q_20 (eX6_aheadBy_thrown _ _)
    have qe_47 := Eq.trans q_21 (eX6_isEdge_thrown _ _)
    have qe_48 := Eq.trans q_22 (eX6_tried_thrown _ _)
    have qe_49 := Eq.trans q_23 (eX6_stands_thrown _ _)
    have qe_50 := Eq.trans q_24 (eX6_found_thrown _ _)
    have qe_51 := Eq.trans q_25 (eX6_foundOn_thrown _ _)
    have qe_52 := Eq.trans q_26 (eX6_moving_thrown _ _)
    have qe_53 := Eq.trans q_27 (eX6_movingMany_thrown _ _)
    have qe_54 := Eq.trans q_28 (eX6_foundIncome_thrown _ _)
    have qe_55 := Eq.trans q_29 (eX6_foundMoves_thrown _ _)
    have hl_56 := (LA_cg qe_30 h_v_a)
    have hl_57 := (LI_cg qe_32 h_t1)
    have hl_58 := (LA_cg qe_48 h_v_tried)
    have hl_59 := (LA_cg qe_49 h_v_stands)
    refine lA (EI_add (EI_i (LI_n (X := 107) (x := 107) rfl)) (EI_i h_x1)) rfl hg (fun ha_60 hg => ?_)
    refine lL (LA_at hl_56 (EI_add (EI_i (LI_n (X := 107) (x := 107) rfl)) (EI_i h_x1)) ha_60) hg (fun Fy_5 y_5 h_y_5 hg => ?_)
    refine lA (EI_add (EI_i (LI_n (X := 107) (x := 107) rfl)) (EI_i h_x2)) rfl hg (fun ha_61 hg => ?_)
    refine lA (EI_add (EI_i (LI_n (X := 107) (x := 107) rfl)) (EI_i h_x1)) rfl hg (fun ha_62 hg => ?_)
    refine lL (LA_upd hl_56 (EI_add (EI_i (LI_n (X := 107) (x := 107) rfl)) (EI_i h_x1)) ha_62 (LA_at hl_56 (EI_add (EI_i (LI_n (X := 107) (x := 107) rfl)) (EI_i h_x2)) ha_61)) hg (fun Fv_8 v_8 h_v_8 hg => ?_)
    refine lA (EI_add (EI_i (LI_n (X := 107) (x := 107) rfl)) (EI_i h_x2)) rfl hg (fun ha_63 hg => ?_)
    refine lL (LA_upd h_v_8 (EI_add (EI_i (LI_n (X := 107) (x := 107) rfl)) (EI_i h_x2)) ha_63 h_y_5) hg (fun Fv_10 v_10 h_v_10 hg => ?_)
    refine lB_1_1 (fun r hr => l_X6_incomeNow  _ (sX6_a b_1 v_10) r (LA_cg (eX6_a_a _ _) h_v_10) hr) hg (fun Fr_11 r_11 hq hg => ?_)
    have q_64 := hq
    cases hg
    exact ⟨_, rfl, q_64, (LA_cg (eX6_a_a _ _) h_v_10), (LA_cg (eX6_kept_a _ _) q_2), (LI_cg (eX6_keptMany_a _ _) q_3), (LI_cg (eX6_thrown_a _ _) hl_57), (LA_cg (eX6_tried_a _ _) hl_58), (LA_cg (eX6_stands_a _ _) hl_59), (Eq.trans (eX6_fresh_a _ _) qe_31), (Eq.trans (eX6_buffer_a _ _) qe_33), (Eq.trans (eX6_buffered_a _ _) qe_34), (Eq.trans (eX6_size_a _ _) qe_35), (Eq.trans (eX6_at_a _ _) qe_36), (Eq.trans (eX6_behind_a _ _) qe_37), (Eq.trans (eX6_kind_a _ _) qe_38), (Eq.trans (eX6_wrong_a _ _) qe_39), (Eq.trans (eX6_wrongAt_a _ _) qe_40), (Eq.trans (eX6_errorAt_a _ _) qe_41), (Eq.trans (eX6_number_a _ _) qe_42), (Eq.trans (eX6_best_a _ _) qe_43), (Eq.trans (eX6_rentBy_a _ _) qe_44), (Eq.trans (eX6_bareBy_a _ _) qe_45), (Eq.trans (eX6_aheadBy_a _ _) qe_46), (Eq.trans (eX6_isEdge_a _ _) qe_47), (Eq.trans (eX6_found_a _ _) qe_50), (Eq.trans (eX6_foundOn_a _ _) qe_51), (Eq.trans (eX6_moving_a _ _) qe_52), (Eq.trans (eX6_movingMany_a _ _) qe_53), (Eq.trans (eX6_foundIncome_a _ _) qe_54), (Eq.trans (eX6_foundMoves_a _ _) qe_55)⟩
  · cases hg
    exact ⟨_, rfl, (LI_n (X := 0) (x := 0) rfl), (LA_cg (eX6_a_thrown _ _) h_v_a), (LA_cg (eX6_kept_thrown _ _) h_v_kept), (LI_cg (eX6_keptMany_thrown _ _) h_v_keptMany), (LI_cg (eX6_thrown_thrown _ _) h_t1), (LA_cg (eX6_tried_thrown _ _) h_v_tried), (LA_cg (eX6_stands_thrown _ _) h_v_stands), (eX6_fresh_thrown _ _), (eX6_buffer_thrown _ _), (eX6_buffered_thrown _ _), (eX6_size_thrown _ _), (eX6_at_thrown _ _), (eX6_behind_thrown _ _), (eX6_kind_thrown _ _), (eX6_wrong_thrown _ _), (eX6_wrongAt_thrown _ _), (eX6_errorAt_thrown _ _), (eX6_number_thrown _ _), (eX6_best_thrown _ _), (eX6_rentBy_thrown _ _), (eX6_bareBy_thrown _ _), (eX6_aheadBy_thrown _ _), (eX6_isEdge_thrown _ _), (eX6_found_thrown _ _), (eX6_foundOn_thrown _ _), (eX6_moving_thrown _ _), (eX6_movingMany_thrown _ _), (eX6_foundIncome_thrown _ _), (eX6_foundMoves_thrown _ _)⟩
set_option maxHeartbeats 4000000 in
set_option maxRecDepth 100000 in
theorem l_X6_swap_17 {n : Nat} : ∀ (Fx1 : Int32) (Fx2 : Int32) (x1 : Int) (x2 : Int) (Fv_a : Nat → Int32) (Fv_kept : Nat → Int32) (Fv_keptMany : Int32) (Fv_thrown : Int32) (Fv_tried : Nat → Int32) (Fv_stands : Nat → Int32) (b_this : BX6) (r : Int × BX6), LI Fx1 x1 → LI Fx2 x2 → LA Fv_a (pX6_a b_this) → LA Fv_kept (pX6_kept b_this) → LI Fv_keptMany (pX6_keptMany b_this) → LI Fv_thrown (pX6_thrown b_this) → LA Fv_tried (pX6_tried b_this) → LA Fv_stands (pX6_stands b_this) → g_X6_swap_17 n x1 x2 b_this = some r → ∃ R, f_X6_swap_17 n Fx1 Fx2 Fv_a Fv_kept Fv_keptMany Fv_thrown Fv_tried Fv_stands = some R ∧ LI (R.1) (r.1) ∧ LA (R.2.1) (pX6_a (r.2)) ∧ LA (R.2.2.1) (pX6_kept (r.2)) ∧ LI (R.2.2.2.1) (pX6_keptMany (r.2)) ∧ LI (R.2.2.2.2.1) (pX6_thrown (r.2)) ∧ LA (R.2.2.2.2.2.1) (pX6_tried (r.2)) ∧ LA (R.2.2.2.2.2.2) (pX6_stands (r.2)) ∧ (pX6_fresh (r.2)) = (pX6_fresh b_this) ∧ (pX6_buffer (r.2)) = (pX6_buffer b_this) ∧ (pX6_buffered (r.2)) = (pX6_buffered b_this) ∧ (pX6_size (r.2)) = (pX6_size b_this) ∧ (pX6_at (r.2)) = (pX6_at b_this) ∧ (pX6_behind (r.2)) = (pX6_behind b_this) ∧ (pX6_kind (r.2)) = (pX6_kind b_this) ∧ (pX6_wrong (r.2)) = (pX6_wrong b_this) ∧ (pX6_wrongAt (r.2)) = (pX6_wrongAt b_this) ∧ (pX6_errorAt (r.2)) = (pX6_errorAt b_this) ∧ (pX6_number (r.2)) = (pX6_number b_this) ∧ (pX6_best (r.2)) = (pX6_best b_this) ∧ (pX6_rentBy (r.2)) = (pX6_rentBy b_this) ∧ (pX6_bareBy (r.2)) = (pX6_bareBy b_this) ∧ (pX6_aheadBy (r.2)) = (pX6_aheadBy b_this) ∧ (pX6_isEdge (r.2)) = (pX6_isEdge b_this) ∧ (pX6_found (r.2)) = (pX6_found b_this) ∧ (pX6_foundOn (r.2)) = (pX6_foundOn b_this) ∧ (pX6_moving (r.2)) = (pX6_moving b_this) ∧ (pX6_movingMany (r.2)) = (pX6_movingMany b_this) ∧ (pX6_foundIncome (r.2)) = (pX6_foundIncome b_this) ∧ (pX6_foundMoves (r.2)) = (pX6_foundMoves b_this) := by
  intro Fx1 Fx2 x1 x2 Fv_a Fv_kept Fv_keptMany Fv_thrown Fv_tried Fv_stands b_this r h_x1 h_x2 h_v_a h_v_kept h_v_keptMany h_v_thrown h_v_tried h_v_stands hg
  unfold g_X6_swap_17 at hg
  unfold f_X6_swap_17
  refine lJ (l_X6_swap_35 _ _ _ _ _ _ _ _ _ _ _ _ b_this _ (LI_n (X := 1) (x := 1) rfl) h_x1 h_x2 h_v_a h_v_kept h_v_keptMany h_v_thrown h_v_tried h_v_stands hg) (fun R hq => ?_)
  obtain ⟨c0, c1, c2, c3, c4, c5, c6, c7, c8, c9, c10, c11, c12, c13, c14, c15, c16, c17, c18, c19, c20, c21, c22, c23, c24, c25, c26, c27, c28⟩ := hq
  exact ⟨c0, c1, c2, c3, c4, c5, c6, c7, c8, c9, c10, c11, c12, c13, c14, c15, c16, c17, c18, c19, c20, c21, c22, c23, c24, c25, c26, c27, c28⟩
set_option maxHeartbeats 4000000 in
set_option maxRecDepth 100000 in
theorem l_X6_swap {n : Nat} : ∀ (Fx1 : Int32) (Fx2 : Int32) (x1 : Int) (x2 : Int) (Fv_a : Nat → Int32) (Fv_kept : Nat → Int32) (Fv_keptMany : Int32) (Fv_thrown : Int32) (Fv_tried : Nat → Int32) (Fv_stands : Nat → Int32) (b_this : BX6) (r : Int × BX6), LI Fx1 x1 → LI Fx2 x2 → LA Fv_a (pX6_a b_this) → LA Fv_kept (pX6_kept b_this) → LI Fv_keptMany (pX6_keptMany b_this) → LI Fv_thrown (pX6_thrown b_this) → LA Fv_tried (pX6_tried b_this) → LA Fv_stands (pX6_stands b_this) → g_X6_swap n b_this x1 x2 = some r → ∃ R, f_X6_swap n Fv_a Fv_kept Fv_keptMany Fv_thrown Fv_tried Fv_stands Fx1 Fx2 = some R ∧ LI (R.1) (r.1) ∧ LA (R.2.1) (pX6_a (r.2)) ∧ LA (R.2.2.1) (pX6_kept (r.2)) ∧ LI (R.2.2.2.1) (pX6_keptMany (r.2)) ∧ LI (R.2.2.2.2.1) (pX6_thrown (r.2)) ∧ LA (R.2.2.2.2.2.1) (pX6_tried (r.2)) ∧ LA (R.2.2.2.2.2.2) (pX6_stands (r.2)) ∧ (pX6_fresh (r.2)) = (pX6_fresh b_this) ∧ (pX6_buffer (r.2)) = (pX6_buffer b_this) ∧ (pX6_buffered (r.2)) = (pX6_buffered b_this) ∧ (pX6_size (r.2)) = (pX6_size b_this) ∧ (pX6_at (r.2)) = (pX6_at b_this) ∧ (pX6_behind (r.2)) = (pX6_behind b_this) ∧ (pX6_kind (r.2)) = (pX6_kind b_this) ∧ (pX6_wrong (r.2)) = (pX6_wrong b_this) ∧ (pX6_wrongAt (r.2)) = (pX6_wrongAt b_this) ∧ (pX6_errorAt (r.2)) = (pX6_errorAt b_this) ∧ (pX6_number (r.2)) = (pX6_number b_this) ∧ (pX6_best (r.2)) = (pX6_best b_this) ∧ (pX6_rentBy (r.2)) = (pX6_rentBy b_this) ∧ (pX6_bareBy (r.2)) = (pX6_bareBy b_this) ∧ (pX6_aheadBy (r.2)) = (pX6_aheadBy b_this) ∧ (pX6_isEdge (r.2)) = (pX6_isEdge b_this) ∧ (pX6_found (r.2)) = (pX6_found b_this) ∧ (pX6_foundOn (r.2)) = (pX6_foundOn b_this) ∧ (pX6_moving (r.2)) = (pX6_moving b_this) ∧ (pX6_movingMany (r.2)) = (pX6_movingMany b_this) ∧ (pX6_foundIncome (r.2)) = (pX6_foundIncome b_this) ∧ (pX6_foundMoves (r.2)) = (pX6_foundMoves b_this) := by
  intro Fx1 Fx2 x1 x2 Fv_a Fv_kept Fv_keptMany Fv_thrown Fv_tried Fv_stands b_this r h_x1 h_x2 h_v_a h_v_kept h_v_keptMany h_v_thrown h_v_tried h_v_stands hg
  unfold g_X6_swap at hg
  unfold f_X6_swap
  refine lB_1_1 (fun r hr => l_X6_isTrader  _ _ _ b_this r h_x1 h_v_a hr) hg (fun Fr_13 r_13 hq hg => ?_)
  have q_65 := hq
  refine lI (LI_eq q_65 (LI_n (X := 0) (x := 0) rfl)) hg (fun hc hg => ?_) (fun hc hg => ?_)
  · refine lJ (l_X6_swap_17 _ _ _ _ _ _ _ _ _ _ b_this _ h_x1 h_x2 h_v_a h_v_kept h_v_keptMany h_v_thrown h_v_tried h_v_stands hg) (fun R hq => ?_)
    obtain ⟨c0, c1, c2, c3, c4, c5, c6, c7, c8, c9, c10, c11, c12, c13, c14, c15, c16, c17, c18, c19, c20, c21, c22, c23, c24, c25, c26, c27, c28⟩ := hq
    exact ⟨c0, c1, c2, c3, c4, c5, c6, c7, c8, c9, c10, c11, c12, c13, c14, c15, c16, c17, c18, c19, c20, c21, c22, c23, c24, c25, c26, c27, c28⟩
  · refine lB_1_1 (fun r hr => l_X6_isTrader  _ _ _ b_this r h_x2 h_v_a hr) hg (fun Fr_15 r_15 hq hg => ?_)
    have q_66 := hq
    refine lI (LI_eq q_66 (LI_n (X := 0) (x := 0) rfl)) hg (fun hc hg => ?_) (fun hc hg => ?_)
    · refine lJ (l_X6_swap_17 _ _ _ _ _ _ _ _ _ _ b_this _ h_x1 h_x2 h_v_a h_v_kept h_v_keptMany h_v_thrown h_v_tried h_v_stands hg) (fun R hq => ?_)
      obtain ⟨c0, c1, c2, c3, c4, c5, c6, c7, c8, c9, c10, c11, c12, c13, c14, c15, c16, c17, c18, c19, c20, c21, c22, c23, c24, c25, c26, c27, c28⟩ := hq
      exact ⟨c0, c1, c2, c3, c4, c5, c6, c7, c8, c9, c10, c11, c12, c13, c14, c15, c16, c17, c18, c19, c20, c21, c22, c23, c24, c25, c26, c27, c28⟩
    · refine lB_3_2 (fun r hr => l_X6_canSwap  _ _ _ _ _ _ _ b_this r h_x1 h_x2 h_v_a h_v_tried h_v_stands hr) hg (fun Fr_17 Fv_18 Fv_19 r_17 b_67 hq hg => ?_)
      obtain ⟨q_68, q_69, q_70, q_71, q_72, q_73, q_74, q_75, q_76, q_77, q_78, q_79, q_80, q_81, q_82, q_83, q_84, q_85, q_86, q_87, q_88, q_89, q_90, q_91, q_92, q_93, q_94, q_95, q_96⟩ := hq
      have hl_97 := (LA_cg q_71 h_v_a)
      have hl_98 := (LA_cg q_73 h_v_kept)
      have hl_99 := (LI_cg q_74 h_v_keptMany)
      have hl_100 := (LI_cg q_75 h_v_thrown)
      refine lI (LI_eq q_68 (LI_n (X := 0) (x := 0) rfl)) hg (fun hc hg => ?_) (fun hc hg => ?_)
      · refine lJ (l_X6_swap_35 _ _ _ _ _ _ _ _ _ _ _ _ b_67 _ (LI_n (X := 2) (x := 2) rfl) h_x1 h_x2 hl_97 hl_98 hl_99 hl_100 q_69 q_70 hg) (fun R hq => ?_)
        obtain ⟨c0, c1, c2, c3, c4, c5, c6, c7, c8, c9, c10, c11, c12, c13, c14, c15, c16, c17, c18, c19, c20, c21, c22, c23, c24, c25, c26, c27, c28⟩ := hq
        exact ⟨c0, c1, c2, c3, c4, c5, c6, (c7).trans q_72, (c8).trans q_76, (c9).trans q_77, (c10).trans q_78, (c11).trans q_79, (c12).trans q_80, (c13).trans q_81, (c14).trans q_82, (c15).trans q_83, (c16).trans q_84, (c17).trans q_85, (c18).trans q_86, (c19).trans q_87, (c20).trans q_88, (c21).trans q_89, (c22).trans q_90, (c23).trans q_91, (c24).trans q_92, (c25).trans q_93, (c26).trans q_94, (c27).trans q_95, (c28).trans q_96⟩
      · refine lJ (l_X6_swap_35 _ _ _ _ _ _ _ _ _ _ _ _ b_67 _ (LI_n (X := 0) (x := 0) rfl) h_x1 h_x2 hl_97 hl_98 hl_99 hl_100 q_69 q_70 hg) (fun R hq => ?_)
        obtain ⟨c0, c1, c2, c3, c4, c5, c6, c7, c8, c9, c10, c11, c12, c13, c14, c15, c16, c17, c18, c19, c20, c21, c22, c23, c24, c25, c26, c27, c28⟩ := hq
        exact ⟨c0, c1, c2, c3, c4, c5, c6, (c7).trans q_72, (c8).trans q_76, (c9).trans q_77, (c10).trans q_78, (c11).trans q_79, (c12).trans q_80, (c13).trans q_81, (c14).trans q_82, (c15).trans q_83, (c16).trans q_84, (c17).trans q_85, (c18).trans q_86, (c19).trans q_87, (c20).trans q_88, (c21).trans q_89, (c22).trans q_90, (c23).trans q_91, (c24).trans q_92, (c25).trans q_93, (c26).trans q_94, (c27).trans q_95, (c28).trans q_96⟩
set_option maxHeartbeats 4000000 in
set_option maxRecDepth 100000 in
theorem l_X6_thrown : ∀ (Fv_thrown : Int32) (b_this : BX6) (r : Int), LI Fv_thrown (pX6_thrown b_this) → g_X6_thrown b_this = some r → ∃ R, f_X6_thrown Fv_thrown = some R ∧ LI R r := by
  intro Fv_thrown b_this r h_v_thrown hg
  unfold g_X6_thrown at hg
  unfold f_X6_thrown
  cases hg
  exact ⟨_, rfl, h_v_thrown⟩
set_option maxHeartbeats 4000000 in
set_option maxRecDepth 100000 in
theorem l_X6_trade : ∀ (Fx1 : Int32) (x1 : Int) (Fv_a : Nat → Int32) (Fv_thrown : Int32) (b_this : BX6) (r : Int × BX6), LI Fx1 x1 → LA Fv_a (pX6_a b_this) → LI Fv_thrown (pX6_thrown b_this) → g_X6_trade b_this x1 = some r → ∃ R, f_X6_trade Fv_a Fv_thrown Fx1 = some R ∧ LI (R.1) (r.1) ∧ LI (R.2) (pX6_thrown (r.2)) ∧ (pX6_a (r.2)) = (pX6_a b_this) ∧ (pX6_fresh (r.2)) = (pX6_fresh b_this) ∧ (pX6_kept (r.2)) = (pX6_kept b_this) ∧ (pX6_keptMany (r.2)) = (pX6_keptMany b_this) ∧ (pX6_buffer (r.2)) = (pX6_buffer b_this) ∧ (pX6_buffered (r.2)) = (pX6_buffered b_this) ∧ (pX6_size (r.2)) = (pX6_size b_this) ∧ (pX6_at (r.2)) = (pX6_at b_this) ∧ (pX6_behind (r.2)) = (pX6_behind b_this) ∧ (pX6_kind (r.2)) = (pX6_kind b_this) ∧ (pX6_wrong (r.2)) = (pX6_wrong b_this) ∧ (pX6_wrongAt (r.2)) = (pX6_wrongAt b_this) ∧ (pX6_errorAt (r.2)) = (pX6_errorAt b_this) ∧ (pX6_number (r.2)) = (pX6_number b_this) ∧ (pX6_best (r.2)) = (pX6_best b_this) ∧ (pX6_rentBy (r.2)) = (pX6_rentBy b_this) ∧ (pX6_bareBy (r.2)) = (pX6_bareBy b_this) ∧ (pX6_aheadBy (r.2)) = (pX6_aheadBy b_this) ∧ (pX6_isEdge (r.2)) = (pX6_isEdge b_this) ∧ (pX6_tried (r.2)) = (pX6_tried b_this) ∧ (pX6_stands (r.2)) = (pX6_stands b_this) ∧ (pX6_found (r.2)) = (pX6_found b_this) ∧ (pX6_foundOn (r.2)) = (pX6_foundOn b_this) ∧ (pX6_moving (r.2)) = (pX6_moving b_this) ∧ (pX6_movingMany (r.2)) = (pX6_movingMany b_this) ∧ (pX6_foundIncome (r.2)) = (pX6_foundIncome b_this) ∧ (pX6_foundMoves (r.2)) = (pX6_foundMoves b_this) := by
  intro Fx1 x1 Fv_a Fv_thrown b_this r h_x1 h_v_a h_v_thrown hg
  unfold g_X6_trade at hg
  unfold f_X6_trade
  refine lB_2_2 (fun r hr => l_X6_traderValue  _ _ _ _ _ _ b_this r (LI_n (X := 75) (x := 75) rfl) h_x1 h_v_a h_v_thrown hr) hg (fun Fr_1 Fv_2 r_1 b_1 hq hg => ?_)
  obtain ⟨q_2, q_3, q_4, q_5, q_6, q_7, q_8, q_9, q_10, q_11, q_12, q_13, q_14, q_15, q_16, q_17, q_18, q_19, q_20, q_21, q_22, q_23, q_24, q_25, q_26, q_27, q_28, q_29, q_30⟩ := hq
  have hl_31 := (LA_cg q_4 h_v_a)
  cases hg
  exact ⟨_, rfl, q_2, q_3, q_4, q_5, q_6, q_7, q_8, q_9, q_10, q_11, q_12, q_13, q_14, q_15, q_16, q_17, q_18, q_19, q_20, q_21, q_22, q_23, q_24, q_25, q_26, q_27, q_28, q_29, q_30⟩
set_option maxHeartbeats 4000000 in
set_option maxRecDepth 100000 in
theorem l_X6_traderAt_14 {n : Nat} : ∀ (Ft1 : Int32) (Fx1 : Int32) (t1 : Int) (x1 : Int) (Fv_a : Nat → Int32) (Fv_thrown : Int32) (b_this : BX6) (r : Int × BX6), LI Ft1 t1 → LI Fx1 x1 → LA Fv_a (pX6_a b_this) → LI Fv_thrown (pX6_thrown b_this) → g_X6_traderAt_14 n t1 x1 b_this = some r → ∃ R, f_X6_traderAt_14 n Ft1 Fx1 Fv_a Fv_thrown = some R ∧ LI (R.1) (r.1) ∧ LI (R.2) (pX6_thrown (r.2)) ∧ (pX6_a (r.2)) = (pX6_a b_this) ∧ (pX6_fresh (r.2)) = (pX6_fresh b_this) ∧ (pX6_kept (r.2)) = (pX6_kept b_this) ∧ (pX6_keptMany (r.2)) = (pX6_keptMany b_this) ∧ (pX6_buffer (r.2)) = (pX6_buffer b_this) ∧ (pX6_buffered (r.2)) = (pX6_buffered b_this) ∧ (pX6_size (r.2)) = (pX6_size b_this) ∧ (pX6_at (r.2)) = (pX6_at b_this) ∧ (pX6_behind (r.2)) = (pX6_behind b_this) ∧ (pX6_kind (r.2)) = (pX6_kind b_this) ∧ (pX6_wrong (r.2)) = (pX6_wrong b_this) ∧ (pX6_wrongAt (r.2)) = (pX6_wrongAt b_this) ∧ (pX6_errorAt (r.2)) = (pX6_errorAt b_this) ∧ (pX6_number (r.2)) = (pX6_number b_this) ∧ (pX6_best (r.2)) = (pX6_best b_this) ∧ (pX6_rentBy (r.2)) = (pX6_rentBy b_this) ∧ (pX6_bareBy (r.2)) = (pX6_bareBy b_this) ∧ (pX6_aheadBy (r.2)) = (pX6_aheadBy b_this) ∧ (pX6_isEdge (r.2)) = (pX6_isEdge b_this) ∧ (pX6_tried (r.2)) = (pX6_tried b_this) ∧ (pX6_stands (r.2)) = (pX6_stands b_this) ∧ (pX6_found (r.2)) = (pX6_found b_this) ∧ (pX6_foundOn (r.2)) = (pX6_foundOn b_this) ∧ (pX6_moving (r.2)) = (pX6_moving b_this) ∧ (pX6_movingMany (r.2)) = (pX6_movingMany b_this) ∧ (pX6_foundIncome (r.2)) = (pX6_foundIncome b_this) ∧ (pX6_foundMoves (r.2)) = (pX6_foundMoves b_this) := by
  intro Ft1 Fx1 t1 x1 Fv_a Fv_thrown b_this r h_t1 h_x1 h_v_a h_v_thrown hg
  unfold g_X6_traderAt_14 at hg
  unfold f_X6_traderAt_14
  refine lI (LI_le h_t1 (LI_n (X := 0) (x := 0) rfl)) hg (fun hc hg => ?_) (fun hc hg => ?_)
  · refine lB_1_1 (fun r hr => l_X6_on  _ _ _ (sX6_thrown b_this t1) r h_x1 (LA_cg (eX6_a_thrown _ _) h_v_a) hr) hg (fun Fr_1 r_1 hq hg => ?_)
    have q_1 := hq
    cases hg
    exact ⟨_, rfl, q_1, (LI_cg (eX6_thrown_thrown _ _) h_t1), (eX6_a_thrown _ _), (eX6_fresh_thrown _ _), (eX6_kept_thrown _ _), (eX6_keptMany_thrown _ _), (eX6_buffer_thrown _ _), (eX6_buffered_thrown _ _), (eX6_size_thrown _ _), (eX6_at_thrown _ _), (eX6_behind_thrown _ _), (eX6_kind_thrown _ _), (eX6_wrong_thrown _ _), (eX6_wrongAt_thrown _ _), (eX6_errorAt_thrown _ _), (eX6_number_thrown _ _), (eX6_best_thrown _ _), (eX6_rentBy_thrown _ _), (eX6_bareBy_thrown _ _), (eX6_aheadBy_thrown _ _), (eX6_isEdge_thrown _ _), (eX6_tried_thrown _ _), (eX6_stands_thrown _ _), (eX6_found_thrown _ _), (eX6_foundOn_thrown _ _), (eX6_moving_thrown _ _), (eX6_movingMany_thrown _ _), (eX6_foundIncome_thrown _ _), (eX6_foundMoves_thrown _ _)⟩
  · cases hg
    exact ⟨_, rfl, (LI_n (X := 0) (x := 0) rfl), (LI_cg (eX6_thrown_thrown _ _) h_t1), (eX6_a_thrown _ _), (eX6_fresh_thrown _ _), (eX6_kept_thrown _ _), (eX6_keptMany_thrown _ _), (eX6_buffer_thrown _ _), (eX6_buffered_thrown _ _), (eX6_size_thrown _ _), (eX6_at_thrown _ _), (eX6_behind_thrown _ _), (eX6_kind_thrown _ _), (eX6_wrong_thrown _ _), (eX6_wrongAt_thrown _ _), (eX6_errorAt_thrown _ _), (eX6_number_thrown _ _), (eX6_best_thrown _ _), (eX6_rentBy_thrown _ _), (eX6_bareBy_thrown _ _), (eX6_aheadBy_thrown _ _), (eX6_isEdge_thrown _ _), (eX6_tried_thrown _ _), (eX6_stands_thrown _ _), (eX6_found_thrown _ _), (eX6_foundOn_thrown _ _), (eX6_moving_thrown _ _), (eX6_movingMany_thrown _ _), (eX6_foundIncome_thrown _ _), (eX6_foundMoves_thrown _ _)⟩
set_option maxHeartbeats 4000000 in
set_option maxRecDepth 100000 in
theorem l_X6_traderAt {n : Nat} : ∀ (Fx1 : Int32) (x1 : Int) (Fv_a : Nat → Int32) (Fv_thrown : Int32) (b_this : BX6) (r : Int × BX6), LI Fx1 x1 → LA Fv_a (pX6_a b_this) → LI Fv_thrown (pX6_thrown b_this) → g_X6_traderAt n b_this x1 = some r → ∃ R, f_X6_traderAt n Fv_a Fv_thrown Fx1 = some R ∧ LI (R.1) (r.1) ∧ LI (R.2) (pX6_thrown (r.2)) ∧ (pX6_a (r.2)) = (pX6_a b_this) ∧ (pX6_fresh (r.2)) = (pX6_fresh b_this) ∧ (pX6_kept (r.2)) = (pX6_kept b_this) ∧ (pX6_keptMany (r.2)) = (pX6_keptMany b_this) ∧ (pX6_buffer (r.2)) = (pX6_buffer b_this) ∧ (pX6_buffered (r.2)) = (pX6_buffered b_this) ∧ (pX6_size (r.2)) = (pX6_size b_this) ∧ (pX6_at (r.2)) = (pX6_at b_this) ∧ (pX6_behind (r.2)) = (pX6_behind b_this) ∧ (pX6_kind (r.2)) = (pX6_kind b_this) ∧ (pX6_wrong (r.2)) = (pX6_wrong b_this) ∧ (pX6_wrongAt (r.2)) = (pX6_wrongAt b_this) ∧ (pX6_errorAt (r.2)) = (pX6_errorAt b_this) ∧ (pX6_number (r.2)) = (pX6_number b_this) ∧ (pX6_best (r.2)) = (pX6_best b_this) ∧ (pX6_rentBy (r.2)) = (pX6_rentBy b_this) ∧ (pX6_bareBy (r.2)) = (pX6_bareBy b_this) ∧ (pX6_aheadBy (r.2)) = (pX6_aheadBy b_this) ∧ (pX6_isEdge (r.2)) = (pX6_isEdge b_this) ∧ (pX6_tried (r.2)) = (pX6_tried b_this) ∧ (pX6_stands (r.2)) = (pX6_stands b_this) ∧ (pX6_found (r.2)) = (pX6_found b_this) ∧ (pX6_foundOn (r.2)) = (pX6_foundOn b_this) ∧ (pX6_moving (r.2)) = (pX6_moving b_this) ∧ (pX6_movingMany (r.2)) = (pX6_movingMany b_this) ∧ (pX6_foundIncome (r.2)) = (pX6_foundIncome b_this) ∧ (pX6_foundMoves (r.2)) = (pX6_foundMoves b_this) := by
  intro Fx1 x1 Fv_a Fv_thrown b_this r h_x1 h_v_a h_v_thrown hg
  unfold g_X6_traderAt at hg
  unfold f_X6_traderAt
  refine lB_1_1 (fun r hr => l_X6_isPitch  _ _ _ b_this r h_x1 h_v_a hr) hg (fun Fr_3 r_3 hq hg => ?_)
  have q_2 := hq
  refine lI (LI_eq q_2 (LI_n (X := 0) (x := 0) rfl)) hg (fun hc hg => ?_) (fun hc hg => ?_)
  · refine lJ (l_X6_traderAt_14 _ _ _ _ _ _ b_this _ (LI_n (X := 1) (x := 1) rfl) h_x1 h_v_a h_v_thrown hg) (fun R hq => ?_)
    obtain ⟨c0, c1, c2, c3, c4, c5, c6, c7, c8, c9, c10, c11, c12, c13, c14, c15, c16, c17, c18, c19, c20, c21, c22, c23, c24, c25, c26, c27, c28⟩ := hq
    exact ⟨c0, c1, c2, c3, c4, c5, c6, c7, c8, c9, c10, c11, c12, c13, c14, c15, c16, c17, c18, c19, c20, c21, c22, c23, c24, c25, c26, c27, c28⟩
  · refine lJ (l_X6_traderAt_14 _ _ _ _ _ _ b_this _ (LI_n (X := 0) (x := 0) rfl) h_x1 h_v_a h_v_thrown hg) (fun R hq => ?_)
    obtain ⟨c0, c1, c2, c3, c4, c5, c6, c7, c8, c9, c10, c11, c12, c13, c14, c15, c16, c17, c18, c19, c20, c21, c22, c23, c24, c25, c26, c27, c28⟩ := hq
    exact ⟨c0, c1, c2, c3, c4, c5, c6, c7, c8, c9, c10, c11, c12, c13, c14, c15, c16, c17, c18, c19, c20, c21, c22, c23, c24, c25, c26, c27, c28⟩
set_option maxHeartbeats 4000000 in
set_option maxRecDepth 100000 in
theorem l_X6_traderCount : ∀ (Fv_a : Nat → Int32) (Fv_thrown : Int32) (b_this : BX6) (r : Int × BX6), LA Fv_a (pX6_a b_this) → LI Fv_thrown (pX6_thrown b_this) → g_X6_traderCount b_this = some r → ∃ R, f_X6_traderCount Fv_a Fv_thrown = some R ∧ LI (R.1) (r.1) ∧ LI (R.2) (pX6_thrown (r.2)) ∧ (pX6_a (r.2)) = (pX6_a b_this) ∧ (pX6_fresh (r.2)) = (pX6_fresh b_this) ∧ (pX6_kept (r.2)) = (pX6_kept b_this) ∧ (pX6_keptMany (r.2)) = (pX6_keptMany b_this) ∧ (pX6_buffer (r.2)) = (pX6_buffer b_this) ∧ (pX6_buffered (r.2)) = (pX6_buffered b_this) ∧ (pX6_size (r.2)) = (pX6_size b_this) ∧ (pX6_at (r.2)) = (pX6_at b_this) ∧ (pX6_behind (r.2)) = (pX6_behind b_this) ∧ (pX6_kind (r.2)) = (pX6_kind b_this) ∧ (pX6_wrong (r.2)) = (pX6_wrong b_this) ∧ (pX6_wrongAt (r.2)) = (pX6_wrongAt b_this) ∧ (pX6_errorAt (r.2)) = (pX6_errorAt b_this) ∧ (pX6_number (r.2)) = (pX6_number b_this) ∧ (pX6_best (r.2)) = (pX6_best b_this) ∧ (pX6_rentBy (r.2)) = (pX6_rentBy b_this) ∧ (pX6_bareBy (r.2)) = (pX6_bareBy b_this) ∧ (pX6_aheadBy (r.2)) = (pX6_aheadBy b_this) ∧ (pX6_isEdge (r.2)) = (pX6_isEdge b_this) ∧ (pX6_tried (r.2)) = (pX6_tried b_this) ∧ (pX6_stands (r.2)) = (pX6_stands b_this) ∧ (pX6_found (r.2)) = (pX6_found b_this) ∧ (pX6_foundOn (r.2)) = (pX6_foundOn b_this) ∧ (pX6_moving (r.2)) = (pX6_moving b_this) ∧ (pX6_movingMany (r.2)) = (pX6_movingMany b_this) ∧ (pX6_foundIncome (r.2)) = (pX6_foundIncome b_this) ∧ (pX6_foundMoves (r.2)) = (pX6_foundMoves b_this) := by
  intro Fv_a Fv_thrown b_this r h_v_a h_v_thrown hg
  unfold g_X6_traderCount at hg
  unfold f_X6_traderCount
  refine lA (EI_i (LI_n (X := 74) (x := 74) rfl)) rfl hg (fun ha_1 hg => ?_)
  cases hg
  exact ⟨_, rfl, (LA_at h_v_a (EI_i (LI_n (X := 74) (x := 74) rfl)) ha_1), (LI_cg (eX6_thrown_thrown _ _) (LI_n (X := 0) (x := 0) rfl)), (eX6_a_thrown _ _), (eX6_fresh_thrown _ _), (eX6_kept_thrown _ _), (eX6_keptMany_thrown _ _), (eX6_buffer_thrown _ _), (eX6_buffered_thrown _ _), (eX6_size_thrown _ _), (eX6_at_thrown _ _), (eX6_behind_thrown _ _), (eX6_kind_thrown _ _), (eX6_wrong_thrown _ _), (eX6_wrongAt_thrown _ _), (eX6_errorAt_thrown _ _), (eX6_number_thrown _ _), (eX6_best_thrown _ _), (eX6_rentBy_thrown _ _), (eX6_bareBy_thrown _ _), (eX6_aheadBy_thrown _ _), (eX6_isEdge_thrown _ _), (eX6_tried_thrown _ _), (eX6_stands_thrown _ _), (eX6_found_thrown _ _), (eX6_foundOn_thrown _ _), (eX6_moving_thrown _ _), (eX6_movingMany_thrown _ _), (eX6_foundIncome_thrown _ _), (eX6_foundMoves_thrown _ _)⟩
set_option maxHeartbeats 4000000 in
set_option maxRecDepth 100000 in
theorem l_X6_undo_37 {n : Nat} : ∀ (fu : Nat), ∀ (Fx1 : Int32) (x1 : Int) (Fv_a : Nat → Int32) (Fv_kept : Nat → Int32) (Fv_keptMany : Int32) (Fv_thrown : Int32) (b_this : BX6) (r : Int × BX6), LI Fx1 x1 → LA Fv_a (pX6_a b_this) → LA Fv_kept (pX6_kept b_this) → LI Fv_keptMany (pX6_keptMany b_this) → LI Fv_thrown (pX6_thrown b_this) → g_X6_undo_37 n fu x1 b_this = some r → ∃ R, f_X6_undo_37 n fu Fx1 Fv_a Fv_kept Fv_keptMany Fv_thrown = some R ∧ LI (R.1) (r.1) ∧ LA (R.2.1) (pX6_a (r.2)) ∧ LI (R.2.2.1) (pX6_keptMany (r.2)) ∧ LI (R.2.2.2) (pX6_thrown (r.2)) ∧ (pX6_fresh (r.2)) = (pX6_fresh b_this) ∧ (pX6_kept (r.2)) = (pX6_kept b_this) ∧ (pX6_buffer (r.2)) = (pX6_buffer b_this) ∧ (pX6_buffered (r.2)) = (pX6_buffered b_this) ∧ (pX6_size (r.2)) = (pX6_size b_this) ∧ (pX6_at (r.2)) = (pX6_at b_this) ∧ (pX6_behind (r.2)) = (pX6_behind b_this) ∧ (pX6_kind (r.2)) = (pX6_kind b_this) ∧ (pX6_wrong (r.2)) = (pX6_wrong b_this) ∧ (pX6_wrongAt (r.2)) = (pX6_wrongAt b_this) ∧ (pX6_errorAt (r.2)) = (pX6_errorAt b_this) ∧ (pX6_number (r.2)) = (pX6_number b_this) ∧ (pX6_best (r.2)) = (pX6_best b_this) ∧ (pX6_rentBy (r.2)) = (pX6_rentBy b_this) ∧ (pX6_bareBy (r.2)) = (pX6_bareBy b_this) ∧ (pX6_aheadBy (r.2)) = (pX6_aheadBy b_this) ∧ (pX6_isEdge (r.2)) = (pX6_isEdge b_this) ∧ (pX6_tried (r.2)) = (pX6_tried b_this) ∧ (pX6_stands (r.2)) = (pX6_stands b_this) ∧ (pX6_found (r.2)) = (pX6_found b_this) ∧ (pX6_foundOn (r.2)) = (pX6_foundOn b_this) ∧ (pX6_moving (r.2)) = (pX6_moving b_this) ∧ (pX6_movingMany (r.2)) = (pX6_movingMany b_this) ∧ (pX6_foundIncome (r.2)) = (pX6_foundIncome b_this) ∧ (pX6_foundMoves (r.2)) = (pX6_foundMoves b_this) := by
  intro fu
  induction fu with
  | zero => intro Fx1 x1 Fv_a Fv_kept Fv_keptMany Fv_thrown b_this r h_x1 h_v_a h_v_kept h_v_keptMany h_v_thrown hg; rw [g_X6_undo_37.eq_1] at hg; cases hg
  | succ fu ih =>
    intro Fx1 x1 Fv_a Fv_kept Fv_keptMany Fv_thrown b_this r h_x1 h_v_a h_v_kept h_v_keptMany h_v_thrown hg
    rw [g_X6_undo_37.eq_2] at hg
    rw [f_X6_undo_37.eq_2]
    refine lI (LI_le (LI_n (X := 180) (x := 180) rfl) h_x1) hg (fun hc hg => ?_) (fun hc hg => ?_)
    · cases hg
      exact ⟨_, rfl, h_v_keptMany, h_v_a, h_v_keptMany, h_v_thrown, rfl, rfl, rfl, rfl, rfl, rfl, rfl, rfl, rfl, rfl, rfl, rfl, rfl, rfl, rfl, rfl, rfl, rfl, rfl, rfl, rfl, rfl, rfl, rfl, rfl⟩
    · refine lA (EI_add (EI_mul (EI_i (LI_n (X := 180) (x := 180) rfl)) (EI_i h_v_keptMany)) (EI_i h_x1)) rfl hg (fun ha_1 hg => ?_)
      refine lA (EI_i h_x1) rfl hg (fun ha_2 hg => ?_)
      refine lL (LA_upd h_v_a (EI_i h_x1) ha_2 (LA_at h_v_kept (EI_add (EI_mul (EI_i (LI_n (X := 180) (x := 180) rfl)) (EI_i h_v_keptMany)) (EI_i h_x1)) ha_1)) hg (fun Fv_3 v_3 h_v_3 hg => ?_)
      refine lR hg (fun hr_3 hg => ?_)
      refine lJ (ih _ _ _ _ _ _ (sX6_a b_this v_3) _ (LI_of (EI_add (EI_i h_x1) (EI_i (LI_n (X := 1) (x := 1) rfl))) hr_3) (LA_cg (eX6_a_a _ _) h_v_3) (LA_cg (eX6_kept_a _ _) h_v_kept) (LI_cg (eX6_keptMany_a _ _) h_v_keptMany) (LI_cg (eX6_thrown_a _ _) h_v_thrown) hg) (fun R hq => ?_)
      obtain ⟨c0, c1, c2, c3, c4, c5, c6, c7, c8, c9, c10, c11, c12, c13, c14, c15, c16, c17, c18, c19, c20, c21, c22, c23, c24, c25, c26, c27, c28⟩ := hq
      exact ⟨c0, c1, c2, c3, (c4).trans (eX6_fresh_a _ _), (c5).trans (eX6_kept_a _ _), (c6).trans (eX6_buffer_a _ _), (c7).trans (eX6_buffered_a _ _), (c8).trans (eX6_size_a _ _), (c9).trans (eX6_at_a _ _), (c10).trans (eX6_behind_a _ _), (c11).trans (eX6_kind_a _ _), (c12).trans (eX6_wrong_a _ _), (c13).trans (eX6_wrongAt_a _ _), (c14).trans (eX6_errorAt_a _ _), (c15).trans (eX6_number_a _ _), (c16).trans (eX6_best_a _ _), (c17).trans (eX6_rentBy_a _ _), (c18).trans (eX6_bareBy_a _ _), (c19).trans (eX6_aheadBy_a _ _), (c20).trans (eX6_isEdge_a _ _), (c21).trans (eX6_tried_a _ _), (c22).trans (eX6_stands_a _ _), (c23).trans (eX6_found_a _ _), (c24).trans (eX6_foundOn_a _ _), (c25).trans (eX6_moving_a _ _), (c26).trans (eX6_movingMany_a _ _), (c27).trans (eX6_foundIncome_a _ _), (c28).trans (eX6_foundMoves_a _ _)⟩
set_option maxHeartbeats 4000000 in
set_option maxRecDepth 100000 in
theorem l_X6_undo_13 {n : Nat} : ∀ (Ft1 : Int32) (t1 : Int) (Fv_a : Nat → Int32) (Fv_kept : Nat → Int32) (Fv_keptMany : Int32) (Fv_thrown : Int32) (b_this : BX6) (r : Int × BX6), LI Ft1 t1 → LA Fv_a (pX6_a b_this) → LA Fv_kept (pX6_kept b_this) → LI Fv_keptMany (pX6_keptMany b_this) → LI Fv_thrown (pX6_thrown b_this) → g_X6_undo_13 n t1 b_this = some r → ∃ R, f_X6_undo_13 n Ft1 Fv_a Fv_kept Fv_keptMany Fv_thrown = some R ∧ LI (R.1) (r.1) ∧ LA (R.2.1) (pX6_a (r.2)) ∧ LI (R.2.2.1) (pX6_keptMany (r.2)) ∧ LI (R.2.2.2) (pX6_thrown (r.2)) ∧ (pX6_fresh (r.2)) = (pX6_fresh b_this) ∧ (pX6_kept (r.2)) = (pX6_kept b_this) ∧ (pX6_buffer (r.2)) = (pX6_buffer b_this) ∧ (pX6_buffered (r.2)) = (pX6_buffered b_this) ∧ (pX6_size (r.2)) = (pX6_size b_this) ∧ (pX6_at (r.2)) = (pX6_at b_this) ∧ (pX6_behind (r.2)) = (pX6_behind b_this) ∧ (pX6_kind (r.2)) = (pX6_kind b_this) ∧ (pX6_wrong (r.2)) = (pX6_wrong b_this) ∧ (pX6_wrongAt (r.2)) = (pX6_wrongAt b_this) ∧ (pX6_errorAt (r.2)) = (pX6_errorAt b_this) ∧ (pX6_number (r.2)) = (pX6_number b_this) ∧ (pX6_best (r.2)) = (pX6_best b_this) ∧ (pX6_rentBy (r.2)) = (pX6_rentBy b_this) ∧ (pX6_bareBy (r.2)) = (pX6_bareBy b_this) ∧ (pX6_aheadBy (r.2)) = (pX6_aheadBy b_this) ∧ (pX6_isEdge (r.2)) = (pX6_isEdge b_this) ∧ (pX6_tried (r.2)) = (pX6_tried b_this) ∧ (pX6_stands (r.2)) = (pX6_stands b_this) ∧ (pX6_found (r.2)) = (pX6_found b_this) ∧ (pX6_foundOn (r.2)) = (pX6_foundOn b_this) ∧ (pX6_moving (r.2)) = (pX6_moving b_this) ∧ (pX6_movingMany (r.2)) = (pX6_movingMany b_this) ∧ (pX6_foundIncome (r.2)) = (pX6_foundIncome b_this) ∧ (pX6_foundMoves (r.2)) = (pX6_foundMoves b_this) := by
  intro Ft1 t1 Fv_a Fv_kept Fv_keptMany Fv_thrown b_this r h_t1 h_v_a h_v_kept h_v_keptMany h_v_thrown hg
  unfold g_X6_undo_13 at hg
  unfold f_X6_undo_13
  refine lI (LI_le h_t1 (LI_n (X := 0) (x := 0) rfl)) hg (fun hc hg => ?_) (fun hc hg => ?_)
  · refine lR hg (fun hr_4 hg => ?_)
    refine lL (LI_of (EI_sub (EI_i h_v_keptMany) (EI_i (LI_n (X := 1) (x := 1) rfl))) hr_4) hg (fun Fy_4 y_4 h_y_4 hg => ?_)
    refine lJ (l_X6_undo_37 n _ _ _ _ _ _ (sX6_thrown (sX6_keptMany b_this y_4) t1) _ (LI_n (X := 0) (x := 0) rfl) (LA_cg (Eq.trans (eX6_a_thrown _ _) (eX6_a_keptMany _ _)) h_v_a) (LA_cg (Eq.trans (eX6_kept_thrown _ _) (eX6_kept_keptMany _ _)) h_v_kept) (LI_cg (Eq.trans (eX6_keptMany_thrown _ _) (eX6_keptMany_keptMany _ _)) h_y_4) (LI_cg (eX6_thrown_thrown _ _) h_t1) hg) (fun R hq => ?_)
    obtain ⟨c0, c1, c2, c3, c4, c5, c6, c7, c8, c9, c10, c11, c12, c13, c14, c15, c16, c17, c18, c19, c20, c21, c22, c23, c24, c25, c26, c27, c28⟩ := hq
    exact ⟨c0, c1, c2, c3, (c4).trans (Eq.trans (eX6_fresh_thrown _ _) (eX6_fresh_keptMany _ _)), (c5).trans (Eq.trans (eX6_kept_thrown _ _) (eX6_kept_keptMany _ _)), (c6).trans (Eq.trans (eX6_buffer_thrown _ _) (eX6_buffer_keptMany _ _)), (c7).trans (Eq.trans (eX6_buffered_thrown _ _) (eX6_buffered_keptMany _ _)), (c8).trans (Eq.trans (eX6_size_thrown _ _) (eX6_size_keptMany _ _)), (c9).trans (Eq.trans (eX6_at_thrown _ _) (eX6_at_keptMany _ _)), (c10).trans (Eq.trans (eX6_behind_thrown _ _) (eX6_behind_keptMany _ _)), (c11).trans (Eq.trans (eX6_kind_thrown _ _) (eX6_kind_keptMany _ _)), (c12).trans (Eq.trans (eX6_wrong_thrown _ _) (eX6_wrong_keptMany _ _)), (c13).trans (Eq.trans (eX6_wrongAt_thrown _ _) (eX6_wrongAt_keptMany _ _)), (c14).trans (Eq.trans (eX6_errorAt_thrown _ _) (eX6_errorAt_keptMany _ _)), (c15).trans (Eq.trans (eX6_number_thrown _ _) (eX6_number_keptMany _ _)), (c16).trans (Eq.trans (eX6_best_thrown _ _) (eX6_best_keptMany _ _)), (c17).trans (Eq.trans (eX6_rentBy_thrown _ _) (eX6_rentBy_keptMany _ _)), (c18).trans (Eq.trans (eX6_bareBy_thrown _ _) (eX6_bareBy_keptMany _ _)), (c19).trans (Eq.trans (eX6_aheadBy_thrown _ _) (eX6_aheadBy_keptMany _ _)), (c20).trans (Eq.trans (eX6_isEdge_thrown _ _) (eX6_isEdge_keptMany _ _)), (c21).trans (Eq.trans (eX6_tried_thrown _ _) (eX6_tried_keptMany _ _)), (c22).trans (Eq.trans (eX6_stands_thrown _ _) (eX6_stands_keptMany _ _)), (c23).trans (Eq.trans (eX6_found_thrown _ _) (eX6_found_keptMany _ _)), (c24).trans (Eq.trans (eX6_foundOn_thrown _ _) (eX6_foundOn_keptMany _ _)), (c25).trans (Eq.trans (eX6_moving_thrown _ _) (eX6_moving_keptMany _ _)), (c26).trans (Eq.trans (eX6_movingMany_thrown _ _) (eX6_movingMany_keptMany _ _)), (c27).trans (Eq.trans (eX6_foundIncome_thrown _ _) (eX6_foundIncome_keptMany _ _)), (c28).trans (Eq.trans (eX6_foundMoves_thrown _ _) (eX6_foundMoves_keptMany _ _))⟩
  · cases hg
    exact ⟨_, rfl, (LI_n (X := 0) (x := 0) rfl), (LA_cg (eX6_a_thrown _ _) h_v_a), (LI_cg (eX6_keptMany_thrown _ _) h_v_keptMany), (LI_cg (eX6_thrown_thrown _ _) h_t1), (eX6_fresh_thrown _ _), (eX6_kept_thrown _ _), (eX6_buffer_thrown _ _), (eX6_buffered_thrown _ _), (eX6_size_thrown _ _), (eX6_at_thrown _ _), (eX6_behind_thrown _ _), (eX6_kind_thrown _ _), (eX6_wrong_thrown _ _), (eX6_wrongAt_thrown _ _), (eX6_errorAt_thrown _ _), (eX6_number_thrown _ _), (eX6_best_thrown _ _), (eX6_rentBy_thrown _ _), (eX6_bareBy_thrown _ _), (eX6_aheadBy_thrown _ _), (eX6_isEdge_thrown _ _), (eX6_tried_thrown _ _), (eX6_stands_thrown _ _), (eX6_found_thrown _ _), (eX6_foundOn_thrown _ _), (eX6_moving_thrown _ _), (eX6_movingMany_thrown _ _), (eX6_foundIncome_thrown _ _), (eX6_foundMoves_thrown _ _)⟩
set_option maxHeartbeats 4000000 in
set_option maxRecDepth 100000 in
theorem l_X6_undo {n : Nat} : ∀ (Fv_a : Nat → Int32) (Fv_kept : Nat → Int32) (Fv_keptMany : Int32) (Fv_thrown : Int32) (b_this : BX6) (r : Int × BX6), LA Fv_a (pX6_a b_this) → LA Fv_kept (pX6_kept b_this) → LI Fv_keptMany (pX6_keptMany b_this) → LI Fv_thrown (pX6_thrown b_this) → g_X6_undo n b_this = some r → ∃ R, f_X6_undo n Fv_a Fv_kept Fv_keptMany Fv_thrown = some R ∧ LI (R.1) (r.1) ∧ LA (R.2.1) (pX6_a (r.2)) ∧ LI (R.2.2.1) (pX6_keptMany (r.2)) ∧ LI (R.2.2.2) (pX6_thrown (r.2)) ∧ (pX6_fresh (r.2)) = (pX6_fresh b_this) ∧ (pX6_kept (r.2)) = (pX6_kept b_this) ∧ (pX6_buffer (r.2)) = (pX6_buffer b_this) ∧ (pX6_buffered (r.2)) = (pX6_buffered b_this) ∧ (pX6_size (r.2)) = (pX6_size b_this) ∧ (pX6_at (r.2)) = (pX6_at b_this) ∧ (pX6_behind (r.2)) = (pX6_behind b_this) ∧ (pX6_kind (r.2)) = (pX6_kind b_this) ∧ (pX6_wrong (r.2)) = (pX6_wrong b_this) ∧ (pX6_wrongAt (r.2)) = (pX6_wrongAt b_this) ∧ (pX6_errorAt (r.2)) = (pX6_errorAt b_this) ∧ (pX6_number (r.2)) = (pX6_number b_this) ∧ (pX6_best (r.2)) = (pX6_best b_this) ∧ (pX6_rentBy (r.2)) = (pX6_rentBy b_this) ∧ (pX6_bareBy (r.2)) = (pX6_bareBy b_this) ∧ (pX6_aheadBy (r.2)) = (pX6_aheadBy b_this) ∧ (pX6_isEdge (r.2)) = (pX6_isEdge b_this) ∧ (pX6_tried (r.2)) = (pX6_tried b_this) ∧ (pX6_stands (r.2)) = (pX6_stands b_this) ∧ (pX6_found (r.2)) = (pX6_found b_this) ∧ (pX6_foundOn (r.2)) = (pX6_foundOn b_this) ∧ (pX6_moving (r.2)) = (pX6_moving b_this) ∧ (pX6_movingMany (r.2)) = (pX6_movingMany b_this) ∧ (pX6_foundIncome (r.2)) = (pX6_foundIncome b_this) ∧ (pX6_foundMoves (r.2)) = (pX6_foundMoves b_this) := by
  intro Fv_a Fv_kept Fv_keptMany Fv_thrown b_this r h_v_a h_v_kept h_v_keptMany h_v_thrown hg
  unfold g_X6_undo at hg
  unfold f_X6_undo
  refine lI (LI_eq h_v_keptMany (LI_n (X := 0) (x := 0) rfl)) hg (fun hc hg => ?_) (fun hc hg => ?_)
  · refine lJ (l_X6_undo_13 _ _ _ _ _ _ b_this _ (LI_n (X := 1) (x := 1) rfl) h_v_a h_v_kept h_v_keptMany h_v_thrown hg) (fun R hq => ?_)
    obtain ⟨c0, c1, c2, c3, c4, c5, c6, c7, c8, c9, c10, c11, c12, c13, c14, c15, c16, c17, c18, c19, c20, c21, c22, c23, c24, c25, c26, c27, c28⟩ := hq
    exact ⟨c0, c1, c2, c3, c4, c5, c6, c7, c8, c9, c10, c11, c12, c13, c14, c15, c16, c17, c18, c19, c20, c21, c22, c23, c24, c25, c26, c27, c28⟩
  · refine lJ (l_X6_undo_13 _ _ _ _ _ _ b_this _ (LI_n (X := 0) (x := 0) rfl) h_v_a h_v_kept h_v_keptMany h_v_thrown hg) (fun R hq => ?_)
    obtain ⟨c0, c1, c2, c3, c4, c5, c6, c7, c8, c9, c10, c11, c12, c13, c14, c15, c16, c17, c18, c19, c20, c21, c22, c23, c24, c25, c26, c27, c28⟩ := hq
    exact ⟨c0, c1, c2, c3, c4, c5, c6, c7, c8, c9, c10, c11, c12, c13, c14, c15, c16, c17, c18, c19, c20, c21, c22, c23, c24, c25, c26, c27, c28⟩
