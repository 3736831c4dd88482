set_option maxHeartbeats 4000000 in
set_option maxRecDepth 100000 in
theorem l_X6_rent : ∀ (Fx1 : Int32) (x1 : Int) (Fv_a : Nat → Int32) (Fv_thrown : Int32) (b_this : BX6) (r : Int × BX6), LI Fx1 x1 → LA Fv_a (pX6_a b_this) → LI Fv_thrown (pX6_thrown b_this) → g_X6_rent b_this x1 = some r → ∃ R, f_X6_rent Fv_a Fv_thrown Fx1 = some R ∧ LI (R.1) (r.1) ∧ LI (R.2) (pX6_thrown (r.2)) ∧ (pX6_a (r.2)) = (pX6_a b_this) ∧ (pX6_fresh (r.2)) = (pX6_fresh b_this) ∧ (pX6_kept (r.2)) = (pX6_kept b_this) ∧ (pX6_keptMany (r.2)) = (pX6_keptMany b_this) ∧ (pX6_buffer (r.2)) = (pX6_buffer b_this) ∧ (pX6_buffered (r.2)) = (pX6_buffered b_this) ∧ (pX6_size (r.2)) = (pX6_size b_this) ∧ (pX6_at (r.2)) = (pX6_at b_this) ∧ (pX6_behind (r.2)) = (pX6_behind b_this) ∧ (pX6_kind (r.2)) = (pX6_kind b_this) ∧ (pX6_wrong (r.2)) = (pX6_wrong b_this) ∧ (pX6_wrongAt (r.2)) = (pX6_wrongAt b_this) ∧ (pX6_errorAt (r.2)) = (pX6_errorAt b_this) ∧ (pX6_number (r.2)) = (pX6_number b_this) ∧ (pX6_best (r.2)) = (pX6_best b_this) ∧ (pX6_rentBy (r.2)) = (pX6_rentBy b_this) ∧ (pX6_bareBy (r.2)) = (pX6_bareBy b_this) ∧ (pX6_aheadBy (r.2)) = (pX6_aheadBy b_this) ∧ (pX6_isEdge (r.2)) = (pX6_isEdge b_this) ∧ (pX6_tried (r.2)) = (pX6_tried b_this) ∧ (pX6_stands (r.2)) = (pX6_stands b_this) ∧ (pX6_found (r.2)) = (pX6_found b_this) ∧ (pX6_foundOn (r.2)) = (pX6_foundOn b_this) ∧ (pX6_moving (r.2)) = (pX6_moving b_this) ∧ (pX6_movingMany (r.2)) = (pX6_movingMany b_this) ∧ (pX6_foundIncome (r.2)) = (pX6_foundIncome b_this) ∧ (pX6_foundMoves (r.2)) = (pX6_foundMoves b_this) := by
  intro Fx1 x1 Fv_a Fv_thrown b_this r h_x1 h_v_a h_v_thrown hg
  unfold g_X6_rent at hg
  unfold f_X6_rent
  refine lB_2_2 (fun r hr => l_X6_pitchValue  _ _ _ _ _ _ _ r (LI_n (x := 2) rfl) h_x1 h_v_a h_v_thrown hr) hg (fun Fr_1 Fv_2 r_1 b_1 hq hg => ?_)
  obtain ⟨q_2, q_3, q_4, q_5, q_6, q_7, q_8, q_9, q_10, q_11, q_12, q_13, q_14, q_15, q_16, q_17, q_18, q_19, q_20, q_21, q_22, q_23, q_24, q_25, q_26, q_27, q_28, q_29, q_30⟩ := hq
  have hl_31 := (LA_cg q_4 h_v_a)
  cases hg
  exact ⟨_, rfl, q_2, q_3, q_4, q_5, q_6, q_7, q_8, q_9, q_10, q_11, q_12, q_13, q_14, q_15, q_16, q_17, q_18, q_19, q_20, q_21, q_22, q_23, q_24, q_25, q_26, q_27, q_28, q_29, q_30⟩
set_option maxHeartbeats 4000000 in
set_option maxRecDepth 100000 in
theorem l_X6_row : ∀ (Fx1 : Int32) (x1 : Int) (Fv_a : Nat → Int32) (Fv_thrown : Int32) (b_this : BX6) (r : Int × BX6), LI Fx1 x1 → LA Fv_a (pX6_a b_this) → LI Fv_thrown (pX6_thrown b_this) → g_X6_row b_this x1 = some r → ∃ R, f_X6_row Fv_a Fv_thrown Fx1 = some R ∧ LI (R.1) (r.1) ∧ LI (R.2) (pX6_thrown (r.2)) ∧ (pX6_a (r.2)) = (pX6_a b_this) ∧ (pX6_fresh (r.2)) = (pX6_fresh b_this) ∧ (pX6_kept (r.2)) = (pX6_kept b_this) ∧ (pX6_keptMany (r.2)) = (pX6_keptMany b_this) ∧ (pX6_buffer (r.2)) = (pX6_buffer b_this) ∧ (pX6_buffered (r.2)) = (pX6_buffered b_this) ∧ (pX6_size (r.2)) = (pX6_size b_this) ∧ (pX6_at (r.2)) = (pX6_at b_this) ∧ (pX6_behind (r.2)) = (pX6_behind b_this) ∧ (pX6_kind (r.2)) = (pX6_kind b_this) ∧ (pX6_wrong (r.2)) = (pX6_wrong b_this) ∧ (pX6_wrongAt (r.2)) = (pX6_wrongAt b_this) ∧ (pX6_errorAt (r.2)) = (pX6_errorAt b_this) ∧ (pX6_number (r.2)) = (pX6_number b_this) ∧ (pX6_best (r.2)) = (pX6_best b_this) ∧ (pX6_rentBy (r.2)) = (pX6_rentBy b_this) ∧ (pX6_bareBy (r.2)) = (pX6_bareBy b_this) ∧ (pX6_aheadBy (r.2)) = (pX6_aheadBy b_this) ∧ (pX6_isEdge (r.2)) = (pX6_isEdge b_this) ∧ (pX6_tried (r.2)) = (pX6_tried b_this) ∧ (pX6_stands (r.2)) = (pX6_stands b_this) ∧ (pX6_found (r.2)) = (pX6_found b_this) ∧ (pX6_foundOn (r.2)) = (pX6_foundOn b_this) ∧ (pX6_moving (r.2)) = (pX6_moving b_this) ∧ (pX6_movingMany (r.2)) = (pX6_movingMany b_this) ∧ (pX6_foundIncome (r.2)) = (pX6_foundIncome b_this) ∧ (pX6_foundMoves (r.2)) = (pX6_foundMoves b_this) := by
  intro Fx1 x1 Fv_a Fv_thrown b_this r h_x1 h_v_a h_v_thrown hg
  unfold g_X6_row at hg
  unfold f_X6_row
  refine lB_2_2 (fun r hr => l_X6_pitchValue  _ _ _ _ _ _ _ r (LI_n (x := 50) rfl) h_x1 h_v_a h_v_thrown hr) hg (fun Fr_1 Fv_2 r_1 b_1 hq hg => ?_)
  obtain ⟨q_2, q_3, q_4, q_5, q_6, q_7, q_8, q_9, q_10, q_11, q_12, q_13, q_14, q_15, q_16, q_17, q_18, q_19, q_20, q_21, q_22, q_23, q_24, q_25, q_26, q_27, q_28, q_29, q_30⟩ := hq
  have hl_31 := (LA_cg q_4 h_v_a)
  cases hg
  exact ⟨_, rfl, q_2, q_3, q_4, q_5, q_6, q_7, q_8, q_9, q_10, q_11, q_12, q_13, q_14, q_15, q_16, q_17, q_18, q_19, q_20, q_21, q_22, q_23, q_24, q_25, q_26, q_27, q_28, q_29, q_30⟩
set_option maxHeartbeats 4000000 in
set_option maxRecDepth 100000 in
theorem l_X6_setClash_61 {n : Nat} : ∀ (Ft1 : Int32) (Ft2 : Int32) (Ft3 : Int32) (t1 : Int) (t2 : Int) (t3 : Int) (Fv_a : Nat → Int32) (Fv_kept : Nat → Int32) (Fv_keptMany : Int32) (Fv_thrown : Int32) (b_this : BX6) (r : BX6), LI Ft1 t1 → LI Ft2 t2 → LI Ft3 t3 → LA Fv_a (pX6_a b_this) → LA Fv_kept (pX6_kept b_this) → LI Fv_keptMany (pX6_keptMany b_this) → LI Fv_thrown (pX6_thrown b_this) → g_X6_setClash_61 n t1 t2 t3 b_this = some r → ∃ R, f_X6_setClash_61 n Ft1 Ft2 Ft3 Fv_a Fv_kept Fv_keptMany Fv_thrown = some R ∧ LA (R.1) (pX6_a r) ∧ LA (R.2.1) (pX6_kept r) ∧ LI (R.2.2.1) (pX6_keptMany r) ∧ LI (R.2.2.2) (pX6_thrown r) ∧ (pX6_fresh r) = (pX6_fresh b_this) ∧ (pX6_buffer r) = (pX6_buffer b_this) ∧ (pX6_buffered r) = (pX6_buffered b_this) ∧ (pX6_size r) = (pX6_size b_this) ∧ (pX6_at r) = (pX6_at b_this) ∧ (pX6_behind r) = (pX6_behind b_this) ∧ (pX6_kind r) = (pX6_kind b_this) ∧ (pX6_wrong r) = (pX6_wrong b_this) ∧ (pX6_wrongAt r) = (pX6_wrongAt b_this) ∧ (pX6_errorAt r) = (pX6_errorAt b_this) ∧ (pX6_number r) = (pX6_number b_this) ∧ (pX6_best r) = (pX6_best b_this) ∧ (pX6_rentBy r) = (pX6_rentBy b_this) ∧ (pX6_bareBy r) = (pX6_bareBy b_this) ∧ (pX6_aheadBy r) = (pX6_aheadBy b_this) ∧ (pX6_isEdge r) = (pX6_isEdge b_this) ∧ (pX6_tried r) = (pX6_tried b_this) ∧ (pX6_stands r) = (pX6_stands b_this) ∧ (pX6_found r) = (pX6_found b_this) ∧ (pX6_foundOn r) = (pX6_foundOn b_this) ∧ (pX6_moving r) = (pX6_moving b_this) ∧ (pX6_movingMany r) = (pX6_movingMany b_this) ∧ (pX6_foundIncome r) = (pX6_foundIncome b_this) ∧ (pX6_foundMoves r) = (pX6_foundMoves b_this) := by
  intro Ft1 Ft2 Ft3 t1 t2 t3 Fv_a Fv_kept Fv_keptMany Fv_thrown b_this r h_t1 h_t2 h_t3 h_v_a h_v_kept h_v_keptMany h_v_thrown hg
  unfold g_X6_setClash_61 at hg
  unfold f_X6_setClash_61
  refine lB_1_1 (fun r hr => l_X6_clashes  _ _ _ _ _ _ _ _ r h_t1 h_t2 h_t3 h_v_a hr) hg (fun Fv_1 b_1 hq hg => ?_)
  obtain ⟨q_2⟩ := hq
  cases hg
  exact ⟨_, rfl, q_2, h_v_kept, h_v_keptMany, h_v_thrown, rfl, rfl, rfl, rfl, rfl, rfl, rfl, rfl, rfl, rfl, rfl, rfl, rfl, rfl, rfl, rfl, rfl, rfl, rfl, rfl, rfl, rfl, rfl, rfl⟩
set_option maxHeartbeats 4000000 in
set_option maxRecDepth 100000 in
theorem l_X6_setClash_31 {n : Nat} : ∀ (Ft1 : Int32) (Fx1 : Int32) (Fx2 : Int32) (Fx3 : Int32) (t1 : Int) (x1 : Int) (x2 : Int) (x3 : Int) (Fv_a : Nat → Int32) (Fv_kept : Nat → Int32) (Fv_keptMany : Int32) (Fv_thrown : Int32) (b_this : BX6) (r : BX6), LI Ft1 t1 → LI Fx1 x1 → LI Fx2 x2 → LI Fx3 x3 → LA Fv_a (pX6_a b_this) → LA Fv_kept (pX6_kept b_this) → LI Fv_keptMany (pX6_keptMany b_this) → LI Fv_thrown (pX6_thrown b_this) → g_X6_setClash_31 n t1 x1 x2 x3 b_this = some r → ∃ R, f_X6_setClash_31 n Ft1 Fx1 Fx2 Fx3 Fv_a Fv_kept Fv_keptMany Fv_thrown = some R ∧ LA (R.1) (pX6_a r) ∧ LA (R.2.1) (pX6_kept r) ∧ LI (R.2.2.1) (pX6_keptMany r) ∧ LI (R.2.2.2) (pX6_thrown r) ∧ (pX6_fresh r) = (pX6_fresh b_this) ∧ (pX6_buffer r) = (pX6_buffer b_this) ∧ (pX6_buffered r) = (pX6_buffered b_this) ∧ (pX6_size r) = (pX6_size b_this) ∧ (pX6_at r) = (pX6_at b_this) ∧ (pX6_behind r) = (pX6_behind b_this) ∧ (pX6_kind r) = (pX6_kind b_this) ∧ (pX6_wrong r) = (pX6_wrong b_this) ∧ (pX6_wrongAt r) = (pX6_wrongAt b_this) ∧ (pX6_errorAt r) = (pX6_errorAt b_this) ∧ (pX6_number r) = (pX6_number b_this) ∧ (pX6_best r) = (pX6_best b_this) ∧ (pX6_rentBy r) = (pX6_rentBy b_this) ∧ (pX6_bareBy r) = (pX6_bareBy b_this) ∧ (pX6_aheadBy r) = (pX6_aheadBy b_this) ∧ (pX6_isEdge r) = (pX6_isEdge b_this) ∧ (pX6_tried r) = (pX6_tried b_this) ∧ (pX6_stands r) = (pX6_stands b_this) ∧ (pX6_found r) = (pX6_found b_this) ∧ (pX6_foundOn r) = (pX6_foundOn b_this) ∧ (pX6_moving r) = (pX6_moving b_this) ∧ (pX6_movingMany r) = (pX6_movingMany b_this) ∧ (pX6_foundIncome r) = (pX6_foundIncome b_this) ∧ (pX6_foundMoves r) = (pX6_foundMoves b_this) := by
  intro Ft1 Fx1 Fx2 Fx3 t1 x1 x2 x3 Fv_a Fv_kept Fv_keptMany Fv_thrown b_this r h_t1 h_x1 h_x2 h_x3 h_v_a h_v_kept h_v_keptMany h_v_thrown hg
  unfold g_X6_setClash_31 at hg
  unfold f_X6_setClash_31
  refine lI (LI_le h_t1 (LI_n (x := 0) rfl)) hg (fun hc hg => ?_) (fun hc hg => ?_)
  · refine lB_2_1 (fun r hr => l_X6_keeps  _ _ _ _ r h_v_a h_v_kept h_v_keptMany hr) hg (fun Fv_3 Fv_4 b_3 hq hg => ?_)
    obtain ⟨q_4, q_5, q_6, q_7, q_8, q_9, q_10, q_11, q_12, q_13, q_14, q_15, q_16, q_17, q_18, q_19, q_20, q_21, q_22, q_23, q_24, q_25, q_26, q_27, q_28, q_29, q_30, q_31⟩ := hq
    have hl_32 := (LA_cg q_6 h_v_a)
    have hl_33 := (LI_cg q_8 h_t1)
    refine lI (LI_eq h_x3 (LI_n (x := 0) rfl)) hg (fun hc hg => ?_) (fun hc hg => ?_)
    · obtain ⟨R, hR, c0, c1, c2, c3, c4, c5, c6, c7, c8, c9, c10, c11, c12, c13, c14, c15, c16, c17, c18, c19, c20, c21, c22, c23, c24, c25, c26, c27⟩ := l_X6_setClash_61 _ _ _ _ _ _ _ _ _ _ _ _ h_x1 h_x2 (LI_n (x := 0) rfl) hl_32 q_4 q_5 hl_33 hg
      exact ⟨R, hR, c0, c1, c2, c3, (c4).trans q_7, (c5).trans q_9, (c6).trans q_10, (c7).trans q_11, (c8).trans q_12, (c9).trans q_13, (c10).trans q_14, (c11).trans q_15, (c12).trans q_16, (c13).trans q_17, (c14).trans q_18, (c15).trans q_19, (c16).trans q_20, (c17).trans q_21, (c18).trans q_22, (c19).trans q_23, (c20).trans q_24, (c21).trans q_25, (c22).trans q_26, (c23).trans q_27, (c24).trans q_28, (c25).trans q_29, (c26).trans q_30, (c27).trans q_31⟩
    · obtain ⟨R, hR, c0, c1, c2, c3, c4, c5, c6, c7, c8, c9, c10, c11, c12, c13, c14, c15, c16, c17, c18, c19, c20, c21, c22, c23, c24, c25, c26, c27⟩ := l_X6_setClash_61 _ _ _ _ _ _ _ _ _ _ _ _ h_x1 h_x2 (LI_n (x := 1) rfl) hl_32 q_4 q_5 hl_33 hg
      exact ⟨R, hR, c0, c1, c2, c3, (c4).trans q_7, (c5).trans q_9, (c6).trans q_10, (c7).trans q_11, (c8).trans q_12, (c9).trans q_13, (c10).trans q_14, (c11).trans q_15, (c12).trans q_16, (c13).trans q_17, (c14).trans q_18, (c15).trans q_19, (c16).trans q_20, (c17).trans q_21, (c18).trans q_22, (c19).trans q_23, (c20).trans q_24, (c21).trans q_25, (c22).trans q_26, (c23).trans q_27, (c24).trans q_28, (c25).trans q_29, (c26).trans q_30, (c27).trans q_31⟩
  · cases hg
    exact ⟨_, rfl, h_v_a, h_v_kept, h_v_keptMany, h_t1, rfl, rfl, rfl, rfl, rfl, rfl, rfl, rfl, rfl, rfl, rfl, rfl, rfl, rfl, rfl, rfl, rfl, rfl, rfl, rfl, rfl, rfl, rfl, rfl⟩
set_option maxHeartbeats 4000000 in
set_option maxRecDepth 100000 in
theorem l_X6_setClash_30 {n : Nat} : ∀ (Fx1 : Int32) (Fx2 : Int32) (Fx3 : Int32) (x1 : Int) (x2 : Int) (x3 : Int) (Fv_a : Nat → Int32) (Fv_kept : Nat → Int32) (Fv_keptMany : Int32) (Fv_thrown : Int32) (b_this : BX6) (r : BX6), LI Fx1 x1 → LI Fx2 x2 → LI Fx3 x3 → LA Fv_a (pX6_a b_this) → LA Fv_kept (pX6_kept b_this) → LI Fv_keptMany (pX6_keptMany b_this) → LI Fv_thrown (pX6_thrown b_this) → g_X6_setClash_30 n x1 x2 x3 b_this = some r → ∃ R, f_X6_setClash_30 n Fx1 Fx2 Fx3 Fv_a Fv_kept Fv_keptMany Fv_thrown = some R ∧ LA (R.1) (pX6_a r) ∧ LA (R.2.1) (pX6_kept r) ∧ LI (R.2.2.1) (pX6_keptMany r) ∧ LI (R.2.2.2) (pX6_thrown r) ∧ (pX6_fresh r) = (pX6_fresh b_this) ∧ (pX6_buffer r) = (pX6_buffer b_this) ∧ (pX6_buffered r) = (pX6_buffered b_this) ∧ (pX6_size r) = (pX6_size b_this) ∧ (pX6_at r) = (pX6_at b_this) ∧ (pX6_behind r) = (pX6_behind b_this) ∧ (pX6_kind r) = (pX6_kind b_this) ∧ (pX6_wrong r) = (pX6_wrong b_this) ∧ (pX6_wrongAt r) = (pX6_wrongAt b_this) ∧ (pX6_errorAt r) = (pX6_errorAt b_this) ∧ (pX6_number r) = (pX6_number b_this) ∧ (pX6_best r) = (pX6_best b_this) ∧ (pX6_rentBy r) = (pX6_rentBy b_this) ∧ (pX6_bareBy r) = (pX6_bareBy b_this) ∧ (pX6_aheadBy r) = (pX6_aheadBy b_this) ∧ (pX6_isEdge r) = (pX6_isEdge b_this) ∧ (pX6_tried r) = (pX6_tried b_this) ∧ (pX6_stands r) = (pX6_stands b_this) ∧ (pX6_found r) = (pX6_found b_this) ∧ (pX6_foundOn r) = (pX6_foundOn b_this) ∧ (pX6_moving r) = (pX6_moving b_this) ∧ (pX6_movingMany r) = (pX6_movingMany b_this) ∧ (pX6_foundIncome r) = (pX6_foundIncome b_this) ∧ (pX6_foundMoves r) = (pX6_foundMoves b_this) := by
  intro Fx1 Fx2 Fx3 x1 x2 x3 Fv_a Fv_kept Fv_keptMany Fv_thrown b_this r h_x1 h_x2 h_x3 h_v_a h_v_kept h_v_keptMany h_v_thrown hg
  unfold g_X6_setClash_30 at hg
  unfold f_X6_setClash_30
  obtain ⟨R, hR, c0, c1, c2, c3, c4, c5, c6, c7, c8, c9, c10, c11, c12, c13, c14, c15, c16, c17, c18, c19, c20, c21, c22, c23, c24, c25, c26, c27⟩ := l_X6_setClash_31 _ _ _ _ _ _ _ _ _ _ _ _ _ _ (LI_n (x := 0) rfl) h_x1 h_x2 h_x3 h_v_a h_v_kept h_v_keptMany h_v_thrown hg
  exact ⟨R, hR, c0, c1, c2, c3, c4, c5, c6, c7, c8, c9, c10, c11, c12, c13, c14, c15, c16, c17, c18, c19, c20, c21, c22, c23, c24, c25, c26, c27⟩
set_option maxHeartbeats 4000000 in
set_option maxRecDepth 100000 in
theorem l_X6_setClash {n : Nat} : ∀ (Fx1 : Int32) (Fx2 : Int32) (Fx3 : Int32) (x1 : Int) (x2 : Int) (x3 : Int) (Fv_a : Nat → Int32) (Fv_kept : Nat → Int32) (Fv_keptMany : Int32) (Fv_thrown : Int32) (b_this : BX6) (r : BX6), LI Fx1 x1 → LI Fx2 x2 → LI Fx3 x3 → LA Fv_a (pX6_a b_this) → LA Fv_kept (pX6_kept b_this) → LI Fv_keptMany (pX6_keptMany b_this) → LI Fv_thrown (pX6_thrown b_this) → g_X6_setClash n b_this x1 x2 x3 = some r → ∃ R, f_X6_setClash n Fv_a Fv_kept Fv_keptMany Fv_thrown Fx1 Fx2 Fx3 = some R ∧ LA (R.1) (pX6_a r) ∧ LA (R.2.1) (pX6_kept r) ∧ LI (R.2.2.1) (pX6_keptMany r) ∧ LI (R.2.2.2) (pX6_thrown r) ∧ (pX6_fresh r) = (pX6_fresh b_this) ∧ (pX6_buffer r) = (pX6_buffer b_this) ∧ (pX6_buffered r) = (pX6_buffered b_this) ∧ (pX6_size r) = (pX6_size b_this) ∧ (pX6_at r) = (pX6_at b_this) ∧ (pX6_behind r) = (pX6_behind b_this) ∧ (pX6_kind r) = (pX6_kind b_this) ∧ (pX6_wrong r) = (pX6_wrong b_this) ∧ (pX6_wrongAt r) = (pX6_wrongAt b_this) ∧ (pX6_errorAt r) = (pX6_errorAt b_this) ∧ (pX6_number r) = (pX6_number b_this) ∧ (pX6_best r) = (pX6_best b_this) ∧ (pX6_rentBy r) = (pX6_rentBy b_this) ∧ (pX6_bareBy r) = (pX6_bareBy b_this) ∧ (pX6_aheadBy r) = (pX6_aheadBy b_this) ∧ (pX6_isEdge r) = (pX6_isEdge b_this) ∧ (pX6_tried r) = (pX6_tried b_this) ∧ (pX6_stands r) = (pX6_stands b_this) ∧ (pX6_found r) = (pX6_found b_this) ∧ (pX6_foundOn r) = (pX6_foundOn b_this) ∧ (pX6_moving r) = (pX6_moving b_this) ∧ (pX6_movingMany r) = (pX6_movingMany b_this) ∧ (pX6_foundIncome r) = (pX6_foundIncome b_this) ∧ (pX6_foundMoves r) = (pX6_foundMoves b_this) := by
  intro Fx1 Fx2 Fx3 x1 x2 x3 Fv_a Fv_kept Fv_keptMany Fv_thrown b_this r h_x1 h_x2 h_x3 h_v_a h_v_kept h_v_keptMany h_v_thrown hg
  unfold g_X6_setClash at hg
  unfold f_X6_setClash
  refine lB_1_1 (fun r hr => l_X6_areTrades  _ _ _ _ r h_x1 h_x2 hr) hg (fun Fr_6 r_6 hq hg => ?_)
  obtain ⟨q_34⟩ := hq
  refine lI (LI_eq q_34 (LI_n (x := 0) rfl)) hg (fun hc hg => ?_) (fun hc hg => ?_)
  · obtain ⟨R, hR, c0, c1, c2, c3, c4, c5, c6, c7, c8, c9, c10, c11, c12, c13, c14, c15, c16, c17, c18, c19, c20, c21, c22, c23, c24, c25, c26, c27⟩ := l_X6_setClash_31 _ _ _ _ _ _ _ _ _ _ _ _ _ _ (LI_n (x := 1) rfl) h_x1 h_x2 h_x3 h_v_a h_v_kept h_v_keptMany h_v_thrown hg
    exact ⟨R, hR, c0, c1, c2, c3, c4, c5, c6, c7, c8, c9, c10, c11, c12, c13, c14, c15, c16, c17, c18, c19, c20, c21, c22, c23, c24, c25, c26, c27⟩
  · refine lI (LI_eq h_x3 (LI_n (x := 0) rfl)) hg (fun hc hg => ?_) (fun hc hg => ?_)
    · obtain ⟨R, hR, c0, c1, c2, c3, c4, c5, c6, c7, c8, c9, c10, c11, c12, c13, c14, c15, c16, c17, c18, c19, c20, c21, c22, c23, c24, c25, c26, c27⟩ := l_X6_setClash_30 _ _ _ _ _ _ _ _ _ _ _ _ h_x1 h_x2 h_x3 h_v_a h_v_kept h_v_keptMany h_v_thrown hg
      exact ⟨R, hR, c0, c1, c2, c3, c4, c5, c6, c7, c8, c9, c10, c11, c12, c13, c14, c15, c16, c17, c18, c19, c20, c21, c22, c23, c24, c25, c26, c27⟩
    · refine lB_1_1 (fun r hr => l_X6_areBeside  _ _ _ _ _ _ r h_x1 h_x2 h_v_a hr) hg (fun Fr_8 r_8 hq hg => ?_)
      obtain ⟨q_35⟩ := hq
      refine lI (LI_eq q_35 (LI_n (x := 0) rfl)) hg (fun hc hg => ?_) (fun hc hg => ?_)
      · obtain ⟨R, hR, c0, c1, c2, c3, c4, c5, c6, c7, c8, c9, c10, c11, c12, c13, c14, c15, c16, c17, c18, c19, c20, c21, c22, c23, c24, c25, c26, c27⟩ := l_X6_setClash_30 _ _ _ _ _ _ _ _ _ _ _ _ h_x1 h_x2 h_x3 h_v_a h_v_kept h_v_keptMany h_v_thrown hg
        exact ⟨R, hR, c0, c1, c2, c3, c4, c5, c6, c7, c8, c9, c10, c11, c12, c13, c14, c15, c16, c17, c18, c19, c20, c21, c22, c23, c24, c25, c26, c27⟩
      · obtain ⟨R, hR, c0, c1, c2, c3, c4, c5, c6, c7, c8, c9, c10, c11, c12, c13, c14, c15, c16, c17, c18, c19, c20, c21, c22, c23, c24, c25, c26, c27⟩ := l_X6_setClash_31 _ _ _ _ _ _ _ _ _ _ _ _ _ _ (LI_n (x := 2) rfl) h_x1 h_x2 h_x3 h_v_a h_v_kept h_v_keptMany h_v_thrown hg
        exact ⟨R, hR, c0, c1, c2, c3, c4, c5, c6, c7, c8, c9, c10, c11, c12, c13, c14, c15, c16, c17, c18, c19, c20, c21, c22, c23, c24, c25, c26, c27⟩
set_option maxHeartbeats 4000000 in
set_option maxRecDepth 100000 in
theorem l_X6_setCovers_30 {n : Nat} : ∀ (Ft1 : Int32) (Fx1 : Int32) (t1 : Int) (x1 : Int) (Fv_a : Nat → Int32) (Fv_kept : Nat → Int32) (Fv_keptMany : Int32) (Fv_thrown : Int32) (b_this : BX6) (r : Int × BX6), LI Ft1 t1 → LI Fx1 x1 → LA Fv_a (pX6_a b_this) → LA Fv_kept (pX6_kept b_this) → LI Fv_keptMany (pX6_keptMany b_this) → LI Fv_thrown (pX6_thrown b_this) → g_X6_setCovers_30 n t1 x1 b_this = some r → ∃ R, f_X6_setCovers_30 n Ft1 Fx1 Fv_a Fv_kept Fv_keptMany Fv_thrown = some R ∧ LI (R.1) (r.1) ∧ LA (R.2.1) (pX6_a (r.2)) ∧ LA (R.2.2.1) (pX6_kept (r.2)) ∧ LI (R.2.2.2.1) (pX6_keptMany (r.2)) ∧ LI (R.2.2.2.2) (pX6_thrown (r.2)) ∧ (pX6_fresh (r.2)) = (pX6_fresh b_this) ∧ (pX6_buffer (r.2)) = (pX6_buffer b_this) ∧ (pX6_buffered (r.2)) = (pX6_buffered b_this) ∧ (pX6_size (r.2)) = (pX6_size b_this) ∧ (pX6_at (r.2)) = (pX6_at b_this) ∧ (pX6_behind (r.2)) = (pX6_behind b_this) ∧ (pX6_kind (r.2)) = (pX6_kind b_this) ∧ (pX6_wrong (r.2)) = (pX6_wrong b_this) ∧ (pX6_wrongAt (r.2)) = (pX6_wrongAt b_this) ∧ (pX6_errorAt (r.2)) = (pX6_errorAt b_this) ∧ (pX6_number (r.2)) = (pX6_number b_this) ∧ (pX6_best (r.2)) = (pX6_best b_this) ∧ (pX6_rentBy (r.2)) = (pX6_rentBy b_this) ∧ (pX6_bareBy (r.2)) = (pX6_bareBy b_this) ∧ (pX6_aheadBy (r.2)) = (pX6_aheadBy b_this) ∧ (pX6_isEdge (r.2)) = (pX6_isEdge b_this) ∧ (pX6_tried (r.2)) = (pX6_tried b_this) ∧ (pX6_stands (r.2)) = (pX6_stands b_this) ∧ (pX6_found (r.2)) = (pX6_found b_this) ∧ (pX6_foundOn (r.2)) = (pX6_foundOn b_this) ∧ (pX6_moving (r.2)) = (pX6_moving b_this) ∧ (pX6_movingMany (r.2)) = (pX6_movingMany b_this) ∧ (pX6_foundIncome (r.2)) = (pX6_foundIncome b_this) ∧ (pX6_foundMoves (r.2)) = (pX6_foundMoves b_this) := by
  intro Ft1 Fx1 t1 x1 Fv_a Fv_kept Fv_keptMany Fv_thrown b_this r h_t1 h_x1 h_v_a h_v_kept h_v_keptMany h_v_thrown hg
  unfold g_X6_setCovers_30 at hg
  unfold f_X6_setCovers_30
  refine lI (LI_le h_t1 (LI_n (x := 0) rfl)) hg (fun hc hg => ?_) (fun hc hg => ?_)
  · refine lB_2_1 (fun r hr => l_X6_keeps  _ _ _ _ r h_v_a h_v_kept h_v_keptMany hr) hg (fun Fv_1 Fv_2 b_1 hq hg => ?_)
    obtain ⟨q_2, q_3, q_4, q_5, q_6, q_7, q_8, q_9, q_10, q_11, q_12, q_13, q_14, q_15, q_16, q_17, q_18, q_19, q_20, q_21, q_22, q_23, q_24, q_25, q_26, q_27, q_28, q_29⟩ := hq
    have hl_30 := (LA_cg q_4 h_v_a)
    have hl_31 := (LI_cg q_6 h_t1)
    refine lA (EI_i (LI_n (x := 179) rfl)) rfl hg (fun ha_32 hg => ?_)
    refine lL (LA_at hl_30 (EI_i (LI_n (x := 179) rfl)) ha_32) hg (fun Fy_5 y_5 h_y_5 hg => ?_)
    refine lA (EI_i (LI_n (x := 179) rfl)) rfl hg (fun ha_33 hg => ?_)
    refine lL (LA_upd hl_30 (EI_i (LI_n (x := 179) rfl)) ha_33 h_x1) hg (fun Fv_7 v_7 h_v_7 hg => ?_)
    cases hg
    exact ⟨_, rfl, h_y_5, h_v_7, q_2, q_3, hl_31, q_5, q_7, q_8, q_9, q_10, q_11, q_12, q_13, q_14, q_15, q_16, q_17, q_18, q_19, q_20, q_21, q_22, q_23, q_24, q_25, q_26, q_27, q_28, q_29⟩
  · cases hg
    exact ⟨_, rfl, (LI_n (x := 0) rfl), h_v_a, h_v_kept, h_v_keptMany, h_t1, rfl, rfl, rfl, rfl, rfl, rfl, rfl, rfl, rfl, rfl, rfl, rfl, rfl, rfl, rfl, rfl, rfl, rfl, rfl, rfl, rfl, rfl, rfl, rfl⟩
set_option maxHeartbeats 4000000 in
set_option maxRecDepth 100000 in
theorem l_X6_setCovers {n : Nat} : ∀ (Fx1 : Int32) (x1 : Int) (Fv_a : Nat → Int32) (Fv_kept : Nat → Int32) (Fv_keptMany : Int32) (Fv_thrown : Int32) (b_this : BX6) (r : Int × BX6), LI Fx1 x1 → LA Fv_a (pX6_a b_this) → LA Fv_kept (pX6_kept b_this) → LI Fv_keptMany (pX6_keptMany b_this) → LI Fv_thrown (pX6_thrown b_this) → g_X6_setCovers n b_this x1 = some r → ∃ R, f_X6_setCovers n Fv_a Fv_kept Fv_keptMany Fv_thrown Fx1 = some R ∧ LI (R.1) (r.1) ∧ LA (R.2.1) (pX6_a (r.2)) ∧ LA (R.2.2.1) (pX6_kept (r.2)) ∧ LI (R.2.2.2.1) (pX6_keptMany (r.2)) ∧ LI (R.2.2.2.2) (pX6_thrown (r.2)) ∧ (pX6_fresh (r.2)) = (pX6_fresh b_this) ∧ (pX6_buffer (r.2)) = (pX6_buffer b_this) ∧ (pX6_buffered (r.2)) = (pX6_buffered b_this) ∧ (pX6_size (r.2)) = (pX6_size b_this) ∧ (pX6_at (r.2)) = (pX6_at b_this) ∧ (pX6_behind (r.2)) = (pX6_behind b_this) ∧ (pX6_kind (r.2)) = (pX6_kind b_this) ∧ (pX6_wrong (r.2)) = (pX6_wrong b_this) ∧ (pX6_wrongAt (r.2)) = (pX6_wrongAt b_this) ∧ (pX6_errorAt (r.2)) = (pX6_errorAt b_this) ∧ (pX6_number (r.2)) = (pX6_number b_this) ∧ (pX6_best (r.2)) = (pX6_best b_this) ∧ (pX6_rentBy (r.2)) = (pX6_rentBy b_this) ∧ (pX6_bareBy (r.2)) = (pX6_bareBy b_this) ∧ (pX6_aheadBy (r.2)) = (pX6_aheadBy b_this) ∧ (pX6_isEdge (r.2)) = (pX6_isEdge b_this) ∧ (pX6_tried (r.2)) = (pX6_tried b_this) ∧ (pX6_stands (r.2)) = (pX6_stands b_this) ∧ (pX6_found (r.2)) = (pX6_found b_this) ∧ (pX6_foundOn (r.2)) = (pX6_foundOn b_this) ∧ (pX6_moving (r.2)) = (pX6_moving b_this) ∧ (pX6_movingMany (r.2)) = (pX6_movingMany b_this) ∧ (pX6_foundIncome (r.2)) = (pX6_foundIncome b_this) ∧ (pX6_foundMoves (r.2)) = (pX6_foundMoves b_this) := by
  intro Fx1 x1 Fv_a Fv_kept Fv_keptMany Fv_thrown b_this r h_x1 h_v_a h_v_kept h_v_keptMany h_v_thrown hg
  unfold g_X6_setCovers at hg
  unfold f_X6_setCovers
  refine lB_1_1 (fun r hr => l_X6_isIn  _ _ _ _ _ _ r (LJ_i h_x1) (LJ_n (x := 0) rfl) (LJ_n (x := 4) rfl) hr) hg (fun Fr_8 r_8 hq hg => ?_)
  obtain ⟨q_34⟩ := hq
  refine lI (LI_eq q_34 (LI_n (x := 0) rfl)) hg (fun hc hg => ?_) (fun hc hg => ?_)
  · obtain ⟨R, hR, c0, c1, c2, c3, c4, c5, c6, c7, c8, c9, c10, c11, c12, c13, c14, c15, c16, c17, c18, c19, c20, c21, c22, c23, c24, c25, c26, c27, c28⟩ := l_X6_setCovers_30 _ _ _ _ _ _ _ _ _ _ (LI_n (x := 1) rfl) h_x1 h_v_a h_v_kept h_v_keptMany h_v_thrown hg
    exact ⟨R, hR, c0, c1, c2, c3, c4, c5, c6, c7, c8, c9, c10, c11, c12, c13, c14, c15, c16, c17, c18, c19, c20, c21, c22, c23, c24, c25, c26, c27, c28⟩
  · refine lB_1_1 (fun r hr => l_X6_usedCovers  _ _ r h_v_a hr) hg (fun Fr_10 r_10 hq hg => ?_)
    obtain ⟨q_35⟩ := hq
    refine lI (LI_le q_35 h_x1) hg (fun hc hg => ?_) (fun hc hg => ?_)
    · obtain ⟨R, hR, c0, c1, c2, c3, c4, c5, c6, c7, c8, c9, c10, c11, c12, c13, c14, c15, c16, c17, c18, c19, c20, c21, c22, c23, c24, c25, c26, c27, c28⟩ := l_X6_setCovers_30 _ _ _ _ _ _ _ _ _ _ (LI_n (x := 0) rfl) h_x1 h_v_a h_v_kept h_v_keptMany h_v_thrown hg
      exact ⟨R, hR, c0, c1, c2, c3, c4, c5, c6, c7, c8, c9, c10, c11, c12, c13, c14, c15, c16, c17, c18, c19, c20, c21, c22, c23, c24, c25, c26, c27, c28⟩
    · obtain ⟨R, hR, c0, c1, c2, c3, c4, c5, c6, c7, c8, c9, c10, c11, c12, c13, c14, c15, c16, c17, c18, c19, c20, c21, c22, c23, c24, c25, c26, c27, c28⟩ := l_X6_setCovers_30 _ _ _ _ _ _ _ _ _ _ (LI_n (x := 2) rfl) h_x1 h_v_a h_v_kept h_v_keptMany h_v_thrown hg
      exact ⟨R, hR, c0, c1, c2, c3, c4, c5, c6, c7, c8, c9, c10, c11, c12, c13, c14, c15, c16, c17, c18, c19, c20, c21, c22, c23, c24, c25, c26, c27, c28⟩
set_option maxHeartbeats 4000000 in
set_option maxRecDepth 100000 in
theorem l_X6_setRent_30 {n : Nat} : ∀ (Ft1 : Int32) (Fx1 : Int32) (Fx2 : Int32) (t1 : Int) (x1 : Int) (x2 : Int) (Fv_a : Nat → Int32) (Fv_kept : Nat → Int32) (Fv_keptMany : Int32) (Fv_thrown : Int32) (b_this : BX6) (r : Int × BX6), LI Ft1 t1 → LI Fx1 x1 → LI Fx2 x2 → LA Fv_a (pX6_a b_this) → LA Fv_kept (pX6_kept b_this) → LI Fv_keptMany (pX6_keptMany b_this) → LI Fv_thrown (pX6_thrown b_this) → g_X6_setRent_30 n t1 x1 x2 b_this = some r → ∃ R, f_X6_setRent_30 n Ft1 Fx1 Fx2 Fv_a Fv_kept Fv_keptMany Fv_thrown = some R ∧ LI (R.1) (r.1) ∧ LA (R.2.1) (pX6_a (r.2)) ∧ LA (R.2.2.1) (pX6_kept (r.2)) ∧ LI (R.2.2.2.1) (pX6_keptMany (r.2)) ∧ LI (R.2.2.2.2) (pX6_thrown (r.2)) ∧ (pX6_fresh (r.2)) = (pX6_fresh b_this) ∧ (pX6_buffer (r.2)) = (pX6_buffer b_this) ∧ (pX6_buffered (r.2)) = (pX6_buffered b_this) ∧ (pX6_size (r.2)) = (pX6_size b_this) ∧ (pX6_at (r.2)) = (pX6_at b_this) ∧ (pX6_behind (r.2)) = (pX6_behind b_this) ∧ (pX6_kind (r.2)) = (pX6_kind b_this) ∧ (pX6_wrong (r.2)) = (pX6_wrong b_this) ∧ (pX6_wrongAt (r.2)) = (pX6_wrongAt b_this) ∧ (pX6_errorAt (r.2)) = (pX6_errorAt b_this) ∧ (pX6_number (r.2)) = (pX6_number b_this) ∧ (pX6_best (r.2)) = (pX6_best b_this) ∧ (pX6_rentBy (r.2)) = (pX6_rentBy b_this) ∧ (pX6_bareBy (r.2)) = (pX6_bareBy b_this) ∧ (pX6_aheadBy (r.2)) = (pX6_aheadBy b_this) ∧ (pX6_isEdge (r.2)) = (pX6_isEdge b_this) ∧ (pX6_tried (r.2)) = (pX6_tried b_this) ∧ (pX6_stands (r.2)) = (pX6_stands b_this) ∧ (pX6_found (r.2)) = (pX6_found b_this) ∧ (pX6_foundOn (r.2)) = (pX6_foundOn b_this) ∧ (pX6_moving (r.2)) = (pX6_moving b_this) ∧ (pX6_movingMany (r.2)) = (pX6_movingMany b_this) ∧ (pX6_foundIncome (r.2)) = (pX6_foundIncome b_this) ∧ (pX6_foundMoves (r.2)) = (pX6_foundMoves b_this) := by
  intro Ft1 Fx1 Fx2 t1 x1 x2 Fv_a Fv_kept Fv_keptMany Fv_thrown b_this r h_t1 h_x1 h_x2 h_v_a h_v_kept h_v_keptMany h_v_thrown hg
  unfold g_X6_setRent_30 at hg
  unfold f_X6_setRent_30
  refine lI (LI_le h_t1 (LI_n (x := 0) rfl)) hg (fun hc hg => ?_) (fun hc hg => ?_)
  · refine lB_2_1 (fun r hr => l_X6_keeps  _ _ _ _ r h_v_a h_v_kept h_v_keptMany hr) hg (fun Fv_1 Fv_2 b_1 hq hg => ?_)
    obtain ⟨q_2, q_3, q_4, q_5, q_6, q_7, q_8, q_9, q_10, q_11, q_12, q_13, q_14, q_15, q_16, q_17, q_18, q_19, q_20, q_21, q_22, q_23, q_24, q_25, q_26, q_27, q_28, q_29⟩ := hq
    have hl_30 := (LA_cg q_4 h_v_a)
    have hl_31 := (LI_cg q_6 h_t1)
    refine lA (EI_add (EI_i (LI_n (x := 2) rfl)) (EI_i h_x1)) rfl hg (fun ha_32 hg => ?_)
    refine lL (LA_upd hl_30 (EI_add (EI_i (LI_n (x := 2) rfl)) (EI_i h_x1)) ha_32 h_x2) hg (fun Fv_5 v_5 h_v_5 hg => ?_)
    refine lB_1_1 (fun r hr => l_X6_on  _ _ _ _ r h_x1 h_v_5 hr) hg (fun Fr_6 r_6 hq hg => ?_)
    obtain ⟨q_33⟩ := hq
    refine lI (LI_eq q_33 (LI_n (x := -1) rfl)) hg (fun hc hg => ?_) (fun hc hg => ?_)
    · cases hg
      exact ⟨_, rfl, (LI_n (x := -1) rfl), h_v_5, q_2, q_3, hl_31, q_5, q_7, q_8, q_9, q_10, q_11, q_12, q_13, q_14, q_15, q_16, q_17, q_18, q_19, q_20, q_21, q_22, q_23, q_24, q_25, q_26, q_27, q_28, q_29⟩
    · refine lA (EI_add (EI_i (LI_n (x := 107) rfl)) (EI_i q_33)) rfl hg (fun ha_34 hg => ?_)
      refine lB_1_1 (fun r hr => l_X6_rentOf  _ _ _ _ _ _ r q_33 (LA_at h_v_5 (EI_add (EI_i (LI_n (x := 107) rfl)) (EI_i q_33)) ha_34) h_v_5 hr) hg (fun Fr_9 r_9 hq hg => ?_)
      obtain ⟨q_35⟩ := hq
      refine lA (EI_add (EI_i (LI_n (x := 91) rfl)) (EI_i q_33)) rfl hg (fun ha_36 hg => ?_)
      refine lI (LI_lt (LA_at h_v_5 (EI_add (EI_i (LI_n (x := 91) rfl)) (EI_i q_33)) ha_36) q_35) hg (fun hc hg => ?_) (fun hc hg => ?_)
      · refine lA (EI_add (EI_i (LI_n (x := 107) rfl)) (EI_i q_33)) rfl hg (fun ha_37 hg => ?_)
        refine lL (LA_upd h_v_5 (EI_add (EI_i (LI_n (x := 107) rfl)) (EI_i q_33)) ha_37 (LI_n (x := -1) rfl)) hg (fun Fv_13 v_13 h_v_13 hg => ?_)
        cases hg
        exact ⟨_, rfl, q_33, h_v_13, q_2, q_3, hl_31, q_5, q_7, q_8, q_9, q_10, q_11, q_12, q_13, q_14, q_15, q_16, q_17, q_18, q_19, q_20, q_21, q_22, q_23, q_24, q_25, q_26, q_27, q_28, q_29⟩
      · cases hg
        exact ⟨_, rfl, (LI_n (x := -1) rfl), h_v_5, q_2, q_3, hl_31, q_5, q_7, q_8, q_9, q_10, q_11, q_12, q_13, q_14, q_15, q_16, q_17, q_18, q_19, q_20, q_21, q_22, q_23, q_24, q_25, q_26, q_27, q_28, q_29⟩
  · cases hg
    exact ⟨_, rfl, (LI_n (x := 0) rfl), h_v_a, h_v_kept, h_v_keptMany, h_t1, rfl, rfl, rfl, rfl, rfl, rfl, rfl, rfl, rfl, rfl, rfl, rfl, rfl, rfl, rfl, rfl, rfl, rfl, rfl, rfl, rfl, rfl, rfl, rfl⟩
set_option maxHeartbeats 4000000 in
set_option maxRecDepth 100000 in
theorem l_X6_setRent {n : Nat} : ∀ (Fx1 : Int32) (Fx2 : Int32) (x1 : Int) (x2 : Int) (Fv_a : Nat → Int32) (Fv_kept : Nat → Int32) (Fv_keptMany : Int32) (Fv_thrown : Int32) (b_this : BX6) (r : Int × BX6), LI Fx1 x1 → LI Fx2 x2 → LA Fv_a (pX6_a b_this) → LA Fv_kept (pX6_kept b_this) → LI Fv_keptMany (pX6_keptMany b_this) → LI Fv_thrown (pX6_thrown b_this) → g_X6_setRent n b_this x1 x2 = some r → ∃ R, f_X6_setRent n Fv_a Fv_kept Fv_keptMany Fv_thrown Fx1 Fx2 = some R ∧ LI (R.1) (r.1) ∧ LA (R.2.1) (pX6_a (r.2)) ∧ LA (R.2.2.1) (pX6_kept (r.2)) ∧ LI (R.2.2.2.1) (pX6_keptMany (r.2)) ∧ LI (R.2.2.2.2) (pX6_thrown (r.2)) ∧ (pX6_fresh (r.2)) = (pX6_fresh b_this) ∧ (pX6_buffer (r.2)) = (pX6_buffer b_this) ∧ (pX6_buffered (r.2)) = (pX6_buffered b_this) ∧ (pX6_size (r.2)) = (pX6_size b_this) ∧ (pX6_at (r.2)) = (pX6_at b_this) ∧ (pX6_behind (r.2)) = (pX6_behind b_this) ∧ (pX6_kind (r.2)) = (pX6_kind b_this) ∧ (pX6_wrong (r.2)) = (pX6_wrong b_this) ∧ (pX6_wrongAt (r.2)) = (pX6_wrongAt b_this) ∧ (pX6_errorAt (r.2)) = (pX6_errorAt b_this) ∧ (pX6_number (r.2)) = (pX6_number b_this) ∧ (pX6_best (r.2)) = (pX6_best b_this) ∧ (pX6_rentBy (r.2)) = (pX6_rentBy b_this) ∧ (pX6_bareBy (r.2)) = (pX6_bareBy b_this) ∧ (pX6_aheadBy (r.2)) = (pX6_aheadBy b_this) ∧ (pX6_isEdge (r.2)) = (pX6_isEdge b_this) ∧ (pX6_tried (r.2)) = (pX6_tried b_this) ∧ (pX6_stands (r.2)) = (pX6_stands b_this) ∧ (pX6_found (r.2)) = (pX6_found b_this) ∧ (pX6_foundOn (r.2)) = (pX6_foundOn b_this) ∧ (pX6_moving (r.2)) = (pX6_moving b_this) ∧ (pX6_movingMany (r.2)) = (pX6_movingMany b_this) ∧ (pX6_foundIncome (r.2)) = (pX6_foundIncome b_this) ∧ (pX6_foundMoves (r.2)) = (pX6_foundMoves b_this) := by
  intro Fx1 Fx2 x1 x2 Fv_a Fv_kept Fv_keptMany Fv_thrown b_this r h_x1 h_x2 h_v_a h_v_kept h_v_keptMany h_v_thrown hg
  unfold g_X6_setRent at hg
  unfold f_X6_setRent
  refine lB_1_1 (fun r hr => l_X6_isPitch  _ _ _ _ r h_x1 h_v_a hr) hg (fun Fr_14 r_14 hq hg => ?_)
  obtain ⟨q_38⟩ := hq
  refine lI (LI_eq q_38 (LI_n (x := 0) rfl)) hg (fun hc hg => ?_) (fun hc hg => ?_)
  · obtain ⟨R, hR, c0, c1, c2, c3, c4, c5, c6, c7, c8, c9, c10, c11, c12, c13, c14, c15, c16, c17, c18, c19, c20, c21, c22, c23, c24, c25, c26, c27, c28⟩ := l_X6_setRent_30 _ _ _ _ _ _ _ _ _ _ _ _ (LI_n (x := 1) rfl) h_x1 h_x2 h_v_a h_v_kept h_v_keptMany h_v_thrown hg
    exact ⟨R, hR, c0, c1, c2, c3, c4, c5, c6, c7, c8, c9, c10, c11, c12, c13, c14, c15, c16, c17, c18, c19, c20, c21, c22, c23, c24, c25, c26, c27, c28⟩
  · refine lB_1_1 (fun r hr => l_X6_isIn  _ _ _ _ _ _ r (LJ_i h_x2) (LJ_n (x := 1) rfl) (LJ_n (x := 999) rfl) hr) hg (fun Fr_16 r_16 hq hg => ?_)
    obtain ⟨q_39⟩ := hq
    refine lI (LI_eq q_39 (LI_n (x := 0) rfl)) hg (fun hc hg => ?_) (fun hc hg => ?_)
    · obtain ⟨R, hR, c0, c1, c2, c3, c4, c5, c6, c7, c8, c9, c10, c11, c12, c13, c14, c15, c16, c17, c18, c19, c20, c21, c22, c23, c24, c25, c26, c27, c28⟩ := l_X6_setRent_30 _ _ _ _ _ _ _ _ _ _ _ _ (LI_n (x := 2) rfl) h_x1 h_x2 h_v_a h_v_kept h_v_keptMany h_v_thrown hg
      exact ⟨R, hR, c0, c1, c2, c3, c4, c5, c6, c7, c8, c9, c10, c11, c12, c13, c14, c15, c16, c17, c18, c19, c20, c21, c22, c23, c24, c25, c26, c27, c28⟩
    · obtain ⟨R, hR, c0, c1, c2, c3, c4, c5, c6, c7, c8, c9, c10, c11, c12, c13, c14, c15, c16, c17, c18, c19, c20, c21, c22, c23, c24, c25, c26, c27, c28⟩ := l_X6_setRent_30 _ _ _ _ _ _ _ _ _ _ _ _ (LI_n (x := 0) rfl) h_x1 h_x2 h_v_a h_v_kept h_v_keptMany h_v_thrown hg
      exact ⟨R, hR, c0, c1, c2, c3, c4, c5, c6, c7, c8, c9, c10, c11, c12, c13, c14, c15, c16, c17, c18, c19, c20, c21, c22, c23, c24, c25, c26, c27, c28⟩
set_option maxHeartbeats 4000000 in
set_option maxRecDepth 100000 in
theorem l_X6_start : ∀ (Fx1 : Int32) (x1 : Int) (Fv_a : Nat → Int32) (Fv_thrown : Int32) (b_this : BX6) (r : Int × BX6), LI Fx1 x1 → LA Fv_a (pX6_a b_this) → LI Fv_thrown (pX6_thrown b_this) → g_X6_start b_this x1 = some r → ∃ R, f_X6_start Fv_a Fv_thrown Fx1 = some R ∧ LI (R.1) (r.1) ∧ LI (R.2) (pX6_thrown (r.2)) ∧ (pX6_a (r.2)) = (pX6_a b_this) ∧ (pX6_fresh (r.2)) = (pX6_fresh b_this) ∧ (pX6_kept (r.2)) = (pX6_kept b_this) ∧ (pX6_keptMany (r.2)) = (pX6_keptMany b_this) ∧ (pX6_buffer (r.2)) = (pX6_buffer b_this) ∧ (pX6_buffered (r.2)) = (pX6_buffered b_this) ∧ (pX6_size (r.2)) = (pX6_size b_this) ∧ (pX6_at (r.2)) = (pX6_at b_this) ∧ (pX6_behind (r.2)) = (pX6_behind b_this) ∧ (pX6_kind (r.2)) = (pX6_kind b_this) ∧ (pX6_wrong (r.2)) = (pX6_wrong b_this) ∧ (pX6_wrongAt (r.2)) = (pX6_wrongAt b_this) ∧ (pX6_errorAt (r.2)) = (pX6_errorAt b_this) ∧ (pX6_number (r.2)) = (pX6_number b_this) ∧ (pX6_best (r.2)) = (pX6_best b_this) ∧ (pX6_rentBy (r.2)) = (pX6_rentBy b_this) ∧ (pX6_bareBy (r.2)) = (pX6_bareBy b_this) ∧ (pX6_aheadBy (r.2)) = (pX6_aheadBy b_this) ∧ (pX6_isEdge (r.2)) = (pX6_isEdge b_this) ∧ (pX6_tried (r.2)) = (pX6_tried b_this) ∧ (pX6_stands (r.2)) = (pX6_stands b_this) ∧ (pX6_found (r.2)) = (pX6_found b_this) ∧ (pX6_foundOn (r.2)) = (pX6_foundOn b_this) ∧ (pX6_moving (r.2)) = (pX6_moving b_this) ∧ (pX6_movingMany (r.2)) = (pX6_movingMany b_this) ∧ (pX6_foundIncome (r.2)) = (pX6_foundIncome b_this) ∧ (pX6_foundMoves (r.2)) = (pX6_foundMoves b_this) := by
  intro Fx1 x1 Fv_a Fv_thrown b_this r h_x1 h_v_a h_v_thrown hg
  unfold g_X6_start at hg
  unfold f_X6_start
  refine lB_2_2 (fun r hr => l_X6_traderValue  _ _ _ _ _ _ _ r (LI_n (x := 107) rfl) h_x1 h_v_a h_v_thrown hr) hg (fun Fr_1 Fv_2 r_1 b_1 hq hg => ?_)
  obtain ⟨q_2, q_3, q_4, q_5, q_6, q_7, q_8, q_9, q_10, q_11, q_12, q_13, q_14, q_15, q_16, q_17, q_18, q_19, q_20, q_21, q_22, q_23, q_24, q_25, q_26, q_27, q_28, q_29, q_30⟩ := hq
  have hl_31 := (LA_cg q_4 h_v_a)
  cases hg
  exact ⟨_, rfl, q_2, q_3, q_4, q_5, q_6, q_7, q_8, q_9, q_10, q_11, q_12, q_13, q_14, q_15, q_16, q_17, q_18, q_19, q_20, q_21, q_22, q_23, q_24, q_25, q_26, q_27, q_28, q_29, q_30⟩
set_option maxHeartbeats 4000000 in
set_option maxRecDepth 100000 in
theorem l_X6_swap_35 {n : Nat} : ∀ (Ft1 : Int32) (Fx1 : Int32) (Fx2 : Int32) (t1 : Int) (x1 : Int) (x2 : Int) (Fv_a : Nat → Int32) (Fv_kept : Nat → Int32) (Fv_keptMany : Int32) (Fv_thrown : Int32) (Fv_tried : Nat → Int32) (Fv_stands : Nat → Int32) (b_this : BX6) (r : Int × BX6), LI Ft1 t1 → LI Fx1 x1 → LI Fx2 x2 → LA Fv_a (pX6_a b_this) → LA Fv_kept (pX6_kept b_this) → LI Fv_keptMany (pX6_keptMany b_this) → LI Fv_thrown (pX6_thrown b_this) → LA Fv_tried (pX6_tried b_this) → LA Fv_stands (pX6_stands b_this) → g_X6_swap_35 n t1 x1 x2 b_this = some r → ∃ R, f_X6_swap_35 n Ft1 Fx1 Fx2 Fv_a Fv_kept Fv_keptMany Fv_thrown Fv_tried Fv_stands = some R ∧ LI (R.1) (r.1) ∧ LA (R.2.1) (pX6_a (r.2)) ∧ LA (R.2.2.1) (pX6_kept (r.2)) ∧ LI (R.2.2.2.1) (pX6_keptMany (r.2)) ∧ LI (R.2.2.2.2.1) (pX6_thrown (r.2)) ∧ LA (R.2.2.2.2.2.1) (pX6_tried (r.2)) ∧ LA (R.2.2.2.2.2.2) (pX6_stands (r.2)) ∧ (pX6_fresh (r.2)) = (pX6_fresh b_this) ∧ (pX6_buffer (r.2)) = (pX6_buffer b_this) ∧ (pX6_buffered (r.2)) = (pX6_buffered b_this) ∧ (pX6_size (r.2)) = (pX6_size b_this) ∧ (pX6_at (r.2)) = (pX6_at b_this) ∧ (pX6_behind (r.2)) = (pX6_behind b_this) ∧ (pX6_kind (r.2)) = (pX6_kind b_this) ∧ (pX6_wrong (r.2)) = (pX6_wrong b_this) ∧ (pX6_wrongAt (r.2)) = (pX6_wrongAt b_this) ∧ (pX6_errorAt (r.2)) = (pX6_errorAt b_this) ∧ (pX6_number (r.2)) = (pX6_number b_this) ∧ (pX6_best (r.2)) = (pX6_best b_this) ∧ (pX6_rentBy (r.2)) = (pX6_rentBy b_this) ∧ (pX6_bareBy (r.2)) = (pX6_bareBy b_this) ∧ (pX6_aheadBy (r.2)) = (pX6_aheadBy b_this) ∧ (pX6_isEdge (r.2)) = (pX6_isEdge b_this) ∧ (pX6_found (r.2)) = (pX6_found b_this) ∧ (pX6_foundOn (r.2)) = (pX6_foundOn b_this) ∧ (pX6_moving (r.2)) = (pX6_moving b_this) ∧ (pX6_movingMany (r.2)) = (pX6_movingMany b_this) ∧ (pX6_foundIncome (r.2)) = (pX6_foundIncome b_this) ∧ (pX6_foundMoves (r.2)) = (pX6_foundMoves b_this) := by
  intro Ft1 Fx1 Fx2 t1 x1 x2 Fv_a Fv_kept Fv_keptMany Fv_thrown Fv_tried Fv_stands b_this r h_t1 h_x1 h_x2 h_v_a h_v_kept h_v_keptMany h_v_thrown h_v_tried h_v_stands hg
  unfold g_X6_swap_35 at hg
  unfold f_X6_swap_35
  refine lI (LI_le h_t1 (LI_n (x := 0) rfl)) hg (fun hc hg => ?_) (fun hc hg => ?_)
  · refine lB_2_1 (fun r hr => l_X6_keeps  _ _ _ _ r h_v_a h_v_kept h_v_keptMany hr) hg (fun Fv_1 Fv_2 b_1 hq hg => ?_)
    obtain ⟨q_2, q_3, q_4, q_5, q_6, q_7, q_8, q_9, q_10, q_11, q_12, q_13, q_14, q_15, q_16, q_17, q_18, q_19, q_20, q_21, q_22, q_23, q_24, q_25, q_26, q_27, q_28, q_29⟩ := hq
    have hl_30 := (LA_cg q_4 h_v_a)
    have hl_31 := (LI_cg q_6 h_t1)
    have hl_32 := (LA_cg q_22 h_v_tried)
    have hl_33 := (LA_cg q_23 h_v_stands)
    refine lA (EI_add (EI_i (LI_n (x := 107) rfl)) (EI_i h_x1)) rfl hg (fun ha_34 hg => ?_)
    refine lL (LA_at hl_30 (EI_add (EI_i (LI_n (x := 107) rfl)) (EI_i h_x1)) ha_34) hg (fun Fy_5 y_5 h_y_5 hg => ?_)
    refine lA (EI_add (EI_i (LI_n (x := 107) rfl)) (EI_i h_x2)) rfl hg (fun ha_35 hg => ?_)
    refine lA (EI_add (EI_i (LI_n (x := 107) rfl)) (EI_i h_x1)) rfl hg (fun ha_36 hg => ?_)
    refine lL (LA_upd hl_30 (EI_add (EI_i (LI_n (x := 107) rfl)) (EI_i h_x1)) ha_36 (LA_at hl_30 (EI_add (EI_i (LI_n (x := 107) rfl)) (EI_i h_x2)) ha_35)) hg (fun Fv_8 v_8 h_v_8 hg => ?_)
    refine lA (EI_add (EI_i (LI_n (x := 107) rfl)) (EI_i h_x2)) rfl hg (fun ha_37 hg => ?_)
    refine lL (LA_upd h_v_8 (EI_add (EI_i (LI_n (x := 107) rfl)) (EI_i h_x2)) ha_37 h_y_5) hg (fun Fv_10 v_10 h_v_10 hg => ?_)
    refine lB_1_1 (fun r hr => l_X6_incomeNow  _ _ r h_v_10 hr) hg (fun Fr_11 r_11 hq hg => ?_)
    obtain ⟨q_38⟩ := hq
    cases hg
    exact ⟨_, rfl, q_38, h_v_10, q_2, q_3, hl_31, hl_32, hl_33, q_5, q_7, q_8, q_9, q_10, q_11, q_12, q_13, q_14, q_15, q_16, q_17, q_18, q_19, q_20, q_21, q_24, q_25, q_26, q_27, q_28, q_29⟩
  · cases hg
    exact ⟨_, rfl, (LI_n (x := 0) rfl), h_v_a, h_v_kept, h_v_keptMany, h_t1, h_v_tried, h_v_stands, rfl, rfl, rfl, rfl, rfl, rfl, rfl, rfl, rfl, rfl, rfl, rfl, rfl, rfl, rfl, rfl, rfl, rfl, rfl, rfl, rfl, rfl⟩
set_option maxHeartbeats 4000000 in
set_option maxRecDepth 100000 in
theorem l_X6_swap_17 {n : Nat} : ∀ (Fx1 : Int32) (Fx2 : Int32) (x1 : Int) (x2 : Int) (Fv_a : Nat → Int32) (Fv_kept : Nat → Int32) (Fv_keptMany : Int32) (Fv_thrown : Int32) (Fv_tried : Nat → Int32) (Fv_stands : Nat → Int32) (b_this : BX6) (r : Int × BX6), LI Fx1 x1 → LI Fx2 x2 → LA Fv_a (pX6_a b_this) → LA Fv_kept (pX6_kept b_this) → LI Fv_keptMany (pX6_keptMany b_this) → LI Fv_thrown (pX6_thrown b_this) → LA Fv_tried (pX6_tried b_this) → LA Fv_stands (pX6_stands b_this) → g_X6_swap_17 n x1 x2 b_this = some r → ∃ R, f_X6_swap_17 n Fx1 Fx2 Fv_a Fv_kept Fv_keptMany Fv_thrown Fv_tried Fv_stands = some R ∧ LI (R.1) (r.1) ∧ LA (R.2.1) (pX6_a (r.2)) ∧ LA (R.2.2.1) (pX6_kept (r.2)) ∧ LI (R.2.2.2.1) (pX6_keptMany (r.2)) ∧ LI (R.2.2.2.2.1) (pX6_thrown (r.2)) ∧ LA (R.2.2.2.2.2.1) (pX6_tried (r.2)) ∧ LA (R.2.2.2.2.2.2) (pX6_stands (r.2)) ∧ (pX6_fresh (r.2)) = (pX6_fresh b_this) ∧ (pX6_buffer (r.2)) = (pX6_buffer b_this) ∧ (pX6_buffered (r.2)) = (pX6_buffered b_this) ∧ (pX6_size (r.2)) = (pX6_size b_this) ∧ (pX6_at (r.2)) = (pX6_at b_this) ∧ (pX6_behind (r.2)) = (pX6_behind b_this) ∧ (pX6_kind (r.2)) = (pX6_kind b_this) ∧ (pX6_wrong (r.2)) = (pX6_wrong b_this) ∧ (pX6_wrongAt (r.2)) = (pX6_wrongAt b_this) ∧ (pX6_errorAt (r.2)) = (pX6_errorAt b_this) ∧ (pX6_number (r.2)) = (pX6_number b_this) ∧ (pX6_best (r.2)) = (pX6_best b_this) ∧ (pX6_rentBy (r.2)) = (pX6_rentBy b_this) ∧ (pX6_bareBy (r.2)) = (pX6_bareBy b_this) ∧ (pX6_aheadBy (r.2)) = (pX6_aheadBy b_this) ∧ (pX6_isEdge (r.2)) = (pX6_isEdge b_this) ∧ (pX6_found (r.2)) = (pX6_found b_this) ∧ (pX6_foundOn (r.2)) = (pX6_foundOn b_this) ∧ (pX6_moving (r.2)) = (pX6_moving b_this) ∧ (pX6_movingMany (r.2)) = (pX6_movingMany b_this) ∧ (pX6_foundIncome (r.2)) = (pX6_foundIncome b_this) ∧ (pX6_foundMoves (r.2)) = (pX6_foundMoves b_this) := by
  intro Fx1 Fx2 x1 x2 Fv_a Fv_kept Fv_keptMany Fv_thrown Fv_tried Fv_stands b_this r h_x1 h_x2 h_v_a h_v_kept h_v_keptMany h_v_thrown h_v_tried h_v_stands hg
  unfold g_X6_swap_17 at hg
  unfold f_X6_swap_17
  obtain ⟨R, hR, c0, c1, c2, c3, c4, c5, c6, c7, c8, c9, c10, c11, c12, c13, c14, c15, c16, c17, c18, c19, c20, c21, c22, c23, c24, c25, c26, c27, c28⟩ := l_X6_swap_35 _ _ _ _ _ _ _ _ _ _ _ _ _ _ (LI_n (x := 1) rfl) h_x1 h_x2 h_v_a h_v_kept h_v_keptMany h_v_thrown h_v_tried h_v_stands hg
  exact ⟨R, hR, c0, c1, c2, c3, c4, c5, c6, c7, c8, c9, c10, c11, c12, c13, c14, c15, c16, c17, c18, c19, c20, c21, c22, c23, c24, c25, c26, c27, c28⟩
set_option maxHeartbeats 4000000 in
set_option maxRecDepth 100000 in
theorem l_X6_swap {n : Nat} : ∀ (Fx1 : Int32) (Fx2 : Int32) (x1 : Int) (x2 : Int) (Fv_a : Nat → Int32) (Fv_kept : Nat → Int32) (Fv_keptMany : Int32) (Fv_thrown : Int32) (Fv_tried : Nat → Int32) (Fv_stands : Nat → Int32) (b_this : BX6) (r : Int × BX6), LI Fx1 x1 → LI Fx2 x2 → LA Fv_a (pX6_a b_this) → LA Fv_kept (pX6_kept b_this) → LI Fv_keptMany (pX6_keptMany b_this) → LI Fv_thrown (pX6_thrown b_this) → LA Fv_tried (pX6_tried b_this) → LA Fv_stands (pX6_stands b_this) → g_X6_swap n b_this x1 x2 = some r → ∃ R, f_X6_swap n Fv_a Fv_kept Fv_keptMany Fv_thrown Fv_tried Fv_stands Fx1 Fx2 = some R ∧ LI (R.1) (r.1) ∧ LA (R.2.1) (pX6_a (r.2)) ∧ LA (R.2.2.1) (pX6_kept (r.2)) ∧ LI (R.2.2.2.1) (pX6_keptMany (r.2)) ∧ LI (R.2.2.2.2.1) (pX6_thrown (r.2)) ∧ LA (R.2.2.2.2.2.1) (pX6_tried (r.2)) ∧ LA (R.2.2.2.2.2.2) (pX6_stands (r.2)) ∧ (pX6_fresh (r.2)) = (pX6_fresh b_this) ∧ (pX6_buffer (r.2)) = (pX6_buffer b_this) ∧ (pX6_buffered (r.2)) = (pX6_buffered b_this) ∧ (pX6_size (r.2)) = (pX6_size b_this) ∧ (pX6_at (r.2)) = (pX6_at b_this) ∧ (pX6_behind (r.2)) = (pX6_behind b_this) ∧ (pX6_kind (r.2)) = (pX6_kind b_this) ∧ (pX6_wrong (r.2)) = (pX6_wrong b_this) ∧ (pX6_wrongAt (r.2)) = (pX6_wrongAt b_this) ∧ (pX6_errorAt (r.2)) = (pX6_errorAt b_this) ∧ (pX6_number (r.2)) = (pX6_number b_this) ∧ (pX6_best (r.2)) = (pX6_best b_this) ∧ (pX6_rentBy (r.2)) = (pX6_rentBy b_this) ∧ (pX6_bareBy (r.2)) = (pX6_bareBy b_this) ∧ (pX6_aheadBy (r.2)) = (pX6_aheadBy b_this) ∧ (pX6_isEdge (r.2)) = (pX6_isEdge b_this) ∧ (pX6_found (r.2)) = (pX6_found b_this) ∧ (pX6_foundOn (r.2)) = (pX6_foundOn b_this) ∧ (pX6_moving (r.2)) = (pX6_moving b_this) ∧ (pX6_movingMany (r.2)) = (pX6_movingMany b_this) ∧ (pX6_foundIncome (r.2)) = (pX6_foundIncome b_this) ∧ (pX6_foundMoves (r.2)) = (pX6_foundMoves b_this) := by
  intro Fx1 Fx2 x1 x2 Fv_a Fv_kept Fv_keptMany Fv_thrown Fv_tried Fv_stands b_this r h_x1 h_x2 h_v_a h_v_kept h_v_keptMany h_v_thrown h_v_tried h_v_stands hg
  unfold g_X6_swap at hg
  unfold f_X6_swap
  refine lB_1_1 (fun r hr => l_X6_isTrader  _ _ _ _ r h_x1 h_v_a hr) hg (fun Fr_13 r_13 hq hg => ?_)
  obtain ⟨q_39⟩ := hq
  refine lI (LI_eq q_39 (LI_n (x := 0) rfl)) hg (fun hc hg => ?_) (fun hc hg => ?_)
  · obtain ⟨R, hR, c0, c1, c2, c3, c4, c5, c6, c7, c8, c9, c10, c11, c12, c13, c14, c15, c16, c17, c18, c19, c20, c21, c22, c23, c24, c25, c26, c27, c28⟩ := l_X6_swap_17 _ _ _ _ _ _ _ _ _ _ _ _ h_x1 h_x2 h_v_a h_v_kept h_v_keptMany h_v_thrown h_v_tried h_v_stands hg
    exact ⟨R, hR, c0, c1, c2, c3, c4, c5, c6, c7, c8, c9, c10, c11, c12, c13, c14, c15, c16, c17, c18, c19, c20, c21, c22, c23, c24, c25, c26, c27, c28⟩
  · refine lB_1_1 (fun r hr => l_X6_isTrader  _ _ _ _ r h_x2 h_v_a hr) hg (fun Fr_15 r_15 hq hg => ?_)
    obtain ⟨q_40⟩ := hq
    refine lI (LI_eq q_40 (LI_n (x := 0) rfl)) hg (fun hc hg => ?_) (fun hc hg => ?_)
    · obtain ⟨R, hR, c0, c1, c2, c3, c4, c5, c6, c7, c8, c9, c10, c11, c12, c13, c14, c15, c16, c17, c18, c19, c20, c21, c22, c23, c24, c25, c26, c27, c28⟩ := l_X6_swap_17 _ _ _ _ _ _ _ _ _ _ _ _ h_x1 h_x2 h_v_a h_v_kept h_v_keptMany h_v_thrown h_v_tried h_v_stands hg
      exact ⟨R, hR, c0, c1, c2, c3, c4, c5, c6, c7, c8, c9, c10, c11, c12, c13, c14, c15, c16, c17, c18, c19, c20, c21, c22, c23, c24, c25, c26, c27, c28⟩
    · refine lB_3_2 (fun r hr => l_X6_canSwap  _ _ _ _ _ _ _ _ r h_x1 h_x2 h_v_a h_v_tried h_v_stands hr) hg (fun Fr_17 Fv_18 Fv_19 r_17 b_41 hq hg => ?_)
      obtain ⟨q_42, q_43, q_44, q_45, q_46, q_47, q_48, q_49, q_50, q_51, q_52, q_53, q_54, q_55, q_56, q_57, q_58, q_59, q_60, q_61, q_62, q_63, q_64, q_65, q_66, q_67, q_68, q_69, q_70⟩ := hq
      have hl_71 := (LA_cg q_45 h_v_a)
      have hl_72 := (LA_cg q_47 h_v_kept)
      have hl_73 := (LI_cg q_48 h_v_keptMany)
      have hl_74 := (LI_cg q_49 h_v_thrown)
      refine lI (LI_eq q_42 (LI_n (x := 0) rfl)) hg (fun hc hg => ?_) (fun hc hg => ?_)
      · obtain ⟨R, hR, c0, c1, c2, c3, c4, c5, c6, c7, c8, c9, c10, c11, c12, c13, c14, c15, c16, c17, c18, c19, c20, c21, c22, c23, c24, c25, c26, c27, c28⟩ := l_X6_swap_35 _ _ _ _ _ _ _ _ _ _ _ _ _ _ (LI_n (x := 2) rfl) h_x1 h_x2 hl_71 hl_72 hl_73 hl_74 q_43 q_44 hg
        exact ⟨R, hR, c0, c1, c2, c3, c4, c5, c6, (c7).trans q_46, (c8).trans q_50, (c9).trans q_51, (c10).trans q_52, (c11).trans q_53, (c12).trans q_54, (c13).trans q_55, (c14).trans q_56, (c15).trans q_57, (c16).trans q_58, (c17).trans q_59, (c18).trans q_60, (c19).trans q_61, (c20).trans q_62, (c21).trans q_63, (c22).trans q_64, (c23).trans q_65, (c24).trans q_66, (c25).trans q_67, (c26).trans q_68, (c27).trans q_69, (c28).trans q_70⟩
      · obtain ⟨R, hR, c0, c1, c2, c3, c4, c5, c6, c7, c8, c9, c10, c11, c12, c13, c14, c15, c16, c17, c18, c19, c20, c21, c22, c23, c24, c25, c26, c27, c28⟩ := l_X6_swap_35 _ _ _ _ _ _ _ _ _ _ _ _ _ _ (LI_n (x := 0) rfl) h_x1 h_x2 hl_71 hl_72 hl_73 hl_74 q_43 q_44 hg
        exact ⟨R, hR, c0, c1, c2, c3, c4, c5, c6, (c7).trans q_46, (c8).trans q_50, (c9).trans q_51, (c10).trans q_52, (c11).trans q_53, (c12).trans q_54, (c13).trans q_55, (c14).trans q_56, (c15).trans q_57, (c16).trans q_58, (c17).trans q_59, (c18).trans q_60, (c19).trans q_61, (c20).trans q_62, (c21).trans q_63, (c22).trans q_64, (c23).trans q_65, (c24).trans q_66, (c25).trans q_67, (c26).trans q_68, (c27).trans q_69, (c28).trans q_70⟩
set_option maxHeartbeats 4000000 in
set_option maxRecDepth 100000 in
theorem l_X6_thrown : ∀ (Fv_thrown : Int32) (b_this : BX6) (r : Int), LI Fv_thrown (pX6_thrown b_this) → g_X6_thrown b_this = some r → ∃ R, f_X6_thrown Fv_thrown = some R ∧ LI R r := by
  intro Fv_thrown b_this r h_v_thrown hg
  unfold g_X6_thrown at hg
  unfold f_X6_thrown
  cases hg
  exact ⟨_, rfl, h_v_thrown⟩
set_option maxHeartbeats 4000000 in
set_option maxRecDepth 100000 in
theorem l_X6_trade : ∀ (Fx1 : Int32) (x1 : Int) (Fv_a : Nat → Int32) (Fv_thrown : Int32) (b_this : BX6) (r : Int × BX6), LI Fx1 x1 → LA Fv_a (pX6_a b_this) → LI Fv_thrown (pX6_thrown b_this) → g_X6_trade b_this x1 = some r → ∃ R, f_X6_trade Fv_a Fv_thrown Fx1 = some R ∧ LI (R.1) (r.1) ∧ LI (R.2) (pX6_thrown (r.2)) ∧ (pX6_a (r.2)) = (pX6_a b_this) ∧ (pX6_fresh (r.2)) = (pX6_fresh b_this) ∧ (pX6_kept (r.2)) = (pX6_kept b_this) ∧ (pX6_keptMany (r.2)) = (pX6_keptMany b_this) ∧ (pX6_buffer (r.2)) = (pX6_buffer b_this) ∧ (pX6_buffered (r.2)) = (pX6_buffered b_this) ∧ (pX6_size (r.2)) = (pX6_size b_this) ∧ (pX6_at (r.2)) = (pX6_at b_this) ∧ (pX6_behind (r.2)) = (pX6_behind b_this) ∧ (pX6_kind (r.2)) = (pX6_kind b_this) ∧ (pX6_wrong (r.2)) = (pX6_wrong b_this) ∧ (pX6_wrongAt (r.2)) = (pX6_wrongAt b_this) ∧ (pX6_errorAt (r.2)) = (pX6_errorAt b_this) ∧ (pX6_number (r.2)) = (pX6_number b_this) ∧ (pX6_best (r.2)) = (pX6_best b_this) ∧ (pX6_rentBy (r.2)) = (pX6_rentBy b_this) ∧ (pX6_bareBy (r.2)) = (pX6_bareBy b_this) ∧ (pX6_aheadBy (r.2)) = (pX6_aheadBy b_this) ∧ (pX6_isEdge (r.2)) = (pX6_isEdge b_this) ∧ (pX6_tried (r.2)) = (pX6_tried b_this) ∧ (pX6_stands (r.2)) = (pX6_stands b_this) ∧ (pX6_found (r.2)) = (pX6_found b_this) ∧ (pX6_foundOn (r.2)) = (pX6_foundOn b_this) ∧ (pX6_moving (r.2)) = (pX6_moving b_this) ∧ (pX6_movingMany (r.2)) = (pX6_movingMany b_this) ∧ (pX6_foundIncome (r.2)) = (pX6_foundIncome b_this) ∧ (pX6_foundMoves (r.2)) = (pX6_foundMoves b_this) := by
  intro Fx1 x1 Fv_a Fv_thrown b_this r h_x1 h_v_a h_v_thrown hg
  unfold g_X6_trade at hg
  unfold f_X6_trade
  refine lB_2_2 (fun r hr => l_X6_traderValue  _ _ _ _ _ _ _ r (LI_n (x := 75) rfl) h_x1 h_v_a h_v_thrown hr) hg (fun Fr_1 Fv_2 r_1 b_1 hq hg => ?_)
  obtain ⟨q_2, q_3, q_4, q_5, q_6, q_7, q_8, q_9, q_10, q_11, q_12, q_13, q_14, q_15, q_16, q_17, q_18, q_19, q_20, q_21, q_22, q_23, q_24, q_25, q_26, q_27, q_28, q_29, q_30⟩ := hq
  have hl_31 := (LA_cg q_4 h_v_a)
  cases hg
  exact ⟨_, rfl, q_2, q_3, q_4, q_5, q_6, q_7, q_8, q_9, q_10, q_11, q_12, q_13, q_14, q_15, q_16, q_17, q_18, q_19, q_20, q_21, q_22, q_23, q_24, q_25, q_26, q_27, q_28, q_29, q_30⟩
set_option maxHeartbeats 4000000 in
set_option maxRecDepth 100000 in
theorem l_X6_traderAt_14 {n : Nat} : ∀ (Ft1 : Int32) (Fx1 : Int32) (t1 : Int) (x1 : Int) (Fv_a : Nat → Int32) (Fv_thrown : Int32) (b_this : BX6) (r : Int × BX6), LI Ft1 t1 → LI Fx1 x1 → LA Fv_a (pX6_a b_this) → LI Fv_thrown (pX6_thrown b_this) → g_X6_traderAt_14 n t1 x1 b_this = some r → ∃ R, f_X6_traderAt_14 n Ft1 Fx1 Fv_a Fv_thrown = some R ∧ LI (R.1) (r.1) ∧ LI (R.2) (pX6_thrown (r.2)) ∧ (pX6_a (r.2)) = (pX6_a b_this) ∧ (pX6_fresh (r.2)) = (pX6_fresh b_this) ∧ (pX6_kept (r.2)) = (pX6_kept b_this) ∧ (pX6_keptMany (r.2)) = (pX6_keptMany b_this) ∧ (pX6_buffer (r.2)) = (pX6_buffer b_this) ∧ (pX6_buffered (r.2)) = (pX6_buffered b_this) ∧ (pX6_size (r.2)) = (pX6_size b_this) ∧ (pX6_at (r.2)) = (pX6_at b_this) ∧ (pX6_behind (r.2)) = (pX6_behind b_this) ∧ (pX6_kind (r.2)) = (pX6_kind b_this) ∧ (pX6_wrong (r.2)) = (pX6_wrong b_this) ∧ (pX6_wrongAt (r.2)) = (pX6_wrongAt b_this) ∧ (pX6_errorAt (r.2)) = (pX6_errorAt b_this) ∧ (pX6_number (r.2)) = (pX6_number b_this) ∧ (pX6_best (r.2)) = (pX6_best b_this) ∧ (pX6_rentBy (r.2)) = (pX6_rentBy b_this) ∧ (pX6_bareBy (r.2)) = (pX6_bareBy b_this) ∧ (pX6_aheadBy (r.2)) = (pX6_aheadBy b_this) ∧ (pX6_isEdge (r.2)) = (pX6_isEdge b_this) ∧ (pX6_tried (r.2)) = (pX6_tried b_this) ∧ (pX6_stands (r.2)) = (pX6_stands b_this) ∧ (pX6_found (r.2)) = (pX6_found b_this) ∧ (pX6_foundOn (r.2)) = (pX6_foundOn b_this) ∧ (pX6_moving (r.2)) = (pX6_moving b_this) ∧ (pX6_movingMany (r.2)) = (pX6_movingMany b_this) ∧ (pX6_foundIncome (r.2)) = (pX6_foundIncome b_this) ∧ (pX6_foundMoves (r.2)) = (pX6_foundMoves b_this) := by
  intro Ft1 Fx1 t1 x1 Fv_a Fv_thrown b_this r h_t1 h_x1 h_v_a h_v_thrown hg
  unfold g_X6_traderAt_14 at hg
  unfold f_X6_traderAt_14
  refine lI (LI_le h_t1 (LI_n (x := 0) rfl)) hg (fun hc hg => ?_) (fun hc hg => ?_)
  · refine lB_1_1 (fun r hr => l_X6_on  _ _ _ _ r h_x1 h_v_a hr) hg (fun Fr_1 r_1 hq hg => ?_)
    obtain ⟨q_1⟩ := hq
    cases hg
    exact ⟨_, rfl, q_1, h_t1, rfl, rfl, rfl, rfl, rfl, rfl, rfl, rfl, rfl, rfl, rfl, rfl, rfl, rfl, rfl, rfl, rfl, rfl, rfl, rfl, rfl, rfl, rfl, rfl, rfl, rfl, rfl⟩
  · cases hg
    exact ⟨_, rfl, (LI_n (x := 0) rfl), h_t1, rfl, rfl, rfl, rfl, rfl, rfl, rfl, rfl, rfl, rfl, rfl, rfl, rfl, rfl, rfl, rfl, rfl, rfl, rfl, rfl, rfl, rfl, rfl, rfl, rfl, rfl, rfl⟩
set_option maxHeartbeats 4000000 in
set_option maxRecDepth 100000 in
theorem l_X6_traderAt {n : Nat} : ∀ (Fx1 : Int32) (x1 : Int) (Fv_a : Nat → Int32) (Fv_thrown : Int32) (b_this : BX6) (r : Int × BX6), LI Fx1 x1 → LA Fv_a (pX6_a b_this) → LI Fv_thrown (pX6_thrown b_this) → g_X6_traderAt n b_this x1 = some r → ∃ R, f_X6_traderAt n Fv_a Fv_thrown Fx1 = some R ∧ LI (R.1) (r.1) ∧ LI (R.2) (pX6_thrown (r.2)) ∧ (pX6_a (r.2)) = (pX6_a b_this) ∧ (pX6_fresh (r.2)) = (pX6_fresh b_this) ∧ (pX6_kept (r.2)) = (pX6_kept b_this) ∧ (pX6_keptMany (r.2)) = (pX6_keptMany b_this) ∧ (pX6_buffer (r.2)) = (pX6_buffer b_this) ∧ (pX6_buffered (r.2)) = (pX6_buffered b_this) ∧ (pX6_size (r.2)) = (pX6_size b_this) ∧ (pX6_at (r.2)) = (pX6_at b_this) ∧ (pX6_behind (r.2)) = (pX6_behind b_this) ∧ (pX6_kind (r.2)) = (pX6_kind b_this) ∧ (pX6_wrong (r.2)) = (pX6_wrong b_this) ∧ (pX6_wrongAt (r.2)) = (pX6_wrongAt b_this) ∧ (pX6_errorAt (r.2)) = (pX6_errorAt b_this) ∧ (pX6_number (r.2)) = (pX6_number b_this) ∧ (pX6_best (r.2)) = (pX6_best b_this) ∧ (pX6_rentBy (r.2)) = (pX6_rentBy b_this) ∧ (pX6_bareBy (r.2)) = (pX6_bareBy b_this) ∧ (pX6_aheadBy (r.2)) = (pX6_aheadBy b_this) ∧ (pX6_isEdge (r.2)) = (pX6_isEdge b_this) ∧ (pX6_tried (r.2)) = (pX6_tried b_this) ∧ (pX6_stands (r.2)) = (pX6_stands b_this) ∧ (pX6_found (r.2)) = (pX6_found b_this) ∧ (pX6_foundOn (r.2)) = (pX6_foundOn b_this) ∧ (pX6_moving (r.2)) = (pX6_moving b_this) ∧ (pX6_movingMany (r.2)) = (pX6_movingMany b_this) ∧ (pX6_foundIncome (r.2)) = (pX6_foundIncome b_this) ∧ (pX6_foundMoves (r.2)) = (pX6_foundMoves b_this) := by
  intro Fx1 x1 Fv_a Fv_thrown b_this r h_x1 h_v_a h_v_thrown hg
  unfold g_X6_traderAt at hg
  unfold f_X6_traderAt
  refine lB_1_1 (fun r hr => l_X6_isPitch  _ _ _ _ r h_x1 h_v_a hr) hg (fun Fr_3 r_3 hq hg => ?_)
  obtain ⟨q_2⟩ := hq
  refine lI (LI_eq q_2 (LI_n (x := 0) rfl)) hg (fun hc hg => ?_) (fun hc hg => ?_)
  · obtain ⟨R, hR, c0, c1, c2, c3, c4, c5, c6, c7, c8, c9, c10, c11, c12, c13, c14, c15, c16, c17, c18, c19, c20, c21, c22, c23, c24, c25, c26, c27, c28⟩ := l_X6_traderAt_14 _ _ _ _ _ _ _ _ (LI_n (x := 1) rfl) h_x1 h_v_a h_v_thrown hg
    exact ⟨R, hR, c0, c1, c2, c3, c4, c5, c6, c7, c8, c9, c10, c11, c12, c13, c14, c15, c16, c17, c18, c19, c20, c21, c22, c23, c24, c25, c26, c27, c28⟩
  · obtain ⟨R, hR, c0, c1, c2, c3, c4, c5, c6, c7, c8, c9, c10, c11, c12, c13, c14, c15, c16, c17, c18, c19, c20, c21, c22, c23, c24, c25, c26, c27, c28⟩ := l_X6_traderAt_14 _ _ _ _ _ _ _ _ (LI_n (x := 0) rfl) h_x1 h_v_a h_v_thrown hg
    exact ⟨R, hR, c0, c1, c2, c3, c4, c5, c6, c7, c8, c9, c10, c11, c12, c13, c14, c15, c16, c17, c18, c19, c20, c21, c22, c23, c24, c25, c26, c27, c28⟩
set_option maxHeartbeats 4000000 in
set_option maxRecDepth 100000 in
theorem l_X6_traderCount : ∀ (Fv_a : Nat → Int32) (Fv_thrown : Int32) (b_this : BX6) (r : Int × BX6), LA Fv_a (pX6_a b_this) → LI Fv_thrown (pX6_thrown b_this) → g_X6_traderCount b_this = some r → ∃ R, f_X6_traderCount Fv_a Fv_thrown = some R ∧ LI (R.1) (r.1) ∧ LI (R.2) (pX6_thrown (r.2)) ∧ (pX6_a (r.2)) = (pX6_a b_this) ∧ (pX6_fresh (r.2)) = (pX6_fresh b_this) ∧ (pX6_kept (r.2)) = (pX6_kept b_this) ∧ (pX6_keptMany (r.2)) = (pX6_keptMany b_this) ∧ (pX6_buffer (r.2)) = (pX6_buffer b_this) ∧ (pX6_buffered (r.2)) = (pX6_buffered b_this) ∧ (pX6_size (r.2)) = (pX6_size b_this) ∧ (pX6_at (r.2)) = (pX6_at b_this) ∧ (pX6_behind (r.2)) = (pX6_behind b_this) ∧ (pX6_kind (r.2)) = (pX6_kind b_this) ∧ (pX6_wrong (r.2)) = (pX6_wrong b_this) ∧ (pX6_wrongAt (r.2)) = (pX6_wrongAt b_this) ∧ (pX6_errorAt (r.2)) = (pX6_errorAt b_this) ∧ (pX6_number (r.2)) = (pX6_number b_this) ∧ (pX6_best (r.2)) = (pX6_best b_this) ∧ (pX6_rentBy (r.2)) = (pX6_rentBy b_this) ∧ (pX6_bareBy (r.2)) = (pX6_bareBy b_this) ∧ (pX6_aheadBy (r.2)) = (pX6_aheadBy b_this) ∧ (pX6_isEdge (r.2)) = (pX6_isEdge b_this) ∧ (pX6_tried (r.2)) = (pX6_tried b_this) ∧ (pX6_stands (r.2)) = (pX6_stands b_this) ∧ (pX6_found (r.2)) = (pX6_found b_this) ∧ (pX6_foundOn (r.2)) = (pX6_foundOn b_this) ∧ (pX6_moving (r.2)) = (pX6_moving b_this) ∧ (pX6_movingMany (r.2)) = (pX6_movingMany b_this) ∧ (pX6_foundIncome (r.2)) = (pX6_foundIncome b_this) ∧ (pX6_foundMoves (r.2)) = (pX6_foundMoves b_this) := by
  intro Fv_a Fv_thrown b_this r h_v_a h_v_thrown hg
  unfold g_X6_traderCount at hg
  unfold f_X6_traderCount
  refine lA (EI_i (LI_n (x := 74) rfl)) rfl hg (fun ha_1 hg => ?_)
  cases hg
  exact ⟨_, rfl, (LA_at h_v_a (EI_i (LI_n (x := 74) rfl)) ha_1), (LI_n (x := 0) rfl), rfl, rfl, rfl, rfl, rfl, rfl, rfl, rfl, rfl, rfl, rfl, rfl, rfl, rfl, rfl, rfl, rfl, rfl, rfl, rfl, rfl, rfl, rfl, rfl, rfl, rfl, rfl⟩
set_option maxHeartbeats 4000000 in
set_option maxRecDepth 100000 in
theorem l_X6_undo_37 {n : Nat} : ∀ (fu : Nat), ∀ (Fx1 : Int32) (x1 : Int) (Fv_a : Nat → Int32) (Fv_kept : Nat → Int32) (Fv_keptMany : Int32) (Fv_thrown : Int32) (b_this : BX6) (r : Int × BX6), LI Fx1 x1 → LA Fv_a (pX6_a b_this) → LA Fv_kept (pX6_kept b_this) → LI Fv_keptMany (pX6_keptMany b_this) → LI Fv_thrown (pX6_thrown b_this) → g_X6_undo_37 n fu x1 b_this = some r → ∃ R, f_X6_undo_37 n fu Fx1 Fv_a Fv_kept Fv_keptMany Fv_thrown = some R ∧ LI (R.1) (r.1) ∧ LA (R.2.1) (pX6_a (r.2)) ∧ LI (R.2.2.1) (pX6_keptMany (r.2)) ∧ LI (R.2.2.2) (pX6_thrown (r.2)) ∧ (pX6_fresh (r.2)) = (pX6_fresh b_this) ∧ (pX6_kept (r.2)) = (pX6_kept b_this) ∧ (pX6_buffer (r.2)) = (pX6_buffer b_this) ∧ (pX6_buffered (r.2)) = (pX6_buffered b_this) ∧ (pX6_size (r.2)) = (pX6_size b_this) ∧ (pX6_at (r.2)) = (pX6_at b_this) ∧ (pX6_behind (r.2)) = (pX6_behind b_this) ∧ (pX6_kind (r.2)) = (pX6_kind b_this) ∧ (pX6_wrong (r.2)) = (pX6_wrong b_this) ∧ (pX6_wrongAt (r.2)) = (pX6_wrongAt b_this) ∧ (pX6_errorAt (r.2)) = (pX6_errorAt b_this) ∧ (pX6_number (r.2)) = (pX6_number b_this) ∧ (pX6_best (r.2)) = (pX6_best b_this) ∧ (pX6_rentBy (r.2)) = (pX6_rentBy b_this) ∧ (pX6_bareBy (r.2)) = (pX6_bareBy b_this) ∧ (pX6_aheadBy (r.2)) = (pX6_aheadBy b_this) ∧ (pX6_isEdge (r.2)) = (pX6_isEdge b_this) ∧ (pX6_tried (r.2)) = (pX6_tried b_this) ∧ (pX6_stands (r.2)) = (pX6_stands b_this) ∧ (pX6_found (r.2)) = (pX6_found b_this) ∧ (pX6_foundOn (r.2)) = (pX6_foundOn b_this) ∧ (pX6_moving (r.2)) = (pX6_moving b_this) ∧ (pX6_movingMany (r.2)) = (pX6_movingMany b_this) ∧ (pX6_foundIncome (r.2)) = (pX6_foundIncome b_this) ∧ (pX6_foundMoves (r.2)) = (pX6_foundMoves b_this) := by
  intro fu
  induction fu with
  | zero => intro Fx1 x1 Fv_a Fv_kept Fv_keptMany Fv_thrown b_this r h_x1 h_v_a h_v_kept h_v_keptMany h_v_thrown hg; rw [g_X6_undo_37.eq_1] at hg; cases hg
  | succ fu ih =>
    intro Fx1 x1 Fv_a Fv_kept Fv_keptMany Fv_thrown b_this r h_x1 h_v_a h_v_kept h_v_keptMany h_v_thrown hg
    rw [g_X6_undo_37.eq_2] at hg
    rw [f_X6_undo_37.eq_2]
    refine lI (LI_le (LI_n (x := 180) rfl) h_x1) hg (fun hc hg => ?_) (fun hc hg => ?_)
    · cases hg
      exact ⟨_, rfl, h_v_keptMany, h_v_a, h_v_keptMany, h_v_thrown, rfl, rfl, rfl, rfl, rfl, rfl, rfl, rfl, rfl, rfl, rfl, rfl, rfl, rfl, rfl, rfl, rfl, rfl, rfl, rfl, rfl, rfl, rfl, rfl, rfl⟩
    · refine lA (EI_add (EI_mul (EI_i (LI_n (x := 180) rfl)) (EI_i h_v_keptMany)) (EI_i h_x1)) rfl hg (fun ha_1 hg => ?_)
      refine lA (EI_i h_x1) rfl hg (fun ha_2 hg => ?_)
      refine lL (LA_upd h_v_a (EI_i h_x1) ha_2 (LA_at h_v_kept (EI_add (EI_mul (EI_i (LI_n (x := 180) rfl)) (EI_i h_v_keptMany)) (EI_i h_x1)) ha_1)) hg (fun Fv_3 v_3 h_v_3 hg => ?_)
      refine lR hg (fun hr_3 hg => ?_)
      obtain ⟨R, hR, c0, c1, c2, c3, c4, c5, c6, c7, c8, c9, c10, c11, c12, c13, c14, c15, c16, c17, c18, c19, c20, c21, c22, c23, c24, c25, c26, c27, c28⟩ := ih _ _ _ _ _ _ _ _ (LI_of (EI_add (EI_i h_x1) (EI_i (LI_n (x := 1) rfl))) hr_3) h_v_3 h_v_kept h_v_keptMany h_v_thrown hg
      exact ⟨R, hR, c0, c1, c2, c3, c4, c5, c6, c7, c8, c9, c10, c11, c12, c13, c14, c15, c16, c17, c18, c19, c20, c21, c22, c23, c24, c25, c26, c27, c28⟩
set_option maxHeartbeats 4000000 in
set_option maxRecDepth 100000 in
theorem l_X6_undo_13 {n : Nat} : ∀ (Ft1 : Int32) (t1 : Int) (Fv_a : Nat → Int32) (Fv_kept : Nat → Int32) (Fv_keptMany : Int32) (Fv_thrown : Int32) (b_this : BX6) (r : Int × BX6), LI Ft1 t1 → LA Fv_a (pX6_a b_this) → LA Fv_kept (pX6_kept b_this) → LI Fv_keptMany (pX6_keptMany b_this) → LI Fv_thrown (pX6_thrown b_this) → g_X6_undo_13 n t1 b_this = some r → ∃ R, f_X6_undo_13 n Ft1 Fv_a Fv_kept Fv_keptMany Fv_thrown = some R ∧ LI (R.1) (r.1) ∧ LA (R.2.1) (pX6_a (r.2)) ∧ LI (R.2.2.1) (pX6_keptMany (r.2)) ∧ LI (R.2.2.2) (pX6_thrown (r.2)) ∧ (pX6_fresh (r.2)) = (pX6_fresh b_this) ∧ (pX6_kept (r.2)) = (pX6_kept b_this) ∧ (pX6_buffer (r.2)) = (pX6_buffer b_this) ∧ (pX6_buffered (r.2)) = (pX6_buffered b_this) ∧ (pX6_size (r.2)) = (pX6_size b_this) ∧ (pX6_at (r.2)) = (pX6_at b_this) ∧ (pX6_behind (r.2)) = (pX6_behind b_this) ∧ (pX6_kind (r.2)) = (pX6_kind b_this) ∧ (pX6_wrong (r.2)) = (pX6_wrong b_this) ∧ (pX6_wrongAt (r.2)) = (pX6_wrongAt b_this) ∧ (pX6_errorAt (r.2)) = (pX6_errorAt b_this) ∧ (pX6_number (r.2)) = (pX6_number b_this) ∧ (pX6_best (r.2)) = (pX6_best b_this) ∧ (pX6_rentBy (r.2)) = (pX6_rentBy b_this) ∧ (pX6_bareBy (r.2)) = (pX6_bareBy b_this) ∧ (pX6_aheadBy (r.2)) = (pX6_aheadBy b_this) ∧ (pX6_isEdge (r.2)) = (pX6_isEdge b_this) ∧ (pX6_tried (r.2)) = (pX6_tried b_this) ∧ (pX6_stands (r.2)) = (pX6_stands b_this) ∧ (pX6_found (r.2)) = (pX6_found b_this) ∧ (pX6_foundOn (r.2)) = (pX6_foundOn b_this) ∧ (pX6_moving (r.2)) = (pX6_moving b_this) ∧ (pX6_movingMany (r.2)) = (pX6_movingMany b_this) ∧ (pX6_foundIncome (r.2)) = (pX6_foundIncome b_this) ∧ (pX6_foundMoves (r.2)) = (pX6_foundMoves b_this) := by
  intro Ft1 t1 Fv_a Fv_kept Fv_keptMany Fv_thrown b_this r h_t1 h_v_a h_v_kept h_v_keptMany h_v_thrown hg
  unfold g_X6_undo_13 at hg
  unfold f_X6_undo_13
  refine lI (LI_le h_t1 (LI_n (x := 0) rfl)) hg (fun hc hg => ?_) (fun hc hg => ?_)
  · refine lR hg (fun hr_4 hg => ?_)
    refine lL (LI_of (EI_sub (EI_i h_v_keptMany) (EI_i (LI_n (x := 1) rfl))) hr_4) hg (fun Fy_4 y_4 h_y_4 hg => ?_)
    obtain ⟨R, hR, c0, c1, c2, c3, c4, c5, c6, c7, c8, c9, c10, c11, c12, c13, c14, c15, c16, c17, c18, c19, c20, c21, c22, c23, c24, c25, c26, c27, c28⟩ := l_X6_undo_37 n _ _ _ _ _ _ _ _ (LI_n (x := 0) rfl) h_v_a h_v_kept h_y_4 h_t1 hg
    exact ⟨R, hR, c0, c1, c2, c3, c4, c5, c6, c7, c8, c9, c10, c11, c12, c13, c14, c15, c16, c17, c18, c19, c20, c21, c22, c23, c24, c25, c26, c27, c28⟩
  · cases hg
    exact ⟨_, rfl, (LI_n (x := 0) rfl), h_v_a, h_v_keptMany, h_t1, rfl, rfl, rfl, rfl, rfl, rfl, rfl, rfl, rfl, rfl, rfl, rfl, rfl, rfl, rfl, rfl, rfl, rfl, rfl, rfl, rfl, rfl, rfl, rfl, rfl⟩
set_option maxHeartbeats 4000000 in
set_option maxRecDepth 100000 in
theorem l_X6_undo {n : Nat} : ∀ (Fv_a : Nat → Int32) (Fv_kept : Nat → Int32) (Fv_keptMany : Int32) (Fv_thrown : Int32) (b_this : BX6) (r : Int × BX6), LA Fv_a (pX6_a b_this) → LA Fv_kept (pX6_kept b_this) → LI Fv_keptMany (pX6_keptMany b_this) → LI Fv_thrown (pX6_thrown b_this) → g_X6_undo n b_this = some r → ∃ R, f_X6_undo n Fv_a Fv_kept Fv_keptMany Fv_thrown = some R ∧ LI (R.1) (r.1) ∧ LA (R.2.1) (pX6_a (r.2)) ∧ LI (R.2.2.1) (pX6_keptMany (r.2)) ∧ LI (R.2.2.2) (pX6_thrown (r.2)) ∧ (pX6_fresh (r.2)) = (pX6_fresh b_this) ∧ (pX6_kept (r.2)) = (pX6_kept b_this) ∧ (pX6_buffer (r.2)) = (pX6_buffer b_this) ∧ (pX6_buffered (r.2)) = (pX6_buffered b_this) ∧ (pX6_size (r.2)) = (pX6_size b_this) ∧ (pX6_at (r.2)) = (pX6_at b_this) ∧ (pX6_behind (r.2)) = (pX6_behind b_this) ∧ (pX6_kind (r.2)) = (pX6_kind b_this) ∧ (pX6_wrong (r.2)) = (pX6_wrong b_this) ∧ (pX6_wrongAt (r.2)) = (pX6_wrongAt b_this) ∧ (pX6_errorAt (r.2)) = (pX6_errorAt b_this) ∧ (pX6_number (r.2)) = (pX6_number b_this) ∧ (pX6_best (r.2)) = (pX6_best b_this) ∧ (pX6_rentBy (r.2)) = (pX6_rentBy b_this) ∧ (pX6_bareBy (r.2)) = (pX6_bareBy b_this) ∧ (pX6_aheadBy (r.2)) = (pX6_aheadBy b_this) ∧ (pX6_isEdge (r.2)) = (pX6_isEdge b_this) ∧ (pX6_tried (r.2)) = (pX6_tried b_this) ∧ (pX6_stands (r.2)) = (pX6_stands b_this) ∧ (pX6_found (r.2)) = (pX6_found b_this) ∧ (pX6_foundOn (r.2)) = (pX6_foundOn b_this) ∧ (pX6_moving (r.2)) = (pX6_moving b_this) ∧ (pX6_movingMany (r.2)) = (pX6_movingMany b_this) ∧ (pX6_foundIncome (r.2)) = (pX6_foundIncome b_this) ∧ (pX6_foundMoves (r.2)) = (pX6_foundMoves b_this) := by
  intro Fv_a Fv_kept Fv_keptMany Fv_thrown b_this r h_v_a h_v_kept h_v_keptMany h_v_thrown hg
  unfold g_X6_undo at hg
  unfold f_X6_undo
  refine lI (LI_eq h_v_keptMany (LI_n (x := 0) rfl)) hg (fun hc hg => ?_) (fun hc hg => ?_)
  · obtain ⟨R, hR, c0, c1, c2, c3, c4, c5, c6, c7, c8, c9, c10, c11, c12, c13, c14, c15, c16, c17, c18, c19, c20, c21, c22, c23, c24, c25, c26, c27, c28⟩ := l_X6_undo_13 _ _ _ _ _ _ _ _ (LI_n (x := 1) rfl) h_v_a h_v_kept h_v_keptMany h_v_thrown hg
    exact ⟨R, hR, c0, c1, c2, c3, c4, c5, c6, c7, c8, c9, c10, c11, c12, c13, c14, c15, c16, c17, c18, c19, c20, c21, c22, c23, c24, c25, c26, c27, c28⟩
  · obtain ⟨R, hR, c0, c1, c2, c3, c4, c5, c6, c7, c8, c9, c10, c11, c12, c13, c14, c15, c16, c17, c18, c19, c20, c21, c22, c23, c24, c25, c26, c27, c28⟩ := l_X6_undo_13 _ _ _ _ _ _ _ _ (LI_n (x := 0) rfl) h_v_a h_v_kept h_v_keptMany h_v_thrown hg
    exact ⟨R, hR, c0, c1, c2, c3, c4, c5, c6, c7, c8, c9, c10, c11, c12, c13, c14, c15, c16, c17, c18, c19, c20, c21, c22, c23, c24, c25, c26, c27, c28⟩
