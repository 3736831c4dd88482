set_option maxHeartbeats 4000000 in
set_option maxRecDepth 100000 in
theorem l_X6_isClear_2 {n : Nat} : ∀ (fu : Nat), ∀ (Fx1 : Int32) (Fx2 : Int32) (Fx3 : Int32) (x1 : Int) (x2 : Int) (x3 : Int) (Fv_a : Nat → Int32) (Fv_stands : Nat → Int32) (b_this : BX6) (r : Int), LI Fx1 x1 → LI Fx2 x2 → LI Fx3 x3 → LA Fv_a (pX6_a b_this) → LA Fv_stands (pX6_stands b_this) → g_X6_isClear_2 n fu x1 x2 x3 b_this = some r → ∃ R, f_X6_isClear_2 n fu Fx1 Fx2 Fx3 Fv_a Fv_stands = some R ∧ LI R r := by
  intro fu
  induction fu with
  | zero => intro Fx1 Fx2 Fx3 x1 x2 x3 Fv_a Fv_stands b_this r h_x1 h_x2 h_x3 h_v_a h_v_stands hg; rw [g_X6_isClear_2.eq_1] at hg; cases hg
  | succ fu ih =>
    intro Fx1 Fx2 Fx3 x1 x2 x3 Fv_a Fv_stands b_this r h_x1 h_x2 h_x3 h_v_a h_v_stands hg
    rw [g_X6_isClear_2.eq_2] at hg
    rw [f_X6_isClear_2.eq_2]
    refine lA (EI_add (EI_i (LI_n (x := 83) rfl)) (EI_i h_x1)) rfl hg (fun ha_1 hg => ?_)
    refine lI (LI_le (LA_at h_v_a (EI_add (EI_i (LI_n (x := 83) rfl)) (EI_i h_x1)) ha_1) h_x3) hg (fun hc hg => ?_) (fun hc hg => ?_)
    · cases hg
      exact ⟨_, rfl, (LI_n (x := 1) rfl)⟩
    · refine lA (EI_add (EI_i h_x2) (EI_i h_x3)) rfl hg (fun ha_2 hg => ?_)
      refine lI (LI_eq (LA_at h_v_stands (EI_add (EI_i h_x2) (EI_i h_x3)) ha_2) (LI_n (x := -1) rfl)) hg (fun hc hg => ?_) (fun hc hg => ?_)
      · refine lR hg (fun hr_3 hg => ?_)
        obtain ⟨R, hR, c0⟩ := ih _ _ _ _ _ _ _ _ _ _ h_x1 h_x2 (LI_of (EI_add (EI_i h_x3) (EI_i (LI_n (x := 1) rfl))) hr_3) h_v_a h_v_stands hg
        exact ⟨R, hR, c0⟩
      · cases hg
        exact ⟨_, rfl, (LI_n (x := 0) rfl)⟩
set_option maxHeartbeats 4000000 in
set_option maxRecDepth 100000 in
theorem l_X6_isClear {n : Nat} : ∀ (Fx1 : Int32) (Fx2 : Int32) (x1 : Int) (x2 : Int) (Fv_a : Nat → Int32) (Fv_stands : Nat → Int32) (b_this : BX6) (r : Int), LI Fx1 x1 → LI Fx2 x2 → LA Fv_a (pX6_a b_this) → LA Fv_stands (pX6_stands b_this) → g_X6_isClear n b_this x1 x2 = some r → ∃ R, f_X6_isClear n Fv_a Fv_stands Fx1 Fx2 = some R ∧ LI R r := by
  intro Fx1 Fx2 x1 x2 Fv_a Fv_stands b_this r h_x1 h_x2 h_v_a h_v_stands hg
  unfold g_X6_isClear at hg
  unfold f_X6_isClear
  obtain ⟨R, hR, c0⟩ := l_X6_isClear_2 n _ _ _ _ _ _ _ _ _ _ h_x1 h_x2 (LI_n (x := 0) rfl) h_v_a h_v_stands hg
  exact ⟨R, hR, c0⟩
set_option maxHeartbeats 4000000 in
set_option maxRecDepth 100000 in
theorem l_X6_fits {n : Nat} : ∀ (Fx1 : Int32) (Fx2 : Int32) (x1 : Int) (x2 : Int) (Fv_a : Nat → Int32) (Fv_stands : Nat → Int32) (b_this : BX6) (r : Int), LI Fx1 x1 → LI Fx2 x2 → LA Fv_a (pX6_a b_this) → LA Fv_stands (pX6_stands b_this) → g_X6_fits n b_this x1 x2 = some r → ∃ R, f_X6_fits n Fv_a Fv_stands Fx1 Fx2 = some R ∧ LI R r := by
  intro Fx1 Fx2 x1 x2 Fv_a Fv_stands b_this r h_x1 h_x2 h_v_a h_v_stands hg
  unfold g_X6_fits at hg
  unfold f_X6_fits
  refine lB_1_1 (fun r hr => l_X6_isRoom  _ _ _ _ _ _ r h_x1 h_x2 h_v_a hr) hg (fun Fr_1 r_1 hq hg => ?_)
  obtain ⟨q_1⟩ := hq
  refine lI (LI_eq q_1 (LI_n (x := 0) rfl)) hg (fun hc hg => ?_) (fun hc hg => ?_)
  · cases hg
    exact ⟨_, rfl, (LI_n (x := 0) rfl)⟩
  · refine lB_1_1 (fun r hr => l_X6_rentOf  _ _ _ _ _ _ r h_x1 h_x2 h_v_a hr) hg (fun Fr_3 r_3 hq hg => ?_)
    obtain ⟨q_2⟩ := hq
    refine lA (EI_add (EI_i (LI_n (x := 91) rfl)) (EI_i h_x1)) rfl hg (fun ha_3 hg => ?_)
    refine lI (LI_lt (LA_at h_v_a (EI_add (EI_i (LI_n (x := 91) rfl)) (EI_i h_x1)) ha_3) q_2) hg (fun hc hg => ?_) (fun hc hg => ?_)
    · cases hg
      exact ⟨_, rfl, (LI_n (x := 0) rfl)⟩
    · refine lB_1_1 (fun r hr => l_X6_isClear  _ _ _ _ _ _ _ r h_x1 h_x2 h_v_a h_v_stands hr) hg (fun Fr_6 r_6 hq hg => ?_)
      obtain ⟨q_4⟩ := hq
      refine lI (LI_eq q_4 (LI_n (x := 0) rfl)) hg (fun hc hg => ?_) (fun hc hg => ?_)
      · cases hg
        exact ⟨_, rfl, (LI_n (x := 0) rfl)⟩
      · cases hg
        exact ⟨_, rfl, (LI_n (x := 1) rfl)⟩
set_option maxHeartbeats 4000000 in
set_option maxRecDepth 100000 in
theorem l_X6_lays_3 {n : Nat} : ∀ (fu : Nat), ∀ (Fx1 : Int32) (Fx2 : Int32) (Fx3 : Int32) (Fx4 : Int32) (x1 : Int) (x2 : Int) (x3 : Int) (x4 : Int) (Fv_a : Nat → Int32) (Fv_stands : Nat → Int32) (b_this : BX6) (r : BX6), LI Fx1 x1 → LI Fx2 x2 → LI Fx3 x3 → LI Fx4 x4 → LA Fv_a (pX6_a b_this) → LA Fv_stands (pX6_stands b_this) → g_X6_lays_3 n fu x1 x2 x3 x4 b_this = some r → ∃ R, f_X6_lays_3 n fu Fx1 Fx2 Fx3 Fx4 Fv_a Fv_stands = some R ∧ LA R (pX6_stands r) ∧ (pX6_a r) = (pX6_a b_this) ∧ (pX6_fresh r) = (pX6_fresh b_this) ∧ (pX6_kept r) = (pX6_kept b_this) ∧ (pX6_keptMany r) = (pX6_keptMany b_this) ∧ (pX6_thrown r) = (pX6_thrown b_this) ∧ (pX6_buffer r) = (pX6_buffer b_this) ∧ (pX6_buffered r) = (pX6_buffered b_this) ∧ (pX6_size r) = (pX6_size b_this) ∧ (pX6_at r) = (pX6_at b_this) ∧ (pX6_behind r) = (pX6_behind b_this) ∧ (pX6_kind r) = (pX6_kind b_this) ∧ (pX6_wrong r) = (pX6_wrong b_this) ∧ (pX6_wrongAt r) = (pX6_wrongAt b_this) ∧ (pX6_errorAt r) = (pX6_errorAt b_this) ∧ (pX6_number r) = (pX6_number b_this) ∧ (pX6_best r) = (pX6_best b_this) ∧ (pX6_rentBy r) = (pX6_rentBy b_this) ∧ (pX6_bareBy r) = (pX6_bareBy b_this) ∧ (pX6_aheadBy r) = (pX6_aheadBy b_this) ∧ (pX6_isEdge r) = (pX6_isEdge b_this) ∧ (pX6_tried r) = (pX6_tried b_this) ∧ (pX6_found r) = (pX6_found b_this) ∧ (pX6_foundOn r) = (pX6_foundOn b_this) ∧ (pX6_moving r) = (pX6_moving b_this) ∧ (pX6_movingMany r) = (pX6_movingMany b_this) ∧ (pX6_foundIncome r) = (pX6_foundIncome b_this) ∧ (pX6_foundMoves r) = (pX6_foundMoves b_this) := by
  intro fu
  induction fu with
  | zero => intro Fx1 Fx2 Fx3 Fx4 x1 x2 x3 x4 Fv_a Fv_stands b_this r h_x1 h_x2 h_x3 h_x4 h_v_a h_v_stands hg; rw [g_X6_lays_3.eq_1] at hg; cases hg
  | succ fu ih =>
    intro Fx1 Fx2 Fx3 Fx4 x1 x2 x3 x4 Fv_a Fv_stands b_this r h_x1 h_x2 h_x3 h_x4 h_v_a h_v_stands hg
    rw [g_X6_lays_3.eq_2] at hg
    rw [f_X6_lays_3.eq_2]
    refine lA (EI_add (EI_i (LI_n (x := 83) rfl)) (EI_i h_x1)) rfl hg (fun ha_1 hg => ?_)
    refine lI (LI_le (LA_at h_v_a (EI_add (EI_i (LI_n (x := 83) rfl)) (EI_i h_x1)) ha_1) h_x4) hg (fun hc hg => ?_) (fun hc hg => ?_)
    · cases hg
      exact ⟨_, rfl, h_v_stands, rfl, rfl, rfl, rfl, rfl, rfl, rfl, rfl, rfl, rfl, rfl, rfl, rfl, rfl, rfl, rfl, rfl, rfl, rfl, rfl, rfl, rfl, rfl, rfl, rfl, rfl, rfl⟩
    · refine lA (EI_add (EI_i h_x2) (EI_i h_x4)) rfl hg (fun ha_2 hg => ?_)
      refine lL (LA_upd h_v_stands (EI_add (EI_i h_x2) (EI_i h_x4)) ha_2 h_x3) hg (fun Fv_3 v_3 h_v_3 hg => ?_)
      refine lR hg (fun hr_3 hg => ?_)
      obtain ⟨R, hR, c0, c1, c2, c3, c4, c5, c6, c7, c8, c9, c10, c11, c12, c13, c14, c15, c16, c17, c18, c19, c20, c21, c22, c23, c24, c25, c26, c27⟩ := ih _ _ _ _ _ _ _ _ _ _ _ _ h_x1 h_x2 h_x3 (LI_of (EI_add (EI_i h_x4) (EI_i (LI_n (x := 1) rfl))) hr_3) h_v_a h_v_3 hg
      exact ⟨R, hR, c0, c1, c2, c3, c4, c5, c6, c7, c8, c9, c10, c11, c12, c13, c14, c15, c16, c17, c18, c19, c20, c21, c22, c23, c24, c25, c26, c27⟩
set_option maxHeartbeats 4000000 in
set_option maxRecDepth 100000 in
theorem l_X6_lays {n : Nat} : ∀ (Fx1 : Int32) (Fx2 : Int32) (Fx3 : Int32) (x1 : Int) (x2 : Int) (x3 : Int) (Fv_a : Nat → Int32) (Fv_stands : Nat → Int32) (b_this : BX6) (r : BX6), LI Fx1 x1 → LI Fx2 x2 → LI Fx3 x3 → LA Fv_a (pX6_a b_this) → LA Fv_stands (pX6_stands b_this) → g_X6_lays n b_this x1 x2 x3 = some r → ∃ R, f_X6_lays n Fv_a Fv_stands Fx1 Fx2 Fx3 = some R ∧ LA R (pX6_stands r) ∧ (pX6_a r) = (pX6_a b_this) ∧ (pX6_fresh r) = (pX6_fresh b_this) ∧ (pX6_kept r) = (pX6_kept b_this) ∧ (pX6_keptMany r) = (pX6_keptMany b_this) ∧ (pX6_thrown r) = (pX6_thrown b_this) ∧ (pX6_buffer r) = (pX6_buffer b_this) ∧ (pX6_buffered r) = (pX6_buffered b_this) ∧ (pX6_size r) = (pX6_size b_this) ∧ (pX6_at r) = (pX6_at b_this) ∧ (pX6_behind r) = (pX6_behind b_this) ∧ (pX6_kind r) = (pX6_kind b_this) ∧ (pX6_wrong r) = (pX6_wrong b_this) ∧ (pX6_wrongAt r) = (pX6_wrongAt b_this) ∧ (pX6_errorAt r) = (pX6_errorAt b_this) ∧ (pX6_number r) = (pX6_number b_this) ∧ (pX6_best r) = (pX6_best b_this) ∧ (pX6_rentBy r) = (pX6_rentBy b_this) ∧ (pX6_bareBy r) = (pX6_bareBy b_this) ∧ (pX6_aheadBy r) = (pX6_aheadBy b_this) ∧ (pX6_isEdge r) = (pX6_isEdge b_this) ∧ (pX6_tried r) = (pX6_tried b_this) ∧ (pX6_found r) = (pX6_found b_this) ∧ (pX6_foundOn r) = (pX6_foundOn b_this) ∧ (pX6_moving r) = (pX6_moving b_this) ∧ (pX6_movingMany r) = (pX6_movingMany b_this) ∧ (pX6_foundIncome r) = (pX6_foundIncome b_this) ∧ (pX6_foundMoves r) = (pX6_foundMoves b_this) := by
  intro Fx1 Fx2 Fx3 x1 x2 x3 Fv_a Fv_stands b_this r h_x1 h_x2 h_x3 h_v_a h_v_stands hg
  unfold g_X6_lays at hg
  unfold f_X6_lays
  obtain ⟨R, hR, c0, c1, c2, c3, c4, c5, c6, c7, c8, c9, c10, c11, c12, c13, c14, c15, c16, c17, c18, c19, c20, c21, c22, c23, c24, c25, c26, c27⟩ := l_X6_lays_3 n _ _ _ _ _ _ _ _ _ _ _ _ h_x1 h_x2 h_x3 (LI_n (x := 0) rfl) h_v_a h_v_stands hg
  exact ⟨R, hR, c0, c1, c2, c3, c4, c5, c6, c7, c8, c9, c10, c11, c12, c13, c14, c15, c16, c17, c18, c19, c20, c21, c22, c23, c24, c25, c26, c27⟩
set_option maxHeartbeats 4000000 in
set_option maxRecDepth 100000 in
theorem l_X6_isSound_146 {n : Nat} {K65 : Int32 → (Nat → Int32) → (Nat → Int32) → Option (Int32)} {k65 : Int → BX6 → Option (Int)} (hk65 : ∀ (Fx2 : Int32) (x2 : Int) (Fv_a : Nat → Int32) (Fv_stands : Nat → Int32) (b_this : BX6) (r : Int), LI Fx2 x2 → LA Fv_a (pX6_a b_this) → LA Fv_stands (pX6_stands b_this) → k65 x2 b_this = some r → ∃ R, K65 Fx2 Fv_a Fv_stands = some R ∧ LI R r) : ∀ (Fx2 : Int32) (x2 : Int) (Fv_a : Nat → Int32) (Fv_stands : Nat → Int32) (b_this : BX6) (r : Int), LI Fx2 x2 → LA Fv_a (pX6_a b_this) → LA Fv_stands (pX6_stands b_this) → g_X6_isSound_146 n k65 x2 b_this = some r → ∃ R, f_X6_isSound_146 n K65 Fx2 Fv_a Fv_stands = some R ∧ LI R r := by
  intro Fx2 x2 Fv_a Fv_stands b_this r h_x2 h_v_a h_v_stands hg
  unfold g_X6_isSound_146 at hg
  unfold f_X6_isSound_146
  refine lR hg (fun hr_1 hg => ?_)
  obtain ⟨R, hR, c0⟩ := hk65 _ _ _ _ _ _ (LI_of (EI_add (EI_i h_x2) (EI_i (LI_n (x := 1) rfl))) hr_1) h_v_a h_v_stands hg
  exact ⟨R, hR, c0⟩
set_option maxHeartbeats 4000000 in
set_option maxRecDepth 100000 in
theorem l_X6_isSound_65 {n : Nat} : ∀ (fu : Nat), ∀ (Fx2 : Int32) (x2 : Int) (Fv_a : Nat → Int32) (Fv_stands : Nat → Int32) (b_this : BX6) (r : Int), LI Fx2 x2 → LA Fv_a (pX6_a b_this) → LA Fv_stands (pX6_stands b_this) → g_X6_isSound_65 n fu x2 b_this = some r → ∃ R, f_X6_isSound_65 n fu Fx2 Fv_a Fv_stands = some R ∧ LI R r := by
  intro fu
  induction fu with
  | zero => intro Fx2 x2 Fv_a Fv_stands b_this r h_x2 h_v_a h_v_stands hg; rw [g_X6_isSound_65.eq_1] at hg; cases hg
  | succ fu ih =>
    intro Fx2 x2 Fv_a Fv_stands b_this r h_x2 h_v_a h_v_stands hg
    rw [g_X6_isSound_65.eq_2] at hg
    rw [f_X6_isSound_65.eq_2]
    refine lA (EI_i (LI_n (x := 1) rfl)) rfl hg (fun ha_2 hg => ?_)
    refine lR hg (fun hr_3 hg => ?_)
    refine lI (LI_le (LA_at h_v_a (EI_i (LI_n (x := 1) rfl)) ha_2) (LI_of (EI_add (EI_i h_x2) (EI_i (LI_n (x := 1) rfl))) hr_3)) hg (fun hc hg => ?_) (fun hc hg => ?_)
    · cases hg
      exact ⟨_, rfl, (LI_n (x := 1) rfl)⟩
    · refine lA (EI_i h_x2) rfl hg (fun ha_4 hg => ?_)
      refine lL (LA_at h_v_stands (EI_i h_x2) ha_4) hg (fun Fy_3 y_3 h_y_3 hg => ?_)
      refine lA (EI_add (EI_i h_x2) (EI_i (LI_n (x := 1) rfl))) rfl hg (fun ha_5 hg => ?_)
      refine lL (LA_at h_v_stands (EI_add (EI_i h_x2) (EI_i (LI_n (x := 1) rfl))) ha_5) hg (fun Fy_5 y_5 h_y_5 hg => ?_)
      refine lA (EI_add (EI_i (LI_n (x := 50) rfl)) (EI_i h_x2)) rfl hg (fun ha_6 hg => ?_)
      refine lA (EI_add (EI_add (EI_i (LI_n (x := 50) rfl)) (EI_i h_x2)) (EI_i (LI_n (x := 1) rfl))) rfl hg (fun ha_7 hg => ?_)
      refine lI (LI_eq (LA_at h_v_a (EI_add (EI_i (LI_n (x := 50) rfl)) (EI_i h_x2)) ha_6) (LA_at h_v_a (EI_add (EI_add (EI_i (LI_n (x := 50) rfl)) (EI_i h_x2)) (EI_i (LI_n (x := 1) rfl))) ha_7)) hg (fun hc hg => ?_) (fun hc hg => ?_)
      · refine lI (LI_eq h_y_3 (LI_n (x := -1) rfl)) hg (fun hc hg => ?_) (fun hc hg => ?_)
        · obtain ⟨R, hR, c0⟩ := l_X6_isSound_146 ih _ _ _ _ _ _ h_x2 h_v_a h_v_stands hg
          exact ⟨R, hR, c0⟩
        · refine lI (LI_eq h_y_5 (LI_n (x := -1) rfl)) hg (fun hc hg => ?_) (fun hc hg => ?_)
          · obtain ⟨R, hR, c0⟩ := l_X6_isSound_146 ih _ _ _ _ _ _ h_x2 h_v_a h_v_stands hg
            exact ⟨R, hR, c0⟩
          · refine lI (LI_eq h_y_3 h_y_5) hg (fun hc hg => ?_) (fun hc hg => ?_)
            · obtain ⟨R, hR, c0⟩ := l_X6_isSound_146 ih _ _ _ _ _ _ h_x2 h_v_a h_v_stands hg
              exact ⟨R, hR, c0⟩
            · refine lB_1_1 (fun r hr => l_X6_doClash  _ _ _ _ _ _ r h_y_3 h_y_5 h_v_a hr) hg (fun Fr_8 r_8 hq hg => ?_)
              obtain ⟨q_8⟩ := hq
              refine lI (LI_eq q_8 (LI_n (x := 0) rfl)) hg (fun hc hg => ?_) (fun hc hg => ?_)
              · obtain ⟨R, hR, c0⟩ := l_X6_isSound_146 ih _ _ _ _ _ _ h_x2 h_v_a h_v_stands hg
                exact ⟨R, hR, c0⟩
              · cases hg
                exact ⟨_, rfl, (LI_n (x := 0) rfl)⟩
      · obtain ⟨R, hR, c0⟩ := l_X6_isSound_146 ih _ _ _ _ _ _ h_x2 h_v_a h_v_stands hg
        exact ⟨R, hR, c0⟩
set_option maxHeartbeats 4000000 in
set_option maxRecDepth 100000 in
theorem l_X6_isSound_41 {n : Nat} {K4 : Int32 → Int32 → (Nat → Int32) → (Nat → Int32) → (Nat → Int32) → Option (Int32)} {k4 : Int → Int → BX6 → Option (Int)} (hk4 : ∀ (Fx1 : Int32) (Fx2 : Int32) (x1 : Int) (x2 : Int) (Fv_a : Nat → Int32) (Fv_tried : Nat → Int32) (Fv_stands : Nat → Int32) (b_this : BX6) (r : Int), LI Fx1 x1 → LI Fx2 x2 → LA Fv_a (pX6_a b_this) → LA Fv_tried (pX6_tried b_this) → LA Fv_stands (pX6_stands b_this) → k4 x1 x2 b_this = some r → ∃ R, K4 Fx1 Fx2 Fv_a Fv_tried Fv_stands = some R ∧ LI R r) : ∀ (Ft0 : Int32) (Ft1 : Int32) (Fx2 : Int32) (t0 : Int) (t1 : Int) (x2 : Int) (Fv_a : Nat → Int32) (Fv_tried : Nat → Int32) (Fv_stands : Nat → Int32) (b_this : BX6) (r : Int), LI Ft0 t0 → LI Ft1 t1 → LI Fx2 x2 → LA Fv_a (pX6_a b_this) → LA Fv_tried (pX6_tried b_this) → LA Fv_stands (pX6_stands b_this) → g_X6_isSound_41 n k4 t0 t1 x2 b_this = some r → ∃ R, f_X6_isSound_41 n K4 Ft0 Ft1 Fx2 Fv_a Fv_tried Fv_stands = some R ∧ LI R r := by
  intro Ft0 Ft1 Fx2 t0 t1 x2 Fv_a Fv_tried Fv_stands b_this r h_t0 h_t1 h_x2 h_v_a h_v_tried h_v_stands hg
  unfold g_X6_isSound_41 at hg
  unfold f_X6_isSound_41
  refine lR hg (fun hr_9 hg => ?_)
  refine lL (LI_of (EI_add (EI_i h_t0) (EI_i h_t1)) hr_9) hg (fun Fy_10 y_10 h_y_10 hg => ?_)
  refine lR hg (fun hr_10 hg => ?_)
  obtain ⟨R, hR, c0⟩ := hk4 _ _ _ _ _ _ _ _ _ h_y_10 (LI_of (EI_add (EI_i h_x2) (EI_i (LI_n (x := 1) rfl))) hr_10) h_v_a h_v_tried h_v_stands hg
  exact ⟨R, hR, c0⟩
set_option maxHeartbeats 4000000 in
set_option maxRecDepth 100000 in
theorem l_X6_isSound_4 {n : Nat} : ∀ (fu : Nat), ∀ (Fx1 : Int32) (Fx2 : Int32) (x1 : Int) (x2 : Int) (Fv_a : Nat → Int32) (Fv_tried : Nat → Int32) (Fv_stands : Nat → Int32) (b_this : BX6) (r : Int), LI Fx1 x1 → LI Fx2 x2 → LA Fv_a (pX6_a b_this) → LA Fv_tried (pX6_tried b_this) → LA Fv_stands (pX6_stands b_this) → g_X6_isSound_4 n fu x1 x2 b_this = some r → ∃ R, f_X6_isSound_4 n fu Fx1 Fx2 Fv_a Fv_tried Fv_stands = some R ∧ LI R r := by
  intro fu
  induction fu with
  | zero => intro Fx1 Fx2 x1 x2 Fv_a Fv_tried Fv_stands b_this r h_x1 h_x2 h_v_a h_v_tried h_v_stands hg; rw [g_X6_isSound_4.eq_1] at hg; cases hg
  | succ fu ih =>
    intro Fx1 Fx2 x1 x2 Fv_a Fv_tried Fv_stands b_this r h_x1 h_x2 h_v_a h_v_tried h_v_stands hg
    rw [g_X6_isSound_4.eq_2] at hg
    rw [f_X6_isSound_4.eq_2]
    refine lA (EI_i (LI_n (x := 74) rfl)) rfl hg (fun ha_11 hg => ?_)
    refine lI (LI_le (LA_at h_v_a (EI_i (LI_n (x := 74) rfl)) ha_11) h_x2) hg (fun hc hg => ?_) (fun hc hg => ?_)
    · refine lA (EI_i (LI_n (x := 179) rfl)) rfl hg (fun ha_12 hg => ?_)
      refine lI (LI_le h_x1 (LA_at h_v_a (EI_i (LI_n (x := 179) rfl)) ha_12)) hg (fun hc hg => ?_) (fun hc hg => ?_)
      · obtain ⟨R, hR, c0⟩ := l_X6_isSound_65 n _ _ _ _ _ _ (LI_n (x := 0) rfl) h_v_a h_v_stands hg
        exact ⟨R, hR, c0⟩
      · cases hg
        exact ⟨_, rfl, (LI_n (x := 0) rfl)⟩
    · refine lA (EI_i h_x2) rfl hg (fun ha_13 hg => ?_)
      refine lI (LI_eq (LA_at h_v_tried (EI_i h_x2) ha_13) (LI_n (x := -1) rfl)) hg (fun hc hg => ?_) (fun hc hg => ?_)
      · obtain ⟨R, hR, c0⟩ := l_X6_isSound_41 ih _ _ _ _ _ _ _ _ _ _ _ h_x1 (LI_n (x := 0) rfl) h_x2 h_v_a h_v_tried h_v_stands hg
        exact ⟨R, hR, c0⟩
      · refine lA (EI_i h_x2) rfl hg (fun ha_14 hg => ?_)
        refine lB_1_1 (fun r hr => l_X6_bare  _ _ _ _ _ _ r h_x2 (LA_at h_v_tried (EI_i h_x2) ha_14) h_v_a hr) hg (fun Fr_15 r_15 hq hg => ?_)
        obtain ⟨q_15⟩ := hq
        obtain ⟨R, hR, c0⟩ := l_X6_isSound_41 ih _ _ _ _ _ _ _ _ _ _ _ h_x1 q_15 h_x2 h_v_a h_v_tried h_v_stands hg
        exact ⟨R, hR, c0⟩
set_option maxHeartbeats 4000000 in
set_option maxRecDepth 100000 in
theorem l_X6_isSound {n : Nat} : ∀ (Fv_a : Nat → Int32) (Fv_tried : Nat → Int32) (Fv_stands : Nat → Int32) (b_this : BX6) (r : Int), LA Fv_a (pX6_a b_this) → LA Fv_tried (pX6_tried b_this) → LA Fv_stands (pX6_stands b_this) → g_X6_isSound n b_this = some r → ∃ R, f_X6_isSound n Fv_a Fv_tried Fv_stands = some R ∧ LI R r := by
  intro Fv_a Fv_tried Fv_stands b_this r h_v_a h_v_tried h_v_stands hg
  unfold g_X6_isSound at hg
  unfold f_X6_isSound
  obtain ⟨R, hR, c0⟩ := l_X6_isSound_4 n _ _ _ _ _ _ _ _ _ (LI_n (x := 0) rfl) (LI_n (x := 0) rfl) h_v_a h_v_tried h_v_stands hg
  exact ⟨R, hR, c0⟩
set_option maxHeartbeats 4000000 in
set_option maxRecDepth 100000 in
theorem l_X6_canSwap_152 {n : Nat} {K56 : Int32 → Int32 → Int32 → (Nat → Int32) → (Nat → Int32) → (Nat → Int32) → Option (Int32 × (Nat → Int32) × (Nat → Int32))} {k56 : Int → Int → Int → BX6 → Option (Int × BX6)} (hk56 : ∀ (Fx1 : Int32) (Fx2 : Int32) (Fx3 : Int32) (x1 : Int) (x2 : Int) (x3 : Int) (Fv_a : Nat → Int32) (Fv_tried : Nat → Int32) (Fv_stands : Nat → Int32) (b_this : BX6) (r : Int × BX6), LI Fx1 x1 → LI Fx2 x2 → LI Fx3 x3 → LA Fv_a (pX6_a b_this) → LA Fv_tried (pX6_tried b_this) → LA Fv_stands (pX6_stands b_this) → k56 x1 x2 x3 b_this = some r → ∃ R, K56 Fx1 Fx2 Fx3 Fv_a Fv_tried Fv_stands = some R ∧ LI (R.1) (r.1) ∧ LA (R.2.1) (pX6_tried (r.2)) ∧ LA (R.2.2) (pX6_stands (r.2)) ∧ (pX6_a (r.2)) = (pX6_a b_this) ∧ (pX6_fresh (r.2)) = (pX6_fresh b_this) ∧ (pX6_kept (r.2)) = (pX6_kept b_this) ∧ (pX6_keptMany (r.2)) = (pX6_keptMany b_this) ∧ (pX6_thrown (r.2)) = (pX6_thrown b_this) ∧ (pX6_buffer (r.2)) = (pX6_buffer b_this) ∧ (pX6_buffered (r.2)) = (pX6_buffered b_this) ∧ (pX6_size (r.2)) = (pX6_size b_this) ∧ (pX6_at (r.2)) = (pX6_at b_this) ∧ (pX6_behind (r.2)) = (pX6_behind b_this) ∧ (pX6_kind (r.2)) = (pX6_kind b_this) ∧ (pX6_wrong (r.2)) = (pX6_wrong b_this) ∧ (pX6_wrongAt (r.2)) = (pX6_wrongAt b_this) ∧ (pX6_errorAt (r.2)) = (pX6_errorAt b_this) ∧ (pX6_number (r.2)) = (pX6_number b_this) ∧ (pX6_best (r.2)) = (pX6_best b_this) ∧ (pX6_rentBy (r.2)) = (pX6_rentBy b_this) ∧ (pX6_bareBy (r.2)) = (pX6_bareBy b_this) ∧ (pX6_aheadBy (r.2)) = (pX6_aheadBy b_this) ∧ (pX6_isEdge (r.2)) = (pX6_isEdge b_this) ∧ (pX6_found (r.2)) = (pX6_found b_this) ∧ (pX6_foundOn (r.2)) = (pX6_foundOn b_this) ∧ (pX6_moving (r.2)) = (pX6_moving b_this) ∧ (pX6_movingMany (r.2)) = (pX6_movingMany b_this) ∧ (pX6_foundIncome (r.2)) = (pX6_foundIncome b_this) ∧ (pX6_foundMoves (r.2)) = (pX6_foundMoves b_this)) : ∀ (Fx1 : Int32) (Fx2 : Int32) (Fx3 : Int32) (x1 : Int) (x2 : Int) (x3 : Int) (Fv_a : Nat → Int32) (Fv_tried : Nat → Int32) (Fv_stands : Nat → Int32) (b_this : BX6) (r : Int × BX6), LI Fx1 x1 → LI Fx2 x2 → LI Fx3 x3 → LA Fv_a (pX6_a b_this) → LA Fv_tried (pX6_tried b_this) → LA Fv_stands (pX6_stands b_this) → g_X6_canSwap_152 n k56 x1 x2 x3 b_this = some r → ∃ R, f_X6_canSwap_152 n K56 Fx1 Fx2 Fx3 Fv_a Fv_tried Fv_stands = some R ∧ LI (R.1) (r.1) ∧ LA (R.2.1) (pX6_tried (r.2)) ∧ LA (R.2.2) (pX6_stands (r.2)) ∧ (pX6_a (r.2)) = (pX6_a b_this) ∧ (pX6_fresh (r.2)) = (pX6_fresh b_this) ∧ (pX6_kept (r.2)) = (pX6_kept b_this) ∧ (pX6_keptMany (r.2)) = (pX6_keptMany b_this) ∧ (pX6_thrown (r.2)) = (pX6_thrown b_this) ∧ (pX6_buffer (r.2)) = (pX6_buffer b_this) ∧ (pX6_buffered (r.2)) = (pX6_buffered b_this) ∧ (pX6_size (r.2)) = (pX6_size b_this) ∧ (pX6_at (r.2)) = (pX6_at b_this) ∧ (pX6_behind (r.2)) = (pX6_behind b_this) ∧ (pX6_kind (r.2)) = (pX6_kind b_this) ∧ (pX6_wrong (r.2)) = (pX6_wrong b_this) ∧ (pX6_wrongAt (r.2)) = (pX6_wrongAt b_this) ∧ (pX6_errorAt (r.2)) = (pX6_errorAt b_this) ∧ (pX6_number (r.2)) = (pX6_number b_this) ∧ (pX6_best (r.2)) = (pX6_best b_this) ∧ (pX6_rentBy (r.2)) = (pX6_rentBy b_this) ∧ (pX6_bareBy (r.2)) = (pX6_bareBy b_this) ∧ (pX6_aheadBy (r.2)) = (pX6_aheadBy b_this) ∧ (pX6_isEdge (r.2)) = (pX6_isEdge b_this) ∧ (pX6_found (r.2)) = (pX6_found b_this) ∧ (pX6_foundOn (r.2)) = (pX6_foundOn b_this) ∧ (pX6_moving (r.2)) = (pX6_moving b_this) ∧ (pX6_movingMany (r.2)) = (pX6_movingMany b_this) ∧ (pX6_foundIncome (r.2)) = (pX6_foundIncome b_this) ∧ (pX6_foundMoves (r.2)) = (pX6_foundMoves b_this) := by
  intro Fx1 Fx2 Fx3 x1 x2 x3 Fv_a Fv_tried Fv_stands b_this r h_x1 h_x2 h_x3 h_v_a h_v_tried h_v_stands hg
  unfold g_X6_canSwap_152 at hg
  unfold f_X6_canSwap_152
  refine lR hg (fun hr_1 hg => ?_)
  obtain ⟨R, hR, c0, c1, c2, c3, c4, c5, c6, c7, c8, c9, c10, c11, c12, c13, c14, c15, c16, c17, c18, c19, c20, c21, c22, c23, c24, c25, c26, c27, c28⟩ := hk56 _ _ _ _ _ _ _ _ _ _ _ h_x1 h_x2 (LI_of (EI_add (EI_i h_x3) (EI_i (LI_n (x := 1) rfl))) hr_1) h_v_a h_v_tried h_v_stands hg
  exact ⟨R, hR, c0, c1, c2, c3, c4, c5, c6, c7, c8, c9, c10, c11, c12, c13, c14, c15, c16, c17, c18, c19, c20, c21, c22, c23, c24, c25, c26, c27, c28⟩
set_option maxHeartbeats 4000000 in
set_option maxRecDepth 100000 in
theorem l_X6_canSwap_110 {n : Nat} {K56 : Int32 → Int32 → Int32 → (Nat → Int32) → (Nat → Int32) → (Nat → Int32) → Option (Int32 × (Nat → Int32) × (Nat → Int32))} {k56 : Int → Int → Int → BX6 → Option (Int × BX6)} (hk56 : ∀ (Fx1 : Int32) (Fx2 : Int32) (Fx3 : Int32) (x1 : Int) (x2 : Int) (x3 : Int) (Fv_a : Nat → Int32) (Fv_tried : Nat → Int32) (Fv_stands : Nat → Int32) (b_this : BX6) (r : Int × BX6), LI Fx1 x1 → LI Fx2 x2 → LI Fx3 x3 → LA Fv_a (pX6_a b_this) → LA Fv_tried (pX6_tried b_this) → LA Fv_stands (pX6_stands b_this) → k56 x1 x2 x3 b_this = some r → ∃ R, K56 Fx1 Fx2 Fx3 Fv_a Fv_tried Fv_stands = some R ∧ LI (R.1) (r.1) ∧ LA (R.2.1) (pX6_tried (r.2)) ∧ LA (R.2.2) (pX6_stands (r.2)) ∧ (pX6_a (r.2)) = (pX6_a b_this) ∧ (pX6_fresh (r.2)) = (pX6_fresh b_this) ∧ (pX6_kept (r.2)) = (pX6_kept b_this) ∧ (pX6_keptMany (r.2)) = (pX6_keptMany b_this) ∧ (pX6_thrown (r.2)) = (pX6_thrown b_this) ∧ (pX6_buffer (r.2)) = (pX6_buffer b_this) ∧ (pX6_buffered (r.2)) = (pX6_buffered b_this) ∧ (pX6_size (r.2)) = (pX6_size b_this) ∧ (pX6_at (r.2)) = (pX6_at b_this) ∧ (pX6_behind (r.2)) = (pX6_behind b_this) ∧ (pX6_kind (r.2)) = (pX6_kind b_this) ∧ (pX6_wrong (r.2)) = (pX6_wrong b_this) ∧ (pX6_wrongAt (r.2)) = (pX6_wrongAt b_this) ∧ (pX6_errorAt (r.2)) = (pX6_errorAt b_this) ∧ (pX6_number (r.2)) = (pX6_number b_this) ∧ (pX6_best (r.2)) = (pX6_best b_this) ∧ (pX6_rentBy (r.2)) = (pX6_rentBy b_this) ∧ (pX6_bareBy (r.2)) = (pX6_bareBy b_this) ∧ (pX6_aheadBy (r.2)) = (pX6_aheadBy b_this) ∧ (pX6_isEdge (r.2)) = (pX6_isEdge b_this) ∧ (pX6_found (r.2)) = (pX6_found b_this) ∧ (pX6_foundOn (r.2)) = (pX6_foundOn b_this) ∧ (pX6_moving (r.2)) = (pX6_moving b_this) ∧ (pX6_movingMany (r.2)) = (pX6_movingMany b_this) ∧ (pX6_foundIncome (r.2)) = (pX6_foundIncome b_this) ∧ (pX6_foundMoves (r.2)) = (pX6_foundMoves b_this)) : ∀ (Ft1 : Int32) (Ft2 : Int32) (Fx1 : Int32) (Fx2 : Int32) (Fx3 : Int32) (t1 : Int) (t2 : Int) (x1 : Int) (x2 : Int) (x3 : Int) (Fv_a : Nat → Int32) (Fv_tried : Nat → Int32) (Fv_stands : Nat → Int32) (b_this : BX6) (r : Int × BX6), LI Ft1 t1 → LI Ft2 t2 → LI Fx1 x1 → LI Fx2 x2 → LI Fx3 x3 → LA Fv_a (pX6_a b_this) → LA Fv_tried (pX6_tried b_this) → LA Fv_stands (pX6_stands b_this) → g_X6_canSwap_110 n k56 t1 t2 x1 x2 x3 b_this = some r → ∃ R, f_X6_canSwap_110 n K56 Ft1 Ft2 Fx1 Fx2 Fx3 Fv_a Fv_tried Fv_stands = some R ∧ LI (R.1) (r.1) ∧ LA (R.2.1) (pX6_tried (r.2)) ∧ LA (R.2.2) (pX6_stands (r.2)) ∧ (pX6_a (r.2)) = (pX6_a b_this) ∧ (pX6_fresh (r.2)) = (pX6_fresh b_this) ∧ (pX6_kept (r.2)) = (pX6_kept b_this) ∧ (pX6_keptMany (r.2)) = (pX6_keptMany b_this) ∧ (pX6_thrown (r.2)) = (pX6_thrown b_this) ∧ (pX6_buffer (r.2)) = (pX6_buffer b_this) ∧ (pX6_buffered (r.2)) = (pX6_buffered b_this) ∧ (pX6_size (r.2)) = (pX6_size b_this) ∧ (pX6_at (r.2)) = (pX6_at b_this) ∧ (pX6_behind (r.2)) = (pX6_behind b_this) ∧ (pX6_kind (r.2)) = (pX6_kind b_this) ∧ (pX6_wrong (r.2)) = (pX6_wrong b_this) ∧ (pX6_wrongAt (r.2)) = (pX6_wrongAt b_this) ∧ (pX6_errorAt (r.2)) = (pX6_errorAt b_this) ∧ (pX6_number (r.2)) = (pX6_number b_this) ∧ (pX6_best (r.2)) = (pX6_best b_this) ∧ (pX6_rentBy (r.2)) = (pX6_rentBy b_this) ∧ (pX6_bareBy (r.2)) = (pX6_bareBy b_this) ∧ (pX6_aheadBy (r.2)) = (pX6_aheadBy b_this) ∧ (pX6_isEdge (r.2)) = (pX6_isEdge b_this) ∧ (pX6_found (r.2)) = (pX6_found b_this) ∧ (pX6_foundOn (r.2)) = (pX6_foundOn b_this) ∧ (pX6_moving (r.2)) = (pX6_moving b_this) ∧ (pX6_movingMany (r.2)) = (pX6_movingMany b_this) ∧ (pX6_foundIncome (r.2)) = (pX6_foundIncome b_this) ∧ (pX6_foundMoves (r.2)) = (pX6_foundMoves b_this) := by
  intro Ft1 Ft2 Fx1 Fx2 Fx3 t1 t2 x1 x2 x3 Fv_a Fv_tried Fv_stands b_this r h_t1 h_t2 h_x1 h_x2 h_x3 h_v_a h_v_tried h_v_stands hg
  unfold g_X6_canSwap_110 at hg
  unfold f_X6_canSwap_110
  refine lA (EI_i h_t1) rfl hg (fun ha_2 hg => ?_)
  refine lL (LA_upd h_v_tried (EI_i h_t1) ha_2 h_t2) hg (fun Fv_2 v_2 h_v_2 hg => ?_)
  refine lA (EI_i h_x3) rfl hg (fun ha_3 hg => ?_)
  refine lI (LI_eq (LA_at h_v_2 (EI_i h_x3) ha_3) (LI_n (x := -1) rfl)) hg (fun hc hg => ?_) (fun hc hg => ?_)
  · obtain ⟨R, hR, c0, c1, c2, c3, c4, c5, c6, c7, c8, c9, c10, c11, c12, c13, c14, c15, c16, c17, c18, c19, c20, c21, c22, c23, c24, c25, c26, c27, c28⟩ := l_X6_canSwap_152 hk56 _ _ _ _ _ _ _ _ _ _ _ h_x1 h_x2 h_x3 h_v_a h_v_2 h_v_stands hg
    exact ⟨R, hR, c0, c1, c2, c3, c4, c5, c6, c7, c8, c9, c10, c11, c12, c13, c14, c15, c16, c17, c18, c19, c20, c21, c22, c23, c24, c25, c26, c27, c28⟩
  · refine lA (EI_i h_x3) rfl hg (fun ha_4 hg => ?_)
    refine lB_1_1 (fun r hr => l_X6_fits  _ _ _ _ _ _ _ r h_x3 (LA_at h_v_2 (EI_i h_x3) ha_4) h_v_a h_v_stands hr) hg (fun Fr_5 r_5 hq hg => ?_)
    obtain ⟨q_5⟩ := hq
    refine lI (LI_eq q_5 (LI_n (x := 0) rfl)) hg (fun hc hg => ?_) (fun hc hg => ?_)
    · cases hg
      exact ⟨_, rfl, (LI_n (x := 0) rfl), h_v_2, h_v_stands, rfl, rfl, rfl, rfl, rfl, rfl, rfl, rfl, rfl, rfl, rfl, rfl, rfl, rfl, rfl, rfl, rfl, rfl, rfl, rfl, rfl, rfl, rfl, rfl, rfl, rfl⟩
    · refine lA (EI_i h_x3) rfl hg (fun ha_6 hg => ?_)
      refine lB_1_1 (fun r hr => l_X6_lays  _ _ _ _ _ _ _ _ _ r h_x3 (LA_at h_v_2 (EI_i h_x3) ha_6) h_x3 h_v_a h_v_stands hr) hg (fun Fv_8 b_7 hq hg => ?_)
      obtain ⟨q_8, q_9, q_10, q_11, q_12, q_13, q_14, q_15, q_16, q_17, q_18, q_19, q_20, q_21, q_22, q_23, q_24, q_25, q_26, q_27, q_28, q_29, q_30, q_31, q_32, q_33, q_34, q_35⟩ := hq
      have hl_36 := (LA_cg q_9 h_v_a)
      have hl_37 := (LA_cg q_29 h_v_2)
      obtain ⟨R, hR, c0, c1, c2, c3, c4, c5, c6, c7, c8, c9, c10, c11, c12, c13, c14, c15, c16, c17, c18, c19, c20, c21, c22, c23, c24, c25, c26, c27, c28⟩ := l_X6_canSwap_152 hk56 _ _ _ _ _ _ _ _ _ _ _ h_x1 h_x2 h_x3 hl_36 hl_37 q_8 hg
      exact ⟨R, hR, c0, c1, c2, (c3).trans q_9, (c4).trans q_10, (c5).trans q_11, (c6).trans q_12, (c7).trans q_13, (c8).trans q_14, (c9).trans q_15, (c10).trans q_16, (c11).trans q_17, (c12).trans q_18, (c13).trans q_19, (c14).trans q_20, (c15).trans q_21, (c16).trans q_22, (c17).trans q_23, (c18).trans q_24, (c19).trans q_25, (c20).trans q_26, (c21).trans q_27, (c22).trans q_28, (c23).trans q_30, (c24).trans q_31, (c25).trans q_32, (c26).trans q_33, (c27).trans q_34, (c28).trans q_35⟩
set_option maxHeartbeats 4000000 in
set_option maxRecDepth 100000 in
theorem l_X6_canSwap_56 {n : Nat} : ∀ (fu : Nat), ∀ (Fx1 : Int32) (Fx2 : Int32) (Fx3 : Int32) (x1 : Int) (x2 : Int) (x3 : Int) (Fv_a : Nat → Int32) (Fv_tried : Nat → Int32) (Fv_stands : Nat → Int32) (b_this : BX6) (r : Int × BX6), LI Fx1 x1 → LI Fx2 x2 → LI Fx3 x3 → LA Fv_a (pX6_a b_this) → LA Fv_tried (pX6_tried b_this) → LA Fv_stands (pX6_stands b_this) → g_X6_canSwap_56 n fu x1 x2 x3 b_this = some r → ∃ R, f_X6_canSwap_56 n fu Fx1 Fx2 Fx3 Fv_a Fv_tried Fv_stands = some R ∧ LI (R.1) (r.1) ∧ LA (R.2.1) (pX6_tried (r.2)) ∧ LA (R.2.2) (pX6_stands (r.2)) ∧ (pX6_a (r.2)) = (pX6_a b_this) ∧ (pX6_fresh (r.2)) = (pX6_fresh b_this) ∧ (pX6_kept (r.2)) = (pX6_kept b_this) ∧ (pX6_keptMany (r.2)) = (pX6_keptMany b_this) ∧ (pX6_thrown (r.2)) = (pX6_thrown b_this) ∧ (pX6_buffer (r.2)) = (pX6_buffer b_this) ∧ (pX6_buffered (r.2)) = (pX6_buffered b_this) ∧ (pX6_size (r.2)) = (pX6_size b_this) ∧ (pX6_at (r.2)) = (pX6_at b_this) ∧ (pX6_behind (r.2)) = (pX6_behind b_this) ∧ (pX6_kind (r.2)) = (pX6_kind b_this) ∧ (pX6_wrong (r.2)) = (pX6_wrong b_this) ∧ (pX6_wrongAt (r.2)) = (pX6_wrongAt b_this) ∧ (pX6_errorAt (r.2)) = (pX6_errorAt b_this) ∧ (pX6_number (r.2)) = (pX6_number b_this) ∧ (pX6_best (r.2)) = (pX6_best b_this) ∧ (pX6_rentBy (r.2)) = (pX6_rentBy b_this) ∧ (pX6_bareBy (r.2)) = (pX6_bareBy b_this) ∧ (pX6_aheadBy (r.2)) = (pX6_aheadBy b_this) ∧ (pX6_isEdge (r.2)) = (pX6_isEdge b_this) ∧ (pX6_found (r.2)) = (pX6_found b_this) ∧ (pX6_foundOn (r.2)) = (pX6_foundOn b_this) ∧ (pX6_moving (r.2)) = (pX6_moving b_this) ∧ (pX6_movingMany (r.2)) = (pX6_movingMany b_this) ∧ (pX6_foundIncome (r.2)) = (pX6_foundIncome b_this) ∧ (pX6_foundMoves (r.2)) = (pX6_foundMoves b_this) := by
  intro fu
  induction fu with
  | zero => intro Fx1 Fx2 Fx3 x1 x2 x3 Fv_a Fv_tried Fv_stands b_this r h_x1 h_x2 h_x3 h_v_a h_v_tried h_v_stands hg; rw [g_X6_canSwap_56.eq_1] at hg; cases hg
  | succ fu ih =>
    intro Fx1 Fx2 Fx3 x1 x2 x3 Fv_a Fv_tried Fv_stands b_this r h_x1 h_x2 h_x3 h_v_a h_v_tried h_v_stands hg
    rw [g_X6_canSwap_56.eq_2] at hg
    rw [f_X6_canSwap_56.eq_2]
    refine lI (LI_le (LI_n (x := 8) rfl) h_x3) hg (fun hc hg => ?_) (fun hc hg => ?_)
    · refine lB_1_1 (fun r hr => l_X6_isSound  _ _ _ _ r h_v_a h_v_tried h_v_stands hr) hg (fun Fr_10 r_10 hq hg => ?_)
      obtain ⟨q_38⟩ := hq
      refine lG (LI_eq (LI_nar q_38) q_38) hg (fun hn_39 hg => ?_)
      cases hg
      exact ⟨_, rfl, q_38, h_v_tried, h_v_stands, rfl, rfl, rfl, rfl, rfl, rfl, rfl, rfl, rfl, rfl, rfl, rfl, rfl, rfl, rfl, rfl, rfl, rfl, rfl, rfl, rfl, rfl, rfl, rfl, rfl, rfl⟩
    · refine lI (LI_eq h_x3 h_x1) hg (fun hc hg => ?_) (fun hc hg => ?_)
      · refine lA (EI_add (EI_i (LI_n (x := 107) rfl)) (EI_i h_x2)) rfl hg (fun ha_40 hg => ?_)
        obtain ⟨R, hR, c0, c1, c2, c3, c4, c5, c6, c7, c8, c9, c10, c11, c12, c13, c14, c15, c16, c17, c18, c19, c20, c21, c22, c23, c24, c25, c26, c27, c28⟩ := l_X6_canSwap_110 ih _ _ _ _ _ _ _ _ _ _ _ _ _ _ _ h_x3 (LA_at h_v_a (EI_add (EI_i (LI_n (x := 107) rfl)) (EI_i h_x2)) ha_40) h_x1 h_x2 h_x3 h_v_a h_v_tried h_v_stands hg
        exact ⟨R, hR, c0, c1, c2, c3, c4, c5, c6, c7, c8, c9, c10, c11, c12, c13, c14, c15, c16, c17, c18, c19, c20, c21, c22, c23, c24, c25, c26, c27, c28⟩
      · refine lI (LI_eq h_x3 h_x2) hg (fun hc hg => ?_) (fun hc hg => ?_)
        · refine lA (EI_add (EI_i (LI_n (x := 107) rfl)) (EI_i h_x1)) rfl hg (fun ha_41 hg => ?_)
          obtain ⟨R, hR, c0, c1, c2, c3, c4, c5, c6, c7, c8, c9, c10, c11, c12, c13, c14, c15, c16, c17, c18, c19, c20, c21, c22, c23, c24, c25, c26, c27, c28⟩ := l_X6_canSwap_110 ih _ _ _ _ _ _ _ _ _ _ _ _ _ _ _ h_x3 (LA_at h_v_a (EI_add (EI_i (LI_n (x := 107) rfl)) (EI_i h_x1)) ha_41) h_x1 h_x2 h_x3 h_v_a h_v_tried h_v_stands hg
          exact ⟨R, hR, c0, c1, c2, c3, c4, c5, c6, c7, c8, c9, c10, c11, c12, c13, c14, c15, c16, c17, c18, c19, c20, c21, c22, c23, c24, c25, c26, c27, c28⟩
        · refine lA (EI_add (EI_i (LI_n (x := 107) rfl)) (EI_i h_x3)) rfl hg (fun ha_42 hg => ?_)
          obtain ⟨R, hR, c0, c1, c2, c3, c4, c5, c6, c7, c8, c9, c10, c11, c12, c13, c14, c15, c16, c17, c18, c19, c20, c21, c22, c23, c24, c25, c26, c27, c28⟩ := l_X6_canSwap_110 ih _ _ _ _ _ _ _ _ _ _ _ _ _ _ _ h_x3 (LA_at h_v_a (EI_add (EI_i (LI_n (x := 107) rfl)) (EI_i h_x3)) ha_42) h_x1 h_x2 h_x3 h_v_a h_v_tried h_v_stands hg
          exact ⟨R, hR, c0, c1, c2, c3, c4, c5, c6, c7, c8, c9, c10, c11, c12, c13, c14, c15, c16, c17, c18, c19, c20, c21, c22, c23, c24, c25, c26, c27, c28⟩
set_option maxHeartbeats 4000000 in
set_option maxRecDepth 100000 in
theorem l_X6_canSwap_35 {n : Nat} : ∀ (fu : Nat), ∀ (Fx1 : Int32) (Fx2 : Int32) (Fx3 : Int32) (x1 : Int) (x2 : Int) (x3 : Int) (Fv_a : Nat → Int32) (Fv_tried : Nat → Int32) (Fv_stands : Nat → Int32) (b_this : BX6) (r : Int × BX6), LI Fx1 x1 → LI Fx2 x2 → LI Fx3 x3 → LA Fv_a (pX6_a b_this) → LA Fv_tried (pX6_tried b_this) → LA Fv_stands (pX6_stands b_this) → g_X6_canSwap_35 n fu x1 x2 x3 b_this = some r → ∃ R, f_X6_canSwap_35 n fu Fx1 Fx2 Fx3 Fv_a Fv_tried Fv_stands = some R ∧ LI (R.1) (r.1) ∧ LA (R.2.1) (pX6_tried (r.2)) ∧ LA (R.2.2) (pX6_stands (r.2)) ∧ (pX6_a (r.2)) = (pX6_a b_this) ∧ (pX6_fresh (r.2)) = (pX6_fresh b_this) ∧ (pX6_kept (r.2)) = (pX6_kept b_this) ∧ (pX6_keptMany (r.2)) = (pX6_keptMany b_this) ∧ (pX6_thrown (r.2)) = (pX6_thrown b_this) ∧ (pX6_buffer (r.2)) = (pX6_buffer b_this) ∧ (pX6_buffered (r.2)) = (pX6_buffered b_this) ∧ (pX6_size (r.2)) = (pX6_size b_this) ∧ (pX6_at (r.2)) = (pX6_at b_this) ∧ (pX6_behind (r.2)) = (pX6_behind b_this) ∧ (pX6_kind (r.2)) = (pX6_kind b_this) ∧ (pX6_wrong (r.2)) = (pX6_wrong b_this) ∧ (pX6_wrongAt (r.2)) = (pX6_wrongAt b_this) ∧ (pX6_errorAt (r.2)) = (pX6_errorAt b_this) ∧ (pX6_number (r.2)) = (pX6_number b_this) ∧ (pX6_best (r.2)) = (pX6_best b_this) ∧ (pX6_rentBy (r.2)) = (pX6_rentBy b_this) ∧ (pX6_bareBy (r.2)) = (pX6_bareBy b_this) ∧ (pX6_aheadBy (r.2)) = (pX6_aheadBy b_this) ∧ (pX6_isEdge (r.2)) = (pX6_isEdge b_this) ∧ (pX6_found (r.2)) = (pX6_found b_this) ∧ (pX6_foundOn (r.2)) = (pX6_foundOn b_this) ∧ (pX6_moving (r.2)) = (pX6_moving b_this) ∧ (pX6_movingMany (r.2)) = (pX6_movingMany b_this) ∧ (pX6_foundIncome (r.2)) = (pX6_foundIncome b_this) ∧ (pX6_foundMoves (r.2)) = (pX6_foundMoves b_this) := by
  intro fu
  induction fu with
  | zero => intro Fx1 Fx2 Fx3 x1 x2 x3 Fv_a Fv_tried Fv_stands b_this r h_x1 h_x2 h_x3 h_v_a h_v_tried h_v_stands hg; rw [g_X6_canSwap_35.eq_1] at hg; cases hg
  | succ fu ih =>
    intro Fx1 Fx2 Fx3 x1 x2 x3 Fv_a Fv_tried Fv_stands b_this r h_x1 h_x2 h_x3 h_v_a h_v_tried h_v_stands hg
    rw [g_X6_canSwap_35.eq_2] at hg
    rw [f_X6_canSwap_35.eq_2]
    refine lI (LI_le (LI_n (x := 24) rfl) h_x3) hg (fun hc hg => ?_) (fun hc hg => ?_)
    · obtain ⟨R, hR, c0, c1, c2, c3, c4, c5, c6, c7, c8, c9, c10, c11, c12, c13, c14, c15, c16, c17, c18, c19, c20, c21, c22, c23, c24, c25, c26, c27, c28⟩ := l_X6_canSwap_56 n _ _ _ _ _ _ _ _ _ _ _ h_x1 h_x2 (LI_n (x := 0) rfl) h_v_a h_v_tried h_v_stands hg
      exact ⟨R, hR, c0, c1, c2, c3, c4, c5, c6, c7, c8, c9, c10, c11, c12, c13, c14, c15, c16, c17, c18, c19, c20, c21, c22, c23, c24, c25, c26, c27, c28⟩
    · refine lA (EI_i h_x3) rfl hg (fun ha_43 hg => ?_)
      refine lL (LA_upd h_v_stands (EI_i h_x3) ha_43 (LI_n (x := -1) rfl)) hg (fun Fv_17 v_17 h_v_17 hg => ?_)
      refine lR hg (fun hr_44 hg => ?_)
      obtain ⟨R, hR, c0, c1, c2, c3, c4, c5, c6, c7, c8, c9, c10, c11, c12, c13, c14, c15, c16, c17, c18, c19, c20, c21, c22, c23, c24, c25, c26, c27, c28⟩ := ih _ _ _ _ _ _ _ _ _ _ _ h_x1 h_x2 (LI_of (EI_add (EI_i h_x3) (EI_i (LI_n (x := 1) rfl))) hr_44) h_v_a h_v_tried h_v_17 hg
      exact ⟨R, hR, c0, c1, c2, c3, c4, c5, c6, c7, c8, c9, c10, c11, c12, c13, c14, c15, c16, c17, c18, c19, c20, c21, c22, c23, c24, c25, c26, c27, c28⟩
set_option maxHeartbeats 4000000 in
set_option maxRecDepth 100000 in
theorem l_X6_canSwap {n : Nat} : ∀ (Fx1 : Int32) (Fx2 : Int32) (x1 : Int) (x2 : Int) (Fv_a : Nat → Int32) (Fv_tried : Nat → Int32) (Fv_stands : Nat → Int32) (b_this : BX6) (r : Int × BX6), LI Fx1 x1 → LI Fx2 x2 → LA Fv_a (pX6_a b_this) → LA Fv_tried (pX6_tried b_this) → LA Fv_stands (pX6_stands b_this) → g_X6_canSwap n b_this x1 x2 = some r → ∃ R, f_X6_canSwap n Fv_a Fv_tried Fv_stands Fx1 Fx2 = some R ∧ LI (R.1) (r.1) ∧ LA (R.2.1) (pX6_tried (r.2)) ∧ LA (R.2.2) (pX6_stands (r.2)) ∧ (pX6_a (r.2)) = (pX6_a b_this) ∧ (pX6_fresh (r.2)) = (pX6_fresh b_this) ∧ (pX6_kept (r.2)) = (pX6_kept b_this) ∧ (pX6_keptMany (r.2)) = (pX6_keptMany b_this) ∧ (pX6_thrown (r.2)) = (pX6_thrown b_this) ∧ (pX6_buffer (r.2)) = (pX6_buffer b_this) ∧ (pX6_buffered (r.2)) = (pX6_buffered b_this) ∧ (pX6_size (r.2)) = (pX6_size b_this) ∧ (pX6_at (r.2)) = (pX6_at b_this) ∧ (pX6_behind (r.2)) = (pX6_behind b_this) ∧ (pX6_kind (r.2)) = (pX6_kind b_this) ∧ (pX6_wrong (r.2)) = (pX6_wrong b_this) ∧ (pX6_wrongAt (r.2)) = (pX6_wrongAt b_this) ∧ (pX6_errorAt (r.2)) = (pX6_errorAt b_this) ∧ (pX6_number (r.2)) = (pX6_number b_this) ∧ (pX6_best (r.2)) = (pX6_best b_this) ∧ (pX6_rentBy (r.2)) = (pX6_rentBy b_this) ∧ (pX6_bareBy (r.2)) = (pX6_bareBy b_this) ∧ (pX6_aheadBy (r.2)) = (pX6_aheadBy b_this) ∧ (pX6_isEdge (r.2)) = (pX6_isEdge b_this) ∧ (pX6_found (r.2)) = (pX6_found b_this) ∧ (pX6_foundOn (r.2)) = (pX6_foundOn b_this) ∧ (pX6_moving (r.2)) = (pX6_moving b_this) ∧ (pX6_movingMany (r.2)) = (pX6_movingMany b_this) ∧ (pX6_foundIncome (r.2)) = (pX6_foundIncome b_this) ∧ (pX6_foundMoves (r.2)) = (pX6_foundMoves b_this) := by
  intro Fx1 Fx2 x1 x2 Fv_a Fv_tried Fv_stands b_this r h_x1 h_x2 h_v_a h_v_tried h_v_stands hg
  unfold g_X6_canSwap at hg
  unfold f_X6_canSwap
  refine lI (LI_eq h_x1 h_x2) hg (fun hc hg => ?_) (fun hc hg => ?_)
  · cases hg
    exact ⟨_, rfl, (LI_n (x := 0) rfl), h_v_tried, h_v_stands, rfl, rfl, rfl, rfl, rfl, rfl, rfl, rfl, rfl, rfl, rfl, rfl, rfl, rfl, rfl, rfl, rfl, rfl, rfl, rfl, rfl, rfl, rfl, rfl, rfl, rfl⟩
  · refine lA (EI_add (EI_i (LI_n (x := 107) rfl)) (EI_i h_x1)) rfl hg (fun ha_45 hg => ?_)
    refine lI (LI_eq (LA_at h_v_a (EI_add (EI_i (LI_n (x := 107) rfl)) (EI_i h_x1)) ha_45) (LI_n (x := -1) rfl)) hg (fun hc hg => ?_) (fun hc hg => ?_)
    · cases hg
      exact ⟨_, rfl, (LI_n (x := 0) rfl), h_v_tried, h_v_stands, rfl, rfl, rfl, rfl, rfl, rfl, rfl, rfl, rfl, rfl, rfl, rfl, rfl, rfl, rfl, rfl, rfl, rfl, rfl, rfl, rfl, rfl, rfl, rfl, rfl, rfl⟩
    · refine lA (EI_add (EI_i (LI_n (x := 107) rfl)) (EI_i h_x2)) rfl hg (fun ha_46 hg => ?_)
      refine lI (LI_eq (LA_at h_v_a (EI_add (EI_i (LI_n (x := 107) rfl)) (EI_i h_x2)) ha_46) (LI_n (x := -1) rfl)) hg (fun hc hg => ?_) (fun hc hg => ?_)
      · cases hg
        exact ⟨_, rfl, (LI_n (x := 0) rfl), h_v_tried, h_v_stands, rfl, rfl, rfl, rfl, rfl, rfl, rfl, rfl, rfl, rfl, rfl, rfl, rfl, rfl, rfl, rfl, rfl, rfl, rfl, rfl, rfl, rfl, rfl, rfl, rfl, rfl⟩
      · obtain ⟨R, hR, c0, c1, c2, c3, c4, c5, c6, c7, c8, c9, c10, c11, c12, c13, c14, c15, c16, c17, c18, c19, c20, c21, c22, c23, c24, c25, c26, c27, c28⟩ := l_X6_canSwap_35 n _ _ _ _ _ _ _ _ _ _ _ h_x1 h_x2 (LI_n (x := 0) rfl) h_v_a h_v_tried h_v_stands hg
        exact ⟨R, hR, c0, c1, c2, c3, c4, c5, c6, c7, c8, c9, c10, c11, c12, c13, c14, c15, c16, c17, c18, c19, c20, c21, c22, c23, c24, c25, c26, c27, c28⟩
set_option maxHeartbeats 4000000 in
set_option maxRecDepth 100000 in
theorem l_X6_clash_14 : ∀ (Ft1 : Int32) (Fx1 : Int32) (Fx2 : Int32) (t1 : Int) (x1 : Int) (x2 : Int) (Fv_a : Nat → Int32) (Fv_thrown : Int32) (b_this : BX6) (r : Int × BX6), LI Ft1 t1 → LI Fx1 x1 → LI Fx2 x2 → LA Fv_a (pX6_a b_this) → LI Fv_thrown (pX6_thrown b_this) → g_X6_clash_14 t1 x1 x2 b_this = some r → ∃ R, f_X6_clash_14 Ft1 Fx1 Fx2 Fv_a Fv_thrown = some R ∧ LI (R.1) (r.1) ∧ LI (R.2) (pX6_thrown (r.2)) ∧ (pX6_a (r.2)) = (pX6_a b_this) ∧ (pX6_fresh (r.2)) = (pX6_fresh b_this) ∧ (pX6_kept (r.2)) = (pX6_kept b_this) ∧ (pX6_keptMany (r.2)) = (pX6_keptMany b_this) ∧ (pX6_buffer (r.2)) = (pX6_buffer b_this) ∧ (pX6_buffered (r.2)) = (pX6_buffered b_this) ∧ (pX6_size (r.2)) = (pX6_size b_this) ∧ (pX6_at (r.2)) = (pX6_at b_this) ∧ (pX6_behind (r.2)) = (pX6_behind b_this) ∧ (pX6_kind (r.2)) = (pX6_kind b_this) ∧ (pX6_wrong (r.2)) = (pX6_wrong b_this) ∧ (pX6_wrongAt (r.2)) = (pX6_wrongAt b_this) ∧ (pX6_errorAt (r.2)) = (pX6_errorAt b_this) ∧ (pX6_number (r.2)) = (pX6_number b_this) ∧ (pX6_best (r.2)) = (pX6_best b_this) ∧ (pX6_rentBy (r.2)) = (pX6_rentBy b_this) ∧ (pX6_bareBy (r.2)) = (pX6_bareBy b_this) ∧ (pX6_aheadBy (r.2)) = (pX6_aheadBy b_this) ∧ (pX6_isEdge (r.2)) = (pX6_isEdge b_this) ∧ (pX6_tried (r.2)) = (pX6_tried b_this) ∧ (pX6_stands (r.2)) = (pX6_stands b_this) ∧ (pX6_found (r.2)) = (pX6_found b_this) ∧ (pX6_foundOn (r.2)) = (pX6_foundOn b_this) ∧ (pX6_moving (r.2)) = (pX6_moving b_this) ∧ (pX6_movingMany (r.2)) = (pX6_movingMany b_this) ∧ (pX6_foundIncome (r.2)) = (pX6_foundIncome b_this) ∧ (pX6_foundMoves (r.2)) = (pX6_foundMoves b_this) := by
  intro Ft1 Fx1 Fx2 t1 x1 x2 Fv_a Fv_thrown b_this r h_t1 h_x1 h_x2 h_v_a h_v_thrown hg
  unfold g_X6_clash_14 at hg
  unfold f_X6_clash_14
  refine lI (LI_eq h_t1 (LI_n (x := 0) rfl)) hg (fun hc hg => ?_) (fun hc hg => ?_)
  · refine lA (EI_add (EI_add (EI_i (LI_n (x := 115) rfl)) (EI_mul (EI_i (LI_n (x := 8) rfl)) (EI_i h_x1))) (EI_i h_x2)) rfl hg (fun ha_1 hg => ?_)
    refine lI (LI_eq (LA_at h_v_a (EI_add (EI_add (EI_i (LI_n (x := 115) rfl)) (EI_mul (EI_i (LI_n (x := 8) rfl)) (EI_i h_x1))) (EI_i h_x2)) ha_1) (LI_n (x := 1) rfl)) hg (fun hc hg => ?_) (fun hc hg => ?_)
    · cases hg
      exact ⟨_, rfl, (LI_n (x := 1) rfl), h_t1, rfl, rfl, rfl, rfl, rfl, rfl, rfl, rfl, rfl, rfl, rfl, rfl, rfl, rfl, rfl, rfl, rfl, rfl, rfl, rfl, rfl, rfl, rfl, rfl, rfl, rfl, rfl⟩
    · cases hg
      exact ⟨_, rfl, (LI_n (x := 0) rfl), h_t1, rfl, rfl, rfl, rfl, rfl, rfl, rfl, rfl, rfl, rfl, rfl, rfl, rfl, rfl, rfl, rfl, rfl, rfl, rfl, rfl, rfl, rfl, rfl, rfl, rfl, rfl, rfl⟩
  · cases hg
    exact ⟨_, rfl, (LI_n (x := 0) rfl), h_t1, rfl, rfl, rfl, rfl, rfl, rfl, rfl, rfl, rfl, rfl, rfl, rfl, rfl, rfl, rfl, rfl, rfl, rfl, rfl, rfl, rfl, rfl, rfl, rfl, rfl, rfl, rfl⟩
set_option maxHeartbeats 4000000 in
set_option maxRecDepth 100000 in
theorem l_X6_clash : ∀ (Fx1 : Int32) (Fx2 : Int32) (x1 : Int) (x2 : Int) (Fv_a : Nat → Int32) (Fv_thrown : Int32) (b_this : BX6) (r : Int × BX6), LI Fx1 x1 → LI Fx2 x2 → LA Fv_a (pX6_a b_this) → LI Fv_thrown (pX6_thrown b_this) → g_X6_clash b_this x1 x2 = some r → ∃ R, f_X6_clash Fv_a Fv_thrown Fx1 Fx2 = some R ∧ LI (R.1) (r.1) ∧ LI (R.2) (pX6_thrown (r.2)) ∧ (pX6_a (r.2)) = (pX6_a b_this) ∧ (pX6_fresh (r.2)) = (pX6_fresh b_this) ∧ (pX6_kept (r.2)) = (pX6_kept b_this) ∧ (pX6_keptMany (r.2)) = (pX6_keptMany b_this) ∧ (pX6_buffer (r.2)) = (pX6_buffer b_this) ∧ (pX6_buffered (r.2)) = (pX6_buffered b_this) ∧ (pX6_size (r.2)) = (pX6_size b_this) ∧ (pX6_at (r.2)) = (pX6_at b_this) ∧ (pX6_behind (r.2)) = (pX6_behind b_this) ∧ (pX6_kind (r.2)) = (pX6_kind b_this) ∧ (pX6_wrong (r.2)) = (pX6_wrong b_this) ∧ (pX6_wrongAt (r.2)) = (pX6_wrongAt b_this) ∧ (pX6_errorAt (r.2)) = (pX6_errorAt b_this) ∧ (pX6_number (r.2)) = (pX6_number b_this) ∧ (pX6_best (r.2)) = (pX6_best b_this) ∧ (pX6_rentBy (r.2)) = (pX6_rentBy b_this) ∧ (pX6_bareBy (r.2)) = (pX6_bareBy b_this) ∧ (pX6_aheadBy (r.2)) = (pX6_aheadBy b_this) ∧ (pX6_isEdge (r.2)) = (pX6_isEdge b_this) ∧ (pX6_tried (r.2)) = (pX6_tried b_this) ∧ (pX6_stands (r.2)) = (pX6_stands b_this) ∧ (pX6_found (r.2)) = (pX6_found b_this) ∧ (pX6_foundOn (r.2)) = (pX6_foundOn b_this) ∧ (pX6_moving (r.2)) = (pX6_moving b_this) ∧ (pX6_movingMany (r.2)) = (pX6_movingMany b_this) ∧ (pX6_foundIncome (r.2)) = (pX6_foundIncome b_this) ∧ (pX6_foundMoves (r.2)) = (pX6_foundMoves b_this) := by
  intro Fx1 Fx2 x1 x2 Fv_a Fv_thrown b_this r h_x1 h_x2 h_v_a h_v_thrown hg
  unfold g_X6_clash at hg
  unfold f_X6_clash
  refine lB_1_1 (fun r hr => l_X6_areTrades  _ _ _ _ r h_x1 h_x2 hr) hg (fun Fr_2 r_2 hq hg => ?_)
  obtain ⟨q_2⟩ := hq
  refine lI (LI_eq q_2 (LI_n (x := 0) rfl)) hg (fun hc hg => ?_) (fun hc hg => ?_)
  · obtain ⟨R, hR, c0, c1, c2, c3, c4, c5, c6, c7, c8, c9, c10, c11, c12, c13, c14, c15, c16, c17, c18, c19, c20, c21, c22, c23, c24, c25, c26, c27, c28⟩ := l_X6_clash_14 _ _ _ _ _ _ _ _ _ _ (LI_n (x := 1) rfl) h_x1 h_x2 h_v_a h_v_thrown hg
    exact ⟨R, hR, c0, c1, c2, c3, c4, c5, c6, c7, c8, c9, c10, c11, c12, c13, c14, c15, c16, c17, c18, c19, c20, c21, c22, c23, c24, c25, c26, c27, c28⟩
  · obtain ⟨R, hR, c0, c1, c2, c3, c4, c5, c6, c7, c8, c9, c10, c11, c12, c13, c14, c15, c16, c17, c18, c19, c20, c21, c22, c23, c24, c25, c26, c27, c28⟩ := l_X6_clash_14 _ _ _ _ _ _ _ _ _ _ (LI_n (x := 0) rfl) h_x1 h_x2 h_v_a h_v_thrown hg
    exact ⟨R, hR, c0, c1, c2, c3, c4, c5, c6, c7, c8, c9, c10, c11, c12, c13, c14, c15, c16, c17, c18, c19, c20, c21, c22, c23, c24, c25, c26, c27, c28⟩
set_option maxHeartbeats 4000000 in
set_option maxRecDepth 100000 in
theorem l_X6_clashes : ∀ (Fx1 : Int32) (Fx2 : Int32) (Fx3 : Int32) (x1 : Int) (x2 : Int) (x3 : Int) (Fv_o0 : Nat → Int32) (b_o0 : (Int → Int)) (r : (Int → Int)), LI Fx1 x1 → LI Fx2 x2 → LI Fx3 x3 → LA Fv_o0 b_o0 → g_X6_clashes b_o0 x1 x2 x3 = some r → ∃ R, f_X6_clashes Fv_o0 Fx1 Fx2 Fx3 = some R ∧ LA R r := by
  intro Fx1 Fx2 Fx3 x1 x2 x3 Fv_o0 b_o0 r h_x1 h_x2 h_x3 h_v_o0 hg
  unfold g_X6_clashes at hg
  unfold f_X6_clashes
  refine lA (EI_add (EI_add (EI_i (LI_n (x := 115) rfl)) (EI_mul (EI_i (LI_n (x := 8) rfl)) (EI_i h_x1))) (EI_i h_x2)) rfl hg (fun ha_1 hg => ?_)
  refine lL (LA_upd h_v_o0 (EI_add (EI_add (EI_i (LI_n (x := 115) rfl)) (EI_mul (EI_i (LI_n (x := 8) rfl)) (EI_i h_x1))) (EI_i h_x2)) ha_1 h_x3) hg (fun Fv_2 v_2 h_v_2 hg => ?_)
  refine lA (EI_add (EI_add (EI_i (LI_n (x := 115) rfl)) (EI_mul (EI_i (LI_n (x := 8) rfl)) (EI_i h_x2))) (EI_i h_x1)) rfl hg (fun ha_2 hg => ?_)
  refine lL (LA_upd h_v_2 (EI_add (EI_add (EI_i (LI_n (x := 115) rfl)) (EI_mul (EI_i (LI_n (x := 8) rfl)) (EI_i h_x2))) (EI_i h_x1)) ha_2 h_x3) hg (fun Fv_4 v_4 h_v_4 hg => ?_)
  cases hg
  exact ⟨_, rfl, h_v_4⟩
set_option maxHeartbeats 4000000 in
set_option maxRecDepth 100000 in
theorem l_X6_clashCost_14 {n : Nat} : ∀ (Ft1 : Int32) (Fx1 : Int32) (Fx2 : Int32) (t1 : Int) (x1 : Int) (x2 : Int) (Fv_a : Nat → Int32) (Fv_thrown : Int32) (Fv_best : Nat → Int32) (Fv_rentBy : Nat → Int32) (Fv_bareBy : Nat → Int32) (Fv_aheadBy : Nat → Int32) (b_this : BX6) (r : Int × BX6), LI Ft1 t1 → LI Fx1 x1 → LI Fx2 x2 → LA Fv_a (pX6_a b_this) → LI Fv_thrown (pX6_thrown b_this) → LA Fv_best (pX6_best b_this) → LA Fv_rentBy (pX6_rentBy b_this) → LA Fv_bareBy (pX6_bareBy b_this) → LA Fv_aheadBy (pX6_aheadBy b_this) → g_X6_clashCost_14 n t1 x1 x2 b_this = some r → ∃ R, f_X6_clashCost_14 n Ft1 Fx1 Fx2 Fv_a Fv_thrown Fv_best Fv_rentBy Fv_bareBy Fv_aheadBy = some R ∧ LI (R.1) (r.1) ∧ LA (R.2.1) (pX6_a (r.2)) ∧ LI (R.2.2.1) (pX6_thrown (r.2)) ∧ LA (R.2.2.2.1) (pX6_best (r.2)) ∧ LA (R.2.2.2.2.1) (pX6_rentBy (r.2)) ∧ LA (R.2.2.2.2.2.1) (pX6_bareBy (r.2)) ∧ LA (R.2.2.2.2.2.2) (pX6_aheadBy (r.2)) ∧ (pX6_fresh (r.2)) = (pX6_fresh b_this) ∧ (pX6_kept (r.2)) = (pX6_kept b_this) ∧ (pX6_keptMany (r.2)) = (pX6_keptMany b_this) ∧ (pX6_buffer (r.2)) = (pX6_buffer b_this) ∧ (pX6_buffered (r.2)) = (pX6_buffered b_this) ∧ (pX6_size (r.2)) = (pX6_size b_this) ∧ (pX6_at (r.2)) = (pX6_at b_this) ∧ (pX6_behind (r.2)) = (pX6_behind b_this) ∧ (pX6_kind (r.2)) = (pX6_kind b_this) ∧ (pX6_wrong (r.2)) = (pX6_wrong b_this) ∧ (pX6_wrongAt (r.2)) = (pX6_wrongAt b_this) ∧ (pX6_errorAt (r.2)) = (pX6_errorAt b_this) ∧ (pX6_number (r.2)) = (pX6_number b_this) ∧ (pX6_isEdge (r.2)) = (pX6_isEdge b_this) ∧ (pX6_tried (r.2)) = (pX6_tried b_this) ∧ (pX6_stands (r.2)) = (pX6_stands b_this) ∧ (pX6_found (r.2)) = (pX6_found b_this) ∧ (pX6_foundOn (r.2)) = (pX6_foundOn b_this) ∧ (pX6_moving (r.2)) = (pX6_moving b_this) ∧ (pX6_movingMany (r.2)) = (pX6_movingMany b_this) ∧ (pX6_foundIncome (r.2)) = (pX6_foundIncome b_this) ∧ (pX6_foundMoves (r.2)) = (pX6_foundMoves b_this) := by
  intro Ft1 Fx1 Fx2 t1 x1 x2 Fv_a Fv_thrown Fv_best Fv_rentBy Fv_bareBy Fv_aheadBy b_this r h_t1 h_x1 h_x2 h_v_a h_v_thrown h_v_best h_v_rentBy h_v_bareBy h_v_aheadBy hg
  unfold g_X6_clashCost_14 at hg
  unfold f_X6_clashCost_14
  refine lI (LI_lt (LI_n (x := 0) rfl) h_t1) hg (fun hc hg => ?_) (fun hc hg => ?_)
  · cases hg
    exact ⟨_, rfl, (LI_n (x := 0) rfl), h_v_a, h_t1, h_v_best, h_v_rentBy, h_v_bareBy, h_v_aheadBy, rfl, rfl, rfl, rfl, rfl, rfl, rfl, rfl, rfl, rfl, rfl, rfl, rfl, rfl, rfl, rfl, rfl, rfl, rfl, rfl, rfl, rfl⟩
  · refine lA (EI_add (EI_add (EI_i (LI_n (x := 115) rfl)) (EI_mul (EI_i (LI_n (x := 8) rfl)) (EI_i h_x1))) (EI_i h_x2)) rfl hg (fun ha_1 hg => ?_)
    refine lI (LI_eq (LA_at h_v_a (EI_add (EI_add (EI_i (LI_n (x := 115) rfl)) (EI_mul (EI_i (LI_n (x := 8) rfl)) (EI_i h_x1))) (EI_i h_x2)) ha_1) (LI_n (x := 0) rfl)) hg (fun hc hg => ?_) (fun hc hg => ?_)
    · cases hg
      exact ⟨_, rfl, (LI_n (x := 0) rfl), h_v_a, h_t1, h_v_best, h_v_rentBy, h_v_bareBy, h_v_aheadBy, rfl, rfl, rfl, rfl, rfl, rfl, rfl, rfl, rfl, rfl, rfl, rfl, rfl, rfl, rfl, rfl, rfl, rfl, rfl, rfl, rfl, rfl⟩
    · refine lA (EI_i (LI_n (x := 179) rfl)) rfl hg (fun ha_2 hg => ?_)
      refine lB_5_2 (fun r hr => l_X6_plans  _ _ _ _ _ _ _ _ r (LA_at h_v_a (EI_i (LI_n (x := 179) rfl)) ha_2) h_v_a h_v_best h_v_rentBy h_v_bareBy h_v_aheadBy hr) hg (fun Fr_3 Fv_4 Fv_5 Fv_6 Fv_7 r_3 b_3 hq hg => ?_)
      obtain ⟨q_4, q_5, q_6, q_7, q_8, q_9, q_10, q_11, q_12, q_13, q_14, q_15, q_16, q_17, q_18, q_19, q_20, q_21, q_22, q_23, q_24, q_25, q_26, q_27, q_28, q_29, q_30, q_31, q_32⟩ := hq
      have hl_33 := (LA_cg q_9 h_v_a)
      have hl_34 := (LI_cg q_13 h_t1)
      refine lB_1_1 (fun r hr => l_X6_clashes  _ _ _ _ _ _ _ _ r h_x1 h_x2 (LI_n (x := 0) rfl) hl_33 hr) hg (fun Fv_9 b_35 hq hg => ?_)
      obtain ⟨q_36⟩ := hq
      refine lA (EI_i (LI_n (x := 179) rfl)) rfl hg (fun ha_37 hg => ?_)
      refine lB_5_2 (fun r hr => l_X6_plans  _ _ _ _ _ _ _ _ r (LA_at q_36 (EI_i (LI_n (x := 179) rfl)) ha_37) q_36 q_5 q_6 q_7 q_8 hr) hg (fun Fr_12 Fv_13 Fv_14 Fv_15 Fv_16 r_12 b_38 hq hg => ?_)
      obtain ⟨q_39, q_40, q_41, q_42, q_43, q_44, q_45, q_46, q_47, q_48, q_49, q_50, q_51, q_52, q_53, q_54, q_55, q_56, q_57, q_58, q_59, q_60, q_61, q_62, q_63, q_64, q_65, q_66, q_67⟩ := hq
      have hl_68 := (LA_cg q_44 q_36)
      have hl_69 := (LI_cg q_48 hl_34)
      refine lB_1_1 (fun r hr => l_X6_clashes  _ _ _ _ _ _ _ _ r h_x1 h_x2 (LI_n (x := 1) rfl) hl_68 hr) hg (fun Fv_18 b_70 hq hg => ?_)
      obtain ⟨q_71⟩ := hq
      refine lR hg (fun hr_72 hg => ?_)
      cases hg
      exact ⟨_, rfl, (LI_of (EI_sub (EI_i q_39) (EI_i q_4)) hr_72), q_71, hl_69, q_40, q_41, q_42, q_43, (Eq.trans q_45 q_10), (Eq.trans q_46 q_11), (Eq.trans q_47 q_12), (Eq.trans q_49 q_14), (Eq.trans q_50 q_15), (Eq.trans q_51 q_16), (Eq.trans q_52 q_17), (Eq.trans q_53 q_18), (Eq.trans q_54 q_19), (Eq.trans q_55 q_20), (Eq.trans q_56 q_21), (Eq.trans q_57 q_22), (Eq.trans q_58 q_23), (Eq.trans q_59 q_24), (Eq.trans q_60 q_25), (Eq.trans q_61 q_26), (Eq.trans q_62 q_27), (Eq.trans q_63 q_28), (Eq.trans q_64 q_29), (Eq.trans q_65 q_30), (Eq.trans q_66 q_31), (Eq.trans q_67 q_32)⟩
set_option maxHeartbeats 4000000 in
set_option maxRecDepth 100000 in
theorem l_X6_clashCost {n : Nat} : ∀ (Fx1 : Int32) (Fx2 : Int32) (x1 : Int) (x2 : Int) (Fv_a : Nat → Int32) (Fv_thrown : Int32) (Fv_best : Nat → Int32) (Fv_rentBy : Nat → Int32) (Fv_bareBy : Nat → Int32) (Fv_aheadBy : Nat → Int32) (b_this : BX6) (r : Int × BX6), LI Fx1 x1 → LI Fx2 x2 → LA Fv_a (pX6_a b_this) → LI Fv_thrown (pX6_thrown b_this) → LA Fv_best (pX6_best b_this) → LA Fv_rentBy (pX6_rentBy b_this) → LA Fv_bareBy (pX6_bareBy b_this) → LA Fv_aheadBy (pX6_aheadBy b_this) → g_X6_clashCost n b_this x1 x2 = some r → ∃ R, f_X6_clashCost n Fv_a Fv_thrown Fv_best Fv_rentBy Fv_bareBy Fv_aheadBy Fx1 Fx2 = some R ∧ LI (R.1) (r.1) ∧ LA (R.2.1) (pX6_a (r.2)) ∧ LI (R.2.2.1) (pX6_thrown (r.2)) ∧ LA (R.2.2.2.1) (pX6_best (r.2)) ∧ LA (R.2.2.2.2.1) (pX6_rentBy (r.2)) ∧ LA (R.2.2.2.2.2.1) (pX6_bareBy (r.2)) ∧ LA (R.2.2.2.2.2.2) (pX6_aheadBy (r.2)) ∧ (pX6_fresh (r.2)) = (pX6_fresh b_this) ∧ (pX6_kept (r.2)) = (pX6_kept b_this) ∧ (pX6_keptMany (r.2)) = (pX6_keptMany b_this) ∧ (pX6_buffer (r.2)) = (pX6_buffer b_this) ∧ (pX6_buffered (r.2)) = (pX6_buffered b_this) ∧ (pX6_size (r.2)) = (pX6_size b_this) ∧ (pX6_at (r.2)) = (pX6_at b_this) ∧ (pX6_behind (r.2)) = (pX6_behind b_this) ∧ (pX6_kind (r.2)) = (pX6_kind b_this) ∧ (pX6_wrong (r.2)) = (pX6_wrong b_this) ∧ (pX6_wrongAt (r.2)) = (pX6_wrongAt b_this) ∧ (pX6_errorAt (r.2)) = (pX6_errorAt b_this) ∧ (pX6_number (r.2)) = (pX6_number b_this) ∧ (pX6_isEdge (r.2)) = (pX6_isEdge b_this) ∧ (pX6_tried (r.2)) = (pX6_tried b_this) ∧ (pX6_stands (r.2)) = (pX6_stands b_this) ∧ (pX6_found (r.2)) = (pX6_found b_this) ∧ (pX6_foundOn (r.2)) = (pX6_foundOn b_this) ∧ (pX6_moving (r.2)) = (pX6_moving b_this) ∧ (pX6_movingMany (r.2)) = (pX6_movingMany b_this) ∧ (pX6_foundIncome (r.2)) = (pX6_foundIncome b_this) ∧ (pX6_foundMoves (r.2)) = (pX6_foundMoves b_this) := by
  intro Fx1 Fx2 x1 x2 Fv_a Fv_thrown Fv_best Fv_rentBy Fv_bareBy Fv_aheadBy b_this r h_x1 h_x2 h_v_a h_v_thrown h_v_best h_v_rentBy h_v_bareBy h_v_aheadBy hg
  unfold g_X6_clashCost at hg
  unfold f_X6_clashCost
  refine lB_1_1 (fun r hr => l_X6_areTrades  _ _ _ _ r h_x1 h_x2 hr) hg (fun Fr_20 r_20 hq hg => ?_)
  obtain ⟨q_73⟩ := hq
  refine lI (LI_eq q_73 (LI_n (x := 0) rfl)) hg (fun hc hg => ?_) (fun hc hg => ?_)
  · obtain ⟨R, hR, c0, c1, c2, c3, c4, c5, c6, c7, c8, c9, c10, c11, c12, c13, c14, c15, c16, c17, c18, c19, c20, c21, c22, c23, c24, c25, c26, c27, c28⟩ := l_X6_clashCost_14 _ _ _ _ _ _ _ _ _ _ _ _ _ _ (LI_n (x := 1) rfl) h_x1 h_x2 h_v_a h_v_thrown h_v_best h_v_rentBy h_v_bareBy h_v_aheadBy hg
    exact ⟨R, hR, c0, c1, c2, c3, c4, c5, c6, c7, c8, c9, c10, c11, c12, c13, c14, c15, c16, c17, c18, c19, c20, c21, c22, c23, c24, c25, c26, c27, c28⟩
  · obtain ⟨R, hR, c0, c1, c2, c3, c4, c5, c6, c7, c8, c9, c10, c11, c12, c13, c14, c15, c16, c17, c18, c19, c20, c21, c22, c23, c24, c25, c26, c27, c28⟩ := l_X6_clashCost_14 _ _ _ _ _ _ _ _ _ _ _ _ _ _ (LI_n (x := 0) rfl) h_x1 h_x2 h_v_a h_v_thrown h_v_best h_v_rentBy h_v_bareBy h_v_aheadBy hg
    exact ⟨R, hR, c0, c1, c2, c3, c4, c5, c6, c7, c8, c9, c10, c11, c12, c13, c14, c15, c16, c17, c18, c19, c20, c21, c22, c23, c24, c25, c26, c27, c28⟩
set_option maxHeartbeats 4000000 in
set_option maxRecDepth 100000 in
theorem l_X6_clashesAt {n : Nat} : ∀ (Fx1 : Int32) (Fx2 : Int32) (Fx3 : Int32) (x1 : Int) (x2 : Int) (x3 : Int) (Fv_a : Nat → Int32) (b_this : BX6) (r : Int), LI Fx1 x1 → LI Fx2 x2 → LI Fx3 x3 → LA Fv_a (pX6_a b_this) → g_X6_clashesAt n b_this x1 x2 x3 = some r → ∃ R, f_X6_clashesAt n Fv_a Fx1 Fx2 Fx3 = some R ∧ LI R r := by
  intro Fx1 Fx2 Fx3 x1 x2 x3 Fv_a b_this r h_x1 h_x2 h_x3 h_v_a hg
  unfold g_X6_clashesAt at hg
  unfold f_X6_clashesAt
  refine lB_1_1 (fun r hr => l_X6_isPitch  _ _ _ _ r h_x3 h_v_a hr) hg (fun Fr_1 r_1 hq hg => ?_)
  obtain ⟨q_1⟩ := hq
  refine lI (LI_eq q_1 (LI_n (x := 0) rfl)) hg (fun hc hg => ?_) (fun hc hg => ?_)
  · cases hg
    exact ⟨_, rfl, (LI_n (x := 0) rfl)⟩
  · refine lA (EI_add (EI_i (LI_n (x := 50) rfl)) (EI_i h_x3)) rfl hg (fun ha_2 hg => ?_)
    refine lA (EI_add (EI_i (LI_n (x := 50) rfl)) (EI_i h_x2)) rfl hg (fun ha_3 hg => ?_)
    refine lI (LI_eq (LA_at h_v_a (EI_add (EI_i (LI_n (x := 50) rfl)) (EI_i h_x3)) ha_2) (LA_at h_v_a (EI_add (EI_i (LI_n (x := 50) rfl)) (EI_i h_x2)) ha_3)) hg (fun hc hg => ?_) (fun hc hg => ?_)
    · refine lB_1_1 (fun r hr => l_X6_on  _ _ _ _ r h_x3 h_v_a hr) hg (fun Fr_5 r_5 hq hg => ?_)
      obtain ⟨q_4⟩ := hq
      refine lI (LI_eq q_4 (LI_n (x := -1) rfl)) hg (fun hc hg => ?_) (fun hc hg => ?_)
      · cases hg
        exact ⟨_, rfl, (LI_n (x := 0) rfl)⟩
      · refine lB_1_1 (fun r hr => l_X6_on  _ _ _ _ r h_x3 h_v_a hr) hg (fun Fr_7 r_7 hq hg => ?_)
        obtain ⟨q_5⟩ := hq
        refine lB_1_1 (fun r hr => l_X6_doClash  _ _ _ _ _ _ r h_x1 q_5 h_v_a hr) hg (fun Fr_9 r_9 hq hg => ?_)
        obtain ⟨q_6⟩ := hq
        refine lI (LI_eq q_6 (LI_n (x := 0) rfl)) hg (fun hc hg => ?_) (fun hc hg => ?_)
        · cases hg
          exact ⟨_, rfl, (LI_n (x := 0) rfl)⟩
        · cases hg
          exact ⟨_, rfl, (LI_n (x := 1) rfl)⟩
    · cases hg
      exact ⟨_, rfl, (LI_n (x := 0) rfl)⟩
set_option maxHeartbeats 4000000 in
set_option maxRecDepth 100000 in
theorem l_X6_placed_29 {n : Nat} {K4 : Int32 → Int32 → (Nat → Int32) → Option (Int32)} {k4 : Int → Int → BX6 → Option (Int)} (hk4 : ∀ (Fx1 : Int32) (Fx2 : Int32) (x1 : Int) (x2 : Int) (Fv_a : Nat → Int32) (b_this : BX6) (r : Int), LI Fx1 x1 → LI Fx2 x2 → LA Fv_a (pX6_a b_this) → k4 x1 x2 b_this = some r → ∃ R, K4 Fx1 Fx2 Fv_a = some R ∧ LI R r) : ∀ (Ft0 : Int32) (Ft1 : Int32) (Fx2 : Int32) (t0 : Int) (t1 : Int) (x2 : Int) (Fv_a : Nat → Int32) (b_this : BX6) (r : Int), LI Ft0 t0 → LI Ft1 t1 → LI Fx2 x2 → LA Fv_a (pX6_a b_this) → g_X6_placed_29 n k4 t0 t1 x2 b_this = some r → ∃ R, f_X6_placed_29 n K4 Ft0 Ft1 Fx2 Fv_a = some R ∧ LI R r := by
  intro Ft0 Ft1 Fx2 t0 t1 x2 Fv_a b_this r h_t0 h_t1 h_x2 h_v_a hg
  unfold g_X6_placed_29 at hg
  unfold f_X6_placed_29
  refine lR hg (fun hr_1 hg => ?_)
  refine lL (LI_of (EI_add (EI_i h_t0) (EI_i h_t1)) hr_1) hg (fun Fy_1 y_1 h_y_1 hg => ?_)
  refine lR hg (fun hr_2 hg => ?_)
  obtain ⟨R, hR, c0⟩ := hk4 _ _ _ _ _ _ _ h_y_1 (LI_of (EI_add (EI_i h_x2) (EI_i (LI_n (x := 1) rfl))) hr_2) h_v_a hg
  exact ⟨R, hR, c0⟩
set_option maxHeartbeats 4000000 in
set_option maxRecDepth 100000 in
theorem l_X6_placed_4 {n : Nat} : ∀ (fu : Nat), ∀ (Fx1 : Int32) (Fx2 : Int32) (x1 : Int) (x2 : Int) (Fv_a : Nat → Int32) (b_this : BX6) (r : Int), LI Fx1 x1 → LI Fx2 x2 → LA Fv_a (pX6_a b_this) → g_X6_placed_4 n fu x1 x2 b_this = some r → ∃ R, f_X6_placed_4 n fu Fx1 Fx2 Fv_a = some R ∧ LI R r := by
  intro fu
  induction fu with
  | zero => intro Fx1 Fx2 x1 x2 Fv_a b_this r h_x1 h_x2 h_v_a hg; rw [g_X6_placed_4.eq_1] at hg; cases hg
  | succ fu ih =>
    intro Fx1 Fx2 x1 x2 Fv_a b_this r h_x1 h_x2 h_v_a hg
    rw [g_X6_placed_4.eq_2] at hg
    rw [f_X6_placed_4.eq_2]
    refine lI (LI_le (LI_n (x := 8) rfl) h_x2) hg (fun hc hg => ?_) (fun hc hg => ?_)
    · cases hg
      exact ⟨_, rfl, h_x1⟩
    · refine lA (EI_add (EI_i (LI_n (x := 107) rfl)) (EI_i h_x2)) rfl hg (fun ha_3 hg => ?_)
      refine lI (LI_eq (LA_at h_v_a (EI_add (EI_i (LI_n (x := 107) rfl)) (EI_i h_x2)) ha_3) (LI_n (x := -1) rfl)) hg (fun hc hg => ?_) (fun hc hg => ?_)
      · obtain ⟨R, hR, c0⟩ := l_X6_placed_29 ih _ _ _ _ _ _ _ _ _ h_x1 (LI_n (x := 0) rfl) h_x2 h_v_a hg
        exact ⟨R, hR, c0⟩
      · obtain ⟨R, hR, c0⟩ := l_X6_placed_29 ih _ _ _ _ _ _ _ _ _ h_x1 (LI_n (x := 1) rfl) h_x2 h_v_a hg
        exact ⟨R, hR, c0⟩
set_option maxHeartbeats 4000000 in
set_option maxRecDepth 100000 in
theorem l_X6_placed {n : Nat} : ∀ (Fv_a : Nat → Int32) (b_this : BX6) (r : Int), LA Fv_a (pX6_a b_this) → g_X6_placed n b_this = some r → ∃ R, f_X6_placed n Fv_a = some R ∧ LI R r := by
  intro Fv_a b_this r h_v_a hg
  unfold g_X6_placed at hg
  unfold f_X6_placed
  obtain ⟨R, hR, c0⟩ := l_X6_placed_4 n _ _ _ _ _ _ _ (LI_n (x := 0) rfl) (LI_n (x := 0) rfl) h_v_a hg
  exact ⟨R, hR, c0⟩
set_option maxHeartbeats 4000000 in
set_option maxRecDepth 100000 in
theorem l_X6_clear_16 {n : Nat} : ∀ (fu : Nat), ∀ (Fx1 : Int32) (Fx2 : Int32) (x1 : Int) (x2 : Int) (Fv_a : Nat → Int32) (Fv_kept : Nat → Int32) (Fv_keptMany : Int32) (Fv_thrown : Int32) (b_this : BX6) (r : Int × BX6), LI Fx1 x1 → LI Fx2 x2 → LA Fv_a (pX6_a b_this) → LA Fv_kept (pX6_kept b_this) → LI Fv_keptMany (pX6_keptMany b_this) → LI Fv_thrown (pX6_thrown b_this) → g_X6_clear_16 n fu x1 x2 b_this = some r → ∃ R, f_X6_clear_16 n fu Fx1 Fx2 Fv_a Fv_kept Fv_keptMany Fv_thrown = some R ∧ LI (R.1) (r.1) ∧ LA (R.2.1) (pX6_a (r.2)) ∧ LA (R.2.2.1) (pX6_kept (r.2)) ∧ LI (R.2.2.2.1) (pX6_keptMany (r.2)) ∧ LI (R.2.2.2.2) (pX6_thrown (r.2)) ∧ (pX6_fresh (r.2)) = (pX6_fresh b_this) ∧ (pX6_buffer (r.2)) = (pX6_buffer b_this) ∧ (pX6_buffered (r.2)) = (pX6_buffered b_this) ∧ (pX6_size (r.2)) = (pX6_size b_this) ∧ (pX6_at (r.2)) = (pX6_at b_this) ∧ (pX6_behind (r.2)) = (pX6_behind b_this) ∧ (pX6_kind (r.2)) = (pX6_kind b_this) ∧ (pX6_wrong (r.2)) = (pX6_wrong b_this) ∧ (pX6_wrongAt (r.2)) = (pX6_wrongAt b_this) ∧ (pX6_errorAt (r.2)) = (pX6_errorAt b_this) ∧ (pX6_number (r.2)) = (pX6_number b_this) ∧ (pX6_best (r.2)) = (pX6_best b_this) ∧ (pX6_rentBy (r.2)) = (pX6_rentBy b_this) ∧ (pX6_bareBy (r.2)) = (pX6_bareBy b_this) ∧ (pX6_aheadBy (r.2)) = (pX6_aheadBy b_this) ∧ (pX6_isEdge (r.2)) = (pX6_isEdge b_this) ∧ (pX6_tried (r.2)) = (pX6_tried b_this) ∧ (pX6_stands (r.2)) = (pX6_stands b_this) ∧ (pX6_found (r.2)) = (pX6_found b_this) ∧ (pX6_foundOn (r.2)) = (pX6_foundOn b_this) ∧ (pX6_moving (r.2)) = (pX6_moving b_this) ∧ (pX6_movingMany (r.2)) = (pX6_movingMany b_this) ∧ (pX6_foundIncome (r.2)) = (pX6_foundIncome b_this) ∧ (pX6_foundMoves (r.2)) = (pX6_foundMoves b_this) := by
  intro fu
  induction fu with
  | zero => intro Fx1 Fx2 x1 x2 Fv_a Fv_kept Fv_keptMany Fv_thrown b_this r h_x1 h_x2 h_v_a h_v_kept h_v_keptMany h_v_thrown hg; rw [g_X6_clear_16.eq_1] at hg; cases hg
  | succ fu ih =>
    intro Fx1 Fx2 x1 x2 Fv_a Fv_kept Fv_keptMany Fv_thrown b_this r h_x1 h_x2 h_v_a h_v_kept h_v_keptMany h_v_thrown hg
    rw [g_X6_clear_16.eq_2] at hg
    rw [f_X6_clear_16.eq_2]
    refine lI (LI_le (LI_n (x := 8) rfl) h_x2) hg (fun hc hg => ?_) (fun hc hg => ?_)
    · cases hg
      exact ⟨_, rfl, h_x1, h_v_a, h_v_kept, h_v_keptMany, h_v_thrown, rfl, rfl, rfl, rfl, rfl, rfl, rfl, rfl, rfl, rfl, rfl, rfl, rfl, rfl, rfl, rfl, rfl, rfl, rfl, rfl, rfl, rfl, rfl, rfl⟩
    · refine lA (EI_add (EI_i (LI_n (x := 107) rfl)) (EI_i h_x2)) rfl hg (fun ha_1 hg => ?_)
      refine lL (LA_upd h_v_a (EI_add (EI_i (LI_n (x := 107) rfl)) (EI_i h_x2)) ha_1 (LI_n (x := -1) rfl)) hg (fun Fv_2 v_2 h_v_2 hg => ?_)
      refine lR hg (fun hr_2 hg => ?_)
      obtain ⟨R, hR, c0, c1, c2, c3, c4, c5, c6, c7, c8, c9, c10, c11, c12, c13, c14, c15, c16, c17, c18, c19, c20, c21, c22, c23, c24, c25, c26, c27, c28⟩ := ih _ _ _ _ _ _ _ _ _ _ h_x1 (LI_of (EI_add (EI_i h_x2) (EI_i (LI_n (x := 1) rfl))) hr_2) h_v_2 h_v_kept h_v_keptMany h_v_thrown hg
      exact ⟨R, hR, c0, c1, c2, c3, c4, c5, c6, c7, c8, c9, c10, c11, c12, c13, c14, c15, c16, c17, c18, c19, c20, c21, c22, c23, c24, c25, c26, c27, c28⟩
set_option maxHeartbeats 4000000 in
set_option maxRecDepth 100000 in
theorem l_X6_clear {n : Nat} : ∀ (Fv_a : Nat → Int32) (Fv_kept : Nat → Int32) (Fv_keptMany : Int32) (Fv_thrown : Int32) (b_this : BX6) (r : Int × BX6), LA Fv_a (pX6_a b_this) → LA Fv_kept (pX6_kept b_this) → LI Fv_keptMany (pX6_keptMany b_this) → LI Fv_thrown (pX6_thrown b_this) → g_X6_clear n b_this = some r → ∃ R, f_X6_clear n Fv_a Fv_kept Fv_keptMany Fv_thrown = some R ∧ LI (R.1) (r.1) ∧ LA (R.2.1) (pX6_a (r.2)) ∧ LA (R.2.2.1) (pX6_kept (r.2)) ∧ LI (R.2.2.2.1) (pX6_keptMany (r.2)) ∧ LI (R.2.2.2.2) (pX6_thrown (r.2)) ∧ (pX6_fresh (r.2)) = (pX6_fresh b_this) ∧ (pX6_buffer (r.2)) = (pX6_buffer b_this) ∧ (pX6_buffered (r.2)) = (pX6_buffered b_this) ∧ (pX6_size (r.2)) = (pX6_size b_this) ∧ (pX6_at (r.2)) = (pX6_at b_this) ∧ (pX6_behind (r.2)) = (pX6_behind b_this) ∧ (pX6_kind (r.2)) = (pX6_kind b_this) ∧ (pX6_wrong (r.2)) = (pX6_wrong b_this) ∧ (pX6_wrongAt (r.2)) = (pX6_wrongAt b_this) ∧ (pX6_errorAt (r.2)) = (pX6_errorAt b_this) ∧ (pX6_number (r.2)) = (pX6_number b_this) ∧ (pX6_best (r.2)) = (pX6_best b_this) ∧ (pX6_rentBy (r.2)) = (pX6_rentBy b_this) ∧ (pX6_bareBy (r.2)) = (pX6_bareBy b_this) ∧ (pX6_aheadBy (r.2)) = (pX6_aheadBy b_this) ∧ (pX6_isEdge (r.2)) = (pX6_isEdge b_this) ∧ (pX6_tried (r.2)) = (pX6_tried b_this) ∧ (pX6_stands (r.2)) = (pX6_stands b_this) ∧ (pX6_found (r.2)) = (pX6_found b_this) ∧ (pX6_foundOn (r.2)) = (pX6_foundOn b_this) ∧ (pX6_moving (r.2)) = (pX6_moving b_this) ∧ (pX6_movingMany (r.2)) = (pX6_movingMany b_this) ∧ (pX6_foundIncome (r.2)) = (pX6_foundIncome b_this) ∧ (pX6_foundMoves (r.2)) = (pX6_foundMoves b_this) := by
  intro Fv_a Fv_kept Fv_keptMany Fv_thrown b_this r h_v_a h_v_kept h_v_keptMany h_v_thrown hg
  unfold g_X6_clear at hg
  unfold f_X6_clear
  refine lB_2_1 (fun r hr => l_X6_keeps  _ _ _ _ r h_v_a h_v_kept h_v_keptMany hr) hg (fun Fv_3 Fv_4 b_3 hq hg => ?_)
  obtain ⟨q_4, q_5, q_6, q_7, q_8, q_9, q_10, q_11, q_12, q_13, q_14, q_15, q_16, q_17, q_18, q_19, q_20, q_21, q_22, q_23, q_24, q_25, q_26, q_27, q_28, q_29, q_30, q_31⟩ := hq
  have hl_32 := (LA_cg q_6 h_v_a)
  have hl_33 := (LI_cg q_8 (LI_n (x := 0) rfl))
  refine lB_1_1 (fun r hr => l_X6_placed  _ _ r hl_32 hr) hg (fun Fr_6 r_6 hq hg => ?_)
  obtain ⟨q_34⟩ := hq
  obtain ⟨R, hR, c0, c1, c2, c3, c4, c5, c6, c7, c8, c9, c10, c11, c12, c13, c14, c15, c16, c17, c18, c19, c20, c21, c22, c23, c24, c25, c26, c27, c28⟩ := l_X6_clear_16 n _ _ _ _ _ _ _ _ _ _ q_34 (LI_n (x := 0) rfl) hl_32 q_4 q_5 hl_33 hg
  exact ⟨R, hR, c0, c1, c2, c3, c4, (c5).trans q_7, (c6).trans q_9, (c7).trans q_10, (c8).trans q_11, (c9).trans q_12, (c10).trans q_13, (c11).trans q_14, (c12).trans q_15, (c13).trans q_16, (c14).trans q_17, (c15).trans q_18, (c16).trans q_19, (c17).trans q_20, (c18).trans q_21, (c19).trans q_22, (c20).trans q_23, (c21).trans q_24, (c22).trans q_25, (c23).trans q_26, (c24).trans q_27, (c25).trans q_28, (c26).trans q_29, (c27).trans q_30, (c28).trans q_31⟩
set_option maxHeartbeats 4000000 in
set_option maxRecDepth 100000 in
theorem l_X6_isAhead_55 {n : Nat} {K2 : Int32 → (Nat → Int32) → (Nat → Int32) → (Nat → Int32) → Option (Int32)} {k2 : Int → BX6 → Option (Int)} (hk2 : ∀ (Fx1 : Int32) (x1 : Int) (Fv_a : Nat → Int32) (Fv_stands : Nat → Int32) (Fv_foundOn : Nat → Int32) (b_this : BX6) (r : Int), LI Fx1 x1 → LA Fv_a (pX6_a b_this) → LA Fv_stands (pX6_stands b_this) → LA Fv_foundOn (pX6_foundOn b_this) → k2 x1 b_this = some r → ∃ R, K2 Fx1 Fv_a Fv_stands Fv_foundOn = some R ∧ LI R r) : ∀ (Ft0 : Int32) (Fx1 : Int32) (Fx2 : Int32) (t0 : Int) (x1 : Int) (x2 : Int) (Fv_a : Nat → Int32) (Fv_stands : Nat → Int32) (Fv_foundOn : Nat → Int32) (b_this : BX6) (r : Int), LI Ft0 t0 → LI Fx1 x1 → LI Fx2 x2 → LA Fv_a (pX6_a b_this) → LA Fv_stands (pX6_stands b_this) → LA Fv_foundOn (pX6_foundOn b_this) → g_X6_isAhead_55 n k2 t0 x1 x2 b_this = some r → ∃ R, f_X6_isAhead_55 n K2 Ft0 Fx1 Fx2 Fv_a Fv_stands Fv_foundOn = some R ∧ LI R r := by
  intro Ft0 Fx1 Fx2 t0 x1 x2 Fv_a Fv_stands Fv_foundOn b_this r h_t0 h_x1 h_x2 h_v_a h_v_stands h_v_foundOn hg
  unfold g_X6_isAhead_55 at hg
  unfold f_X6_isAhead_55
  refine lI (LI_eq h_x2 h_t0) hg (fun hc hg => ?_) (fun hc hg => ?_)
  · refine lR hg (fun hr_1 hg => ?_)
    obtain ⟨R, hR, c0⟩ := hk2 _ _ _ _ _ _ _ (LI_of (EI_add (EI_i h_x1) (EI_i (LI_n (x := 1) rfl))) hr_1) h_v_a h_v_stands h_v_foundOn hg
    exact ⟨R, hR, c0⟩
  · refine lI (LI_le h_t0 h_x2) hg (fun hc hg => ?_) (fun hc hg => ?_)
    · cases hg
      exact ⟨_, rfl, (LI_n (x := 0) rfl)⟩
    · cases hg
      exact ⟨_, rfl, (LI_n (x := 1) rfl)⟩
set_option maxHeartbeats 4000000 in
set_option maxRecDepth 100000 in
theorem l_X6_isAhead_33 {n : Nat} {K2 : Int32 → (Nat → Int32) → (Nat → Int32) → (Nat → Int32) → Option (Int32)} {k2 : Int → BX6 → Option (Int)} (hk2 : ∀ (Fx1 : Int32) (x1 : Int) (Fv_a : Nat → Int32) (Fv_stands : Nat → Int32) (Fv_foundOn : Nat → Int32) (b_this : BX6) (r : Int), LI Fx1 x1 → LA Fv_a (pX6_a b_this) → LA Fv_stands (pX6_stands b_this) → LA Fv_foundOn (pX6_foundOn b_this) → k2 x1 b_this = some r → ∃ R, K2 Fx1 Fv_a Fv_stands Fv_foundOn = some R ∧ LI R r) : ∀ (Ft0 : Int32) (Fx1 : Int32) (t0 : Int) (x1 : Int) (Fv_a : Nat → Int32) (Fv_stands : Nat → Int32) (Fv_foundOn : Nat → Int32) (b_this : BX6) (r : Int), LI Ft0 t0 → LI Fx1 x1 → LA Fv_a (pX6_a b_this) → LA Fv_stands (pX6_stands b_this) → LA Fv_foundOn (pX6_foundOn b_this) → g_X6_isAhead_33 n k2 t0 x1 b_this = some r → ∃ R, f_X6_isAhead_33 n K2 Ft0 Fx1 Fv_a Fv_stands Fv_foundOn = some R ∧ LI R r := by
  intro Ft0 Fx1 t0 x1 Fv_a Fv_stands Fv_foundOn b_this r h_t0 h_x1 h_v_a h_v_stands h_v_foundOn hg
  unfold g_X6_isAhead_33 at hg
  unfold f_X6_isAhead_33
  refine lA (EI_i h_x1) rfl hg (fun ha_2 hg => ?_)
  refine lI (LI_eq (LA_at h_v_foundOn (EI_i h_x1) ha_2) (LI_n (x := -1) rfl)) hg (fun hc hg => ?_) (fun hc hg => ?_)
  · obtain ⟨R, hR, c0⟩ := l_X6_isAhead_55 hk2 _ _ _ _ _ _ _ _ _ _ _ (LI_n (x := 8) rfl) h_x1 h_t0 h_v_a h_v_stands h_v_foundOn hg
    exact ⟨R, hR, c0⟩
  · refine lA (EI_i h_x1) rfl hg (fun ha_3 hg => ?_)
    obtain ⟨R, hR, c0⟩ := l_X6_isAhead_55 hk2 _ _ _ _ _ _ _ _ _ _ _ (LA_at h_v_foundOn (EI_i h_x1) ha_3) h_x1 h_t0 h_v_a h_v_stands h_v_foundOn hg
    exact ⟨R, hR, c0⟩
set_option maxHeartbeats 4000000 in
set_option maxRecDepth 100000 in
theorem l_X6_isAhead_2 {n : Nat} : ∀ (fu : Nat), ∀ (Fx1 : Int32) (x1 : Int) (Fv_a : Nat → Int32) (Fv_stands : Nat → Int32) (Fv_foundOn : Nat → Int32) (b_this : BX6) (r : Int), LI Fx1 x1 → LA Fv_a (pX6_a b_this) → LA Fv_stands (pX6_stands b_this) → LA Fv_foundOn (pX6_foundOn b_this) → g_X6_isAhead_2 n fu x1 b_this = some r → ∃ R, f_X6_isAhead_2 n fu Fx1 Fv_a Fv_stands Fv_foundOn = some R ∧ LI R r := by
  intro fu
  induction fu with
  | zero => intro Fx1 x1 Fv_a Fv_stands Fv_foundOn b_this r h_x1 h_v_a h_v_stands h_v_foundOn hg; rw [g_X6_isAhead_2.eq_1] at hg; cases hg
  | succ fu ih =>
    intro Fx1 x1 Fv_a Fv_stands Fv_foundOn b_this r h_x1 h_v_a h_v_stands h_v_foundOn hg
    rw [g_X6_isAhead_2.eq_2] at hg
    rw [f_X6_isAhead_2.eq_2]
    refine lA (EI_i (LI_n (x := 1) rfl)) rfl hg (fun ha_4 hg => ?_)
    refine lI (LI_le (LA_at h_v_a (EI_i (LI_n (x := 1) rfl)) ha_4) h_x1) hg (fun hc hg => ?_) (fun hc hg => ?_)
    · cases hg
      exact ⟨_, rfl, (LI_n (x := 0) rfl)⟩
    · refine lA (EI_i h_x1) rfl hg (fun ha_5 hg => ?_)
      refine lI (LI_eq (LA_at h_v_stands (EI_i h_x1) ha_5) (LI_n (x := -1) rfl)) hg (fun hc hg => ?_) (fun hc hg => ?_)
      · obtain ⟨R, hR, c0⟩ := l_X6_isAhead_33 ih _ _ _ _ _ _ _ _ _ (LI_n (x := 8) rfl) h_x1 h_v_a h_v_stands h_v_foundOn hg
        exact ⟨R, hR, c0⟩
      · refine lA (EI_i h_x1) rfl hg (fun ha_6 hg => ?_)
        obtain ⟨R, hR, c0⟩ := l_X6_isAhead_33 ih _ _ _ _ _ _ _ _ _ (LA_at h_v_stands (EI_i h_x1) ha_6) h_x1 h_v_a h_v_stands h_v_foundOn hg
        exact ⟨R, hR, c0⟩
set_option maxHeartbeats 4000000 in
set_option maxRecDepth 100000 in
theorem l_X6_isAhead {n : Nat} : ∀ (Fv_a : Nat → Int32) (Fv_stands : Nat → Int32) (Fv_foundOn : Nat → Int32) (b_this : BX6) (r : Int), LA Fv_a (pX6_a b_this) → LA Fv_stands (pX6_stands b_this) → LA Fv_foundOn (pX6_foundOn b_this) → g_X6_isAhead n b_this = some r → ∃ R, f_X6_isAhead n Fv_a Fv_stands Fv_foundOn = some R ∧ LI R r := by
  intro Fv_a Fv_stands Fv_foundOn b_this r h_v_a h_v_stands h_v_foundOn hg
  unfold g_X6_isAhead at hg
  unfold f_X6_isAhead
  obtain ⟨R, hR, c0⟩ := l_X6_isAhead_2 n _ _ _ _ _ _ _ (LI_n (x := 0) rfl) h_v_a h_v_stands h_v_foundOn hg
  exact ⟨R, hR, c0⟩
set_option maxHeartbeats 4000000 in
set_option maxRecDepth 100000 in
theorem l_X6_compares_199 {n : Nat} : ∀ (fu : Nat), ∀ (Fx4 : Int32) (x4 : Int) (Fv_stands : Nat → Int32) (Fv_found : Nat → Int32) (Fv_foundOn : Nat → Int32) (Fv_foundIncome : Int32) (Fv_foundMoves : Int32) (b_this : BX6) (r : BX6), LI Fx4 x4 → LA Fv_stands (pX6_stands b_this) → LA Fv_found (pX6_found b_this) → LA Fv_foundOn (pX6_foundOn b_this) → LI Fv_foundIncome (pX6_foundIncome b_this) → LI Fv_foundMoves (pX6_foundMoves b_this) → g_X6_compares_199 n fu x4 b_this = some r → ∃ R, f_X6_compares_199 n fu Fx4 Fv_stands Fv_found Fv_foundOn Fv_foundIncome Fv_foundMoves = some R ∧ LA (R.1) (pX6_found r) ∧ LA (R.2.1) (pX6_foundOn r) ∧ LI (R.2.2.1) (pX6_foundIncome r) ∧ LI (R.2.2.2) (pX6_foundMoves r) ∧ (pX6_a r) = (pX6_a b_this) ∧ (pX6_fresh r) = (pX6_fresh b_this) ∧ (pX6_kept r) = (pX6_kept b_this) ∧ (pX6_keptMany r) = (pX6_keptMany b_this) ∧ (pX6_thrown r) = (pX6_thrown b_this) ∧ (pX6_buffer r) = (pX6_buffer b_this) ∧ (pX6_buffered r) = (pX6_buffered b_this) ∧ (pX6_size r) = (pX6_size b_this) ∧ (pX6_at r) = (pX6_at b_this) ∧ (pX6_behind r) = (pX6_behind b_this) ∧ (pX6_kind r) = (pX6_kind b_this) ∧ (pX6_wrong r) = (pX6_wrong b_this) ∧ (pX6_wrongAt r) = (pX6_wrongAt b_this) ∧ (pX6_errorAt r) = (pX6_errorAt b_this) ∧ (pX6_number r) = (pX6_number b_this) ∧ (pX6_best r) = (pX6_best b_this) ∧ (pX6_rentBy r) = (pX6_rentBy b_this) ∧ (pX6_bareBy r) = (pX6_bareBy b_this) ∧ (pX6_aheadBy r) = (pX6_aheadBy b_this) ∧ (pX6_isEdge r) = (pX6_isEdge b_this) ∧ (pX6_tried r) = (pX6_tried b_this) ∧ (pX6_stands r) = (pX6_stands b_this) ∧ (pX6_moving r) = (pX6_moving b_this) ∧ (pX6_movingMany r) = (pX6_movingMany b_this) := by
  intro fu
  induction fu with
  | zero => intro Fx4 x4 Fv_stands Fv_found Fv_foundOn Fv_foundIncome Fv_foundMoves b_this r h_x4 h_v_stands h_v_found h_v_foundOn h_v_foundIncome h_v_foundMoves hg; rw [g_X6_compares_199.eq_1] at hg; cases hg
  | succ fu ih =>
    intro Fx4 x4 Fv_stands Fv_found Fv_foundOn Fv_foundIncome Fv_foundMoves b_this r h_x4 h_v_stands h_v_found h_v_foundOn h_v_foundIncome h_v_foundMoves hg
    rw [g_X6_compares_199.eq_2] at hg
    rw [f_X6_compares_199.eq_2]
    refine lI (LI_le (LI_n (x := 24) rfl) h_x4) hg (fun hc hg => ?_) (fun hc hg => ?_)
    · cases hg
      exact ⟨_, rfl, h_v_found, h_v_foundOn, h_v_foundIncome, h_v_foundMoves, rfl, rfl, rfl, rfl, rfl, rfl, rfl, rfl, rfl, rfl, rfl, rfl, rfl, rfl, rfl, rfl, rfl, rfl, rfl, rfl, rfl, rfl, rfl, rfl⟩
    · refine lA (EI_i h_x4) rfl hg (fun ha_1 hg => ?_)
      refine lA (EI_i h_x4) rfl hg (fun ha_2 hg => ?_)
      refine lL (LA_upd h_v_foundOn (EI_i h_x4) ha_2 (LA_at h_v_stands (EI_i h_x4) ha_2)) hg (fun Fv_3 v_3 h_v_3 hg => ?_)
      refine lR hg (fun hr_3 hg => ?_)
      obtain ⟨R, hR, c0, c1, c2, c3, c4, c5, c6, c7, c8, c9, c10, c11, c12, c13, c14, c15, c16, c17, c18, c19, c20, c21, c22, c23, c24, c25, c26, c27⟩ := ih _ _ _ _ _ _ _ _ _ (LI_of (EI_add (EI_i h_x4) (EI_i (LI_n (x := 1) rfl))) hr_3) h_v_stands h_v_found h_v_3 h_v_foundIncome h_v_foundMoves hg
      exact ⟨R, hR, c0, c1, c2, c3, c4, c5, c6, c7, c8, c9, c10, c11, c12, c13, c14, c15, c16, c17, c18, c19, c20, c21, c22, c23, c24, c25, c26, c27⟩
set_option maxHeartbeats 4000000 in
set_option maxRecDepth 100000 in
theorem l_X6_compares_169 {n : Nat} : ∀ (fu : Nat), ∀ (Fx4 : Int32) (x4 : Int) (Fv_tried : Nat → Int32) (Fv_stands : Nat → Int32) (Fv_found : Nat → Int32) (Fv_foundOn : Nat → Int32) (Fv_foundIncome : Int32) (Fv_foundMoves : Int32) (b_this : BX6) (r : BX6), LI Fx4 x4 → LA Fv_tried (pX6_tried b_this) → LA Fv_stands (pX6_stands b_this) → LA Fv_found (pX6_found b_this) → LA Fv_foundOn (pX6_foundOn b_this) → LI Fv_foundIncome (pX6_foundIncome b_this) → LI Fv_foundMoves (pX6_foundMoves b_this) → g_X6_compares_169 n fu x4 b_this = some r → ∃ R, f_X6_compares_169 n fu Fx4 Fv_tried Fv_stands Fv_found Fv_foundOn Fv_foundIncome Fv_foundMoves = some R ∧ LA (R.1) (pX6_found r) ∧ LA (R.2.1) (pX6_foundOn r) ∧ LI (R.2.2.1) (pX6_foundIncome r) ∧ LI (R.2.2.2) (pX6_foundMoves r) ∧ (pX6_a r) = (pX6_a b_this) ∧ (pX6_fresh r) = (pX6_fresh b_this) ∧ (pX6_kept r) = (pX6_kept b_this) ∧ (pX6_keptMany r) = (pX6_keptMany b_this) ∧ (pX6_thrown r) = (pX6_thrown b_this) ∧ (pX6_buffer r) = (pX6_buffer b_this) ∧ (pX6_buffered r) = (pX6_buffered b_this) ∧ (pX6_size r) = (pX6_size b_this) ∧ (pX6_at r) = (pX6_at b_this) ∧ (pX6_behind r) = (pX6_behind b_this) ∧ (pX6_kind r) = (pX6_kind b_this) ∧ (pX6_wrong r) = (pX6_wrong b_this) ∧ (pX6_wrongAt r) = (pX6_wrongAt b_this) ∧ (pX6_errorAt r) = (pX6_errorAt b_this) ∧ (pX6_number r) = (pX6_number b_this) ∧ (pX6_best r) = (pX6_best b_this) ∧ (pX6_rentBy r) = (pX6_rentBy b_this) ∧ (pX6_bareBy r) = (pX6_bareBy b_this) ∧ (pX6_aheadBy r) = (pX6_aheadBy b_this) ∧ (pX6_isEdge r) = (pX6_isEdge b_this) ∧ (pX6_tried r) = (pX6_tried b_this) ∧ (pX6_stands r) = (pX6_stands b_this) ∧ (pX6_moving r) = (pX6_moving b_this) ∧ (pX6_movingMany r) = (pX6_movingMany b_this) := by
  intro fu
  induction fu with
  | zero => intro Fx4 x4 Fv_tried Fv_stands Fv_found Fv_foundOn Fv_foundIncome Fv_foundMoves b_this r h_x4 h_v_tried h_v_stands h_v_found h_v_foundOn h_v_foundIncome h_v_foundMoves hg; rw [g_X6_compares_169.eq_1] at hg; cases hg
  | succ fu ih =>
    intro Fx4 x4 Fv_tried Fv_stands Fv_found Fv_foundOn Fv_foundIncome Fv_foundMoves b_this r h_x4 h_v_tried h_v_stands h_v_found h_v_foundOn h_v_foundIncome h_v_foundMoves hg
    rw [g_X6_compares_169.eq_2] at hg
    rw [f_X6_compares_169.eq_2]
    refine lI (LI_le (LI_n (x := 8) rfl) h_x4) hg (fun hc hg => ?_) (fun hc hg => ?_)
    · obtain ⟨R, hR, c0, c1, c2, c3, c4, c5, c6, c7, c8, c9, c10, c11, c12, c13, c14, c15, c16, c17, c18, c19, c20, c21, c22, c23, c24, c25, c26, c27⟩ := l_X6_compares_199 n _ _ _ _ _ _ _ _ _ (LI_n (x := 0) rfl) h_v_stands h_v_found h_v_foundOn h_v_foundIncome h_v_foundMoves hg
      exact ⟨R, hR, c0, c1, c2, c3, c4, c5, c6, c7, c8, c9, c10, c11, c12, c13, c14, c15, c16, c17, c18, c19, c20, c21, c22, c23, c24, c25, c26, c27⟩
    · refine lA (EI_i h_x4) rfl hg (fun ha_4 hg => ?_)
      refine lA (EI_i h_x4) rfl hg (fun ha_5 hg => ?_)
      refine lL (LA_upd h_v_found (EI_i h_x4) ha_5 (LA_at h_v_tried (EI_i h_x4) ha_5)) hg (fun Fv_6 v_6 h_v_6 hg => ?_)
      refine lR hg (fun hr_6 hg => ?_)
      obtain ⟨R, hR, c0, c1, c2, c3, c4, c5, c6, c7, c8, c9, c10, c11, c12, c13, c14, c15, c16, c17, c18, c19, c20, c21, c22, c23, c24, c25, c26, c27⟩ := ih _ _ _ _ _ _ _ _ _ _ (LI_of (EI_add (EI_i h_x4) (EI_i (LI_n (x := 1) rfl))) hr_6) h_v_tried h_v_stands h_v_6 h_v_foundOn h_v_foundIncome h_v_foundMoves hg
      exact ⟨R, hR, c0, c1, c2, c3, c4, c5, c6, c7, c8, c9, c10, c11, c12, c13, c14, c15, c16, c17, c18, c19, c20, c21, c22, c23, c24, c25, c26, c27⟩
set_option maxHeartbeats 4000000 in
set_option maxRecDepth 100000 in
theorem l_X6_compares_156 {n : Nat} : ∀ (Fx1 : Int32) (Fx2 : Int32) (x1 : Int) (x2 : Int) (Fv_tried : Nat → Int32) (Fv_stands : Nat → Int32) (Fv_found : Nat → Int32) (Fv_foundOn : Nat → Int32) (Fv_foundIncome : Int32) (Fv_foundMoves : Int32) (b_this : BX6) (r : BX6), LI Fx1 x1 → LI Fx2 x2 → LA Fv_tried (pX6_tried b_this) → LA Fv_stands (pX6_stands b_this) → LA Fv_found (pX6_found b_this) → LA Fv_foundOn (pX6_foundOn b_this) → LI Fv_foundIncome (pX6_foundIncome b_this) → LI Fv_foundMoves (pX6_foundMoves b_this) → g_X6_compares_156 n x1 x2 b_this = some r → ∃ R, f_X6_compares_156 n Fx1 Fx2 Fv_tried Fv_stands Fv_found Fv_foundOn Fv_foundIncome Fv_foundMoves = some R ∧ LA (R.1) (pX6_found r) ∧ LA (R.2.1) (pX6_foundOn r) ∧ LI (R.2.2.1) (pX6_foundIncome r) ∧ LI (R.2.2.2) (pX6_foundMoves r) ∧ (pX6_a r) = (pX6_a b_this) ∧ (pX6_fresh r) = (pX6_fresh b_this) ∧ (pX6_kept r) = (pX6_kept b_this) ∧ (pX6_keptMany r) = (pX6_keptMany b_this) ∧ (pX6_thrown r) = (pX6_thrown b_this) ∧ (pX6_buffer r) = (pX6_buffer b_this) ∧ (pX6_buffered r) = (pX6_buffered b_this) ∧ (pX6_size r) = (pX6_size b_this) ∧ (pX6_at r) = (pX6_at b_this) ∧ (pX6_behind r) = (pX6_behind b_this) ∧ (pX6_kind r) = (pX6_kind b_this) ∧ (pX6_wrong r) = (pX6_wrong b_this) ∧ (pX6_wrongAt r) = (pX6_wrongAt b_this) ∧ (pX6_errorAt r) = (pX6_errorAt b_this) ∧ (pX6_number r) = (pX6_number b_this) ∧ (pX6_best r) = (pX6_best b_this) ∧ (pX6_rentBy r) = (pX6_rentBy b_this) ∧ (pX6_bareBy r) = (pX6_bareBy b_this) ∧ (pX6_aheadBy r) = (pX6_aheadBy b_this) ∧ (pX6_isEdge r) = (pX6_isEdge b_this) ∧ (pX6_tried r) = (pX6_tried b_this) ∧ (pX6_stands r) = (pX6_stands b_this) ∧ (pX6_moving r) = (pX6_moving b_this) ∧ (pX6_movingMany r) = (pX6_movingMany b_this) := by
  intro Fx1 Fx2 x1 x2 Fv_tried Fv_stands Fv_found Fv_foundOn Fv_foundIncome Fv_foundMoves b_this r h_x1 h_x2 h_v_tried h_v_stands h_v_found h_v_foundOn h_v_foundIncome h_v_foundMoves hg
  unfold g_X6_compares_156 at hg
  unfold f_X6_compares_156
  obtain ⟨R, hR, c0, c1, c2, c3, c4, c5, c6, c7, c8, c9, c10, c11, c12, c13, c14, c15, c16, c17, c18, c19, c20, c21, c22, c23, c24, c25, c26, c27⟩ := l_X6_compares_169 n _ _ _ _ _ _ _ _ _ _ (LI_n (x := 0) rfl) h_v_tried h_v_stands h_v_found h_v_foundOn h_x1 h_x2 hg
  exact ⟨R, hR, c0, c1, c2, c3, c4, c5, c6, c7, c8, c9, c10, c11, c12, c13, c14, c15, c16, c17, c18, c19, c20, c21, c22, c23, c24, c25, c26, c27⟩
set_option maxHeartbeats 4000000 in
set_option maxRecDepth 100000 in
theorem l_X6_compares_142 {n : Nat} : ∀ (Ft0 : Int32) (Fx1 : Int32) (Fx2 : Int32) (t0 : Int) (x1 : Int) (x2 : Int) (Fv_tried : Nat → Int32) (Fv_stands : Nat → Int32) (Fv_found : Nat → Int32) (Fv_foundOn : Nat → Int32) (Fv_foundIncome : Int32) (Fv_foundMoves : Int32) (b_this : BX6) (r : BX6), LI Ft0 t0 → LI Fx1 x1 → LI Fx2 x2 → LA Fv_tried (pX6_tried b_this) → LA Fv_stands (pX6_stands b_this) → LA Fv_found (pX6_found b_this) → LA Fv_foundOn (pX6_foundOn b_this) → LI Fv_foundIncome (pX6_foundIncome b_this) → LI Fv_foundMoves (pX6_foundMoves b_this) → g_X6_compares_142 n t0 x1 x2 b_this = some r → ∃ R, f_X6_compares_142 n Ft0 Fx1 Fx2 Fv_tried Fv_stands Fv_found Fv_foundOn Fv_foundIncome Fv_foundMoves = some R ∧ LA (R.1) (pX6_found r) ∧ LA (R.2.1) (pX6_foundOn r) ∧ LI (R.2.2.1) (pX6_foundIncome r) ∧ LI (R.2.2.2) (pX6_foundMoves r) ∧ (pX6_a r) = (pX6_a b_this) ∧ (pX6_fresh r) = (pX6_fresh b_this) ∧ (pX6_kept r) = (pX6_kept b_this) ∧ (pX6_keptMany r) = (pX6_keptMany b_this) ∧ (pX6_thrown r) = (pX6_thrown b_this) ∧ (pX6_buffer r) = (pX6_buffer b_this) ∧ (pX6_buffered r) = (pX6_buffered b_this) ∧ (pX6_size r) = (pX6_size b_this) ∧ (pX6_at r) = (pX6_at b_this) ∧ (pX6_behind r) = (pX6_behind b_this) ∧ (pX6_kind r) = (pX6_kind b_this) ∧ (pX6_wrong r) = (pX6_wrong b_this) ∧ (pX6_wrongAt r) = (pX6_wrongAt b_this) ∧ (pX6_errorAt r) = (pX6_errorAt b_this) ∧ (pX6_number r) = (pX6_number b_this) ∧ (pX6_best r) = (pX6_best b_this) ∧ (pX6_rentBy r) = (pX6_rentBy b_this) ∧ (pX6_bareBy r) = (pX6_bareBy b_this) ∧ (pX6_aheadBy r) = (pX6_aheadBy b_this) ∧ (pX6_isEdge r) = (pX6_isEdge b_this) ∧ (pX6_tried r) = (pX6_tried b_this) ∧ (pX6_stands r) = (pX6_stands b_this) ∧ (pX6_moving r) = (pX6_moving b_this) ∧ (pX6_movingMany r) = (pX6_movingMany b_this) := by
  intro Ft0 Fx1 Fx2 t0 x1 x2 Fv_tried Fv_stands Fv_found Fv_foundOn Fv_foundIncome Fv_foundMoves b_this r h_t0 h_x1 h_x2 h_v_tried h_v_stands h_v_found h_v_foundOn h_v_foundIncome h_v_foundMoves hg
  unfold g_X6_compares_142 at hg
  unfold f_X6_compares_142
  refine lI (LI_eq h_v_foundIncome (LI_n (x := -1) rfl)) hg (fun hc hg => ?_) (fun hc hg => ?_)
  · obtain ⟨R, hR, c0, c1, c2, c3, c4, c5, c6, c7, c8, c9, c10, c11, c12, c13, c14, c15, c16, c17, c18, c19, c20, c21, c22, c23, c24, c25, c26, c27⟩ := l_X6_compares_156 _ _ _ _ _ _ _ _ _ _ _ _ h_x1 h_x2 h_v_tried h_v_stands h_v_found h_v_foundOn h_v_foundIncome h_v_foundMoves hg
    exact ⟨R, hR, c0, c1, c2, c3, c4, c5, c6, c7, c8, c9, c10, c11, c12, c13, c14, c15, c16, c17, c18, c19, c20, c21, c22, c23, c24, c25, c26, c27⟩
  · refine lI (LI_eq h_t0 (LI_n (x := 0) rfl)) hg (fun hc hg => ?_) (fun hc hg => ?_)
    · obtain ⟨R, hR, c0, c1, c2, c3, c4, c5, c6, c7, c8, c9, c10, c11, c12, c13, c14, c15, c16, c17, c18, c19, c20, c21, c22, c23, c24, c25, c26, c27⟩ := l_X6_compares_156 _ _ _ _ _ _ _ _ _ _ _ _ h_x1 h_x2 h_v_tried h_v_stands h_v_found h_v_foundOn h_v_foundIncome h_v_foundMoves hg
      exact ⟨R, hR, c0, c1, c2, c3, c4, c5, c6, c7, c8, c9, c10, c11, c12, c13, c14, c15, c16, c17, c18, c19, c20, c21, c22, c23, c24, c25, c26, c27⟩
    · cases hg
      exact ⟨_, rfl, h_v_found, h_v_foundOn, h_v_foundIncome, h_v_foundMoves, rfl, rfl, rfl, rfl, rfl, rfl, rfl, rfl, rfl, rfl, rfl, rfl, rfl, rfl, rfl, rfl, rfl, rfl, rfl, rfl, rfl, rfl, rfl, rfl⟩
set_option maxHeartbeats 4000000 in
set_option maxRecDepth 100000 in
theorem l_X6_compares_141 {n : Nat} : ∀ (Fx1 : Int32) (Fx2 : Int32) (x1 : Int) (x2 : Int) (Fv_tried : Nat → Int32) (Fv_stands : Nat → Int32) (Fv_found : Nat → Int32) (Fv_foundOn : Nat → Int32) (Fv_foundIncome : Int32) (Fv_foundMoves : Int32) (b_this : BX6) (r : BX6), LI Fx1 x1 → LI Fx2 x2 → LA Fv_tried (pX6_tried b_this) → LA Fv_stands (pX6_stands b_this) → LA Fv_found (pX6_found b_this) → LA Fv_foundOn (pX6_foundOn b_this) → LI Fv_foundIncome (pX6_foundIncome b_this) → LI Fv_foundMoves (pX6_foundMoves b_this) → g_X6_compares_141 n x1 x2 b_this = some r → ∃ R, f_X6_compares_141 n Fx1 Fx2 Fv_tried Fv_stands Fv_found Fv_foundOn Fv_foundIncome Fv_foundMoves = some R ∧ LA (R.1) (pX6_found r) ∧ LA (R.2.1) (pX6_foundOn r) ∧ LI (R.2.2.1) (pX6_foundIncome r) ∧ LI (R.2.2.2) (pX6_foundMoves r) ∧ (pX6_a r) = (pX6_a b_this) ∧ (pX6_fresh r) = (pX6_fresh b_this) ∧ (pX6_kept r) = (pX6_kept b_this) ∧ (pX6_keptMany r) = (pX6_keptMany b_this) ∧ (pX6_thrown r) = (pX6_thrown b_this) ∧ (pX6_buffer r) = (pX6_buffer b_this) ∧ (pX6_buffered r) = (pX6_buffered b_this) ∧ (pX6_size r) = (pX6_size b_this) ∧ (pX6_at r) = (pX6_at b_this) ∧ (pX6_behind r) = (pX6_behind b_this) ∧ (pX6_kind r) = (pX6_kind b_this) ∧ (pX6_wrong r) = (pX6_wrong b_this) ∧ (pX6_wrongAt r) = (pX6_wrongAt b_this) ∧ (pX6_errorAt r) = (pX6_errorAt b_this) ∧ (pX6_number r) = (pX6_number b_this) ∧ (pX6_best r) = (pX6_best b_this) ∧ (pX6_rentBy r) = (pX6_rentBy b_this) ∧ (pX6_bareBy r) = (pX6_bareBy b_this) ∧ (pX6_aheadBy r) = (pX6_aheadBy b_this) ∧ (pX6_isEdge r) = (pX6_isEdge b_this) ∧ (pX6_tried r) = (pX6_tried b_this) ∧ (pX6_stands r) = (pX6_stands b_this) ∧ (pX6_moving r) = (pX6_moving b_this) ∧ (pX6_movingMany r) = (pX6_movingMany b_this) := by
  intro Fx1 Fx2 x1 x2 Fv_tried Fv_stands Fv_found Fv_foundOn Fv_foundIncome Fv_foundMoves b_this r h_x1 h_x2 h_v_tried h_v_stands h_v_found h_v_foundOn h_v_foundIncome h_v_foundMoves hg
  unfold g_X6_compares_141 at hg
  unfold f_X6_compares_141
  obtain ⟨R, hR, c0, c1, c2, c3, c4, c5, c6, c7, c8, c9, c10, c11, c12, c13, c14, c15, c16, c17, c18, c19, c20, c21, c22, c23, c24, c25, c26, c27⟩ := l_X6_compares_142 _ _ _ _ _ _ _ _ _ _ _ _ _ _ (LI_n (x := 0) rfl) h_x1 h_x2 h_v_tried h_v_stands h_v_found h_v_foundOn h_v_foundIncome h_v_foundMoves hg
  exact ⟨R, hR, c0, c1, c2, c3, c4, c5, c6, c7, c8, c9, c10, c11, c12, c13, c14, c15, c16, c17, c18, c19, c20, c21, c22, c23, c24, c25, c26, c27⟩
set_option maxHeartbeats 4000000 in
set_option maxRecDepth 100000 in
theorem l_X6_compares_137 {n : Nat} : ∀ (Fx1 : Int32) (Fx2 : Int32) (x1 : Int) (x2 : Int) (Fv_tried : Nat → Int32) (Fv_stands : Nat → Int32) (Fv_found : Nat → Int32) (Fv_foundOn : Nat → Int32) (Fv_foundIncome : Int32) (Fv_foundMoves : Int32) (b_this : BX6) (r : BX6), LI Fx1 x1 → LI Fx2 x2 → LA Fv_tried (pX6_tried b_this) → LA Fv_stands (pX6_stands b_this) → LA Fv_found (pX6_found b_this) → LA Fv_foundOn (pX6_foundOn b_this) → LI Fv_foundIncome (pX6_foundIncome b_this) → LI Fv_foundMoves (pX6_foundMoves b_this) → g_X6_compares_137 n x1 x2 b_this = some r → ∃ R, f_X6_compares_137 n Fx1 Fx2 Fv_tried Fv_stands Fv_found Fv_foundOn Fv_foundIncome Fv_foundMoves = some R ∧ LA (R.1) (pX6_found r) ∧ LA (R.2.1) (pX6_foundOn r) ∧ LI (R.2.2.1) (pX6_foundIncome r) ∧ LI (R.2.2.2) (pX6_foundMoves r) ∧ (pX6_a r) = (pX6_a b_this) ∧ (pX6_fresh r) = (pX6_fresh b_this) ∧ (pX6_kept r) = (pX6_kept b_this) ∧ (pX6_keptMany r) = (pX6_keptMany b_this) ∧ (pX6_thrown r) = (pX6_thrown b_this) ∧ (pX6_buffer r) = (pX6_buffer b_this) ∧ (pX6_buffered r) = (pX6_buffered b_this) ∧ (pX6_size r) = (pX6_size b_this) ∧ (pX6_at r) = (pX6_at b_this) ∧ (pX6_behind r) = (pX6_behind b_this) ∧ (pX6_kind r) = (pX6_kind b_this) ∧ (pX6_wrong r) = (pX6_wrong b_this) ∧ (pX6_wrongAt r) = (pX6_wrongAt b_this) ∧ (pX6_errorAt r) = (pX6_errorAt b_this) ∧ (pX6_number r) = (pX6_number b_this) ∧ (pX6_best r) = (pX6_best b_this) ∧ (pX6_rentBy r) = (pX6_rentBy b_this) ∧ (pX6_bareBy r) = (pX6_bareBy b_this) ∧ (pX6_aheadBy r) = (pX6_aheadBy b_this) ∧ (pX6_isEdge r) = (pX6_isEdge b_this) ∧ (pX6_tried r) = (pX6_tried b_this) ∧ (pX6_stands r) = (pX6_stands b_this) ∧ (pX6_moving r) = (pX6_moving b_this) ∧ (pX6_movingMany r) = (pX6_movingMany b_this) := by
  intro Fx1 Fx2 x1 x2 Fv_tried Fv_stands Fv_found Fv_foundOn Fv_foundIncome Fv_foundMoves b_this r h_x1 h_x2 h_v_tried h_v_stands h_v_found h_v_foundOn h_v_foundIncome h_v_foundMoves hg
  unfold g_X6_compares_137 at hg
  unfold f_X6_compares_137
  obtain ⟨R, hR, c0, c1, c2, c3, c4, c5, c6, c7, c8, c9, c10, c11, c12, c13, c14, c15, c16, c17, c18, c19, c20, c21, c22, c23, c24, c25, c26, c27⟩ := l_X6_compares_142 _ _ _ _ _ _ _ _ _ _ _ _ _ _ (LI_n (x := 1) rfl) h_x1 h_x2 h_v_tried h_v_stands h_v_found h_v_foundOn h_v_foundIncome h_v_foundMoves hg
  exact ⟨R, hR, c0, c1, c2, c3, c4, c5, c6, c7, c8, c9, c10, c11, c12, c13, c14, c15, c16, c17, c18, c19, c20, c21, c22, c23, c24, c25, c26, c27⟩
set_option maxHeartbeats 4000000 in
set_option maxRecDepth 100000 in
theorem l_X6_compares_90 {n : Nat} {K14 : Int32 → Int32 → Int32 → (Nat → Int32) → (Nat → Int32) → (Nat → Int32) → (Nat → Int32) → (Nat → Int32) → Int32 → Int32 → Option ((Nat → Int32) × (Nat → Int32) × Int32 × Int32)} {k14 : Int → Int → Int → BX6 → Option (BX6)} (hk14 : ∀ (Fx1 : Int32) (Fx2 : Int32) (Fx3 : Int32) (x1 : Int) (x2 : Int) (x3 : Int) (Fv_a : Nat → Int32) (Fv_tried : Nat → Int32) (Fv_stands : Nat → Int32) (Fv_found : Nat → Int32) (Fv_foundOn : Nat → Int32) (Fv_foundIncome : Int32) (Fv_foundMoves : Int32) (b_this : BX6) (r : BX6), LI Fx1 x1 → LI Fx2 x2 → LI Fx3 x3 → LA Fv_a (pX6_a b_this) → LA Fv_tried (pX6_tried b_this) → LA Fv_stands (pX6_stands b_this) → LA Fv_found (pX6_found b_this) → LA Fv_foundOn (pX6_foundOn b_this) → LI Fv_foundIncome (pX6_foundIncome b_this) → LI Fv_foundMoves (pX6_foundMoves b_this) → k14 x1 x2 x3 b_this = some r → ∃ R, K14 Fx1 Fx2 Fx3 Fv_a Fv_tried Fv_stands Fv_found Fv_foundOn Fv_foundIncome Fv_foundMoves = some R ∧ LA (R.1) (pX6_found r) ∧ LA (R.2.1) (pX6_foundOn r) ∧ LI (R.2.2.1) (pX6_foundIncome r) ∧ LI (R.2.2.2) (pX6_foundMoves r) ∧ (pX6_a r) = (pX6_a b_this) ∧ (pX6_fresh r) = (pX6_fresh b_this) ∧ (pX6_kept r) = (pX6_kept b_this) ∧ (pX6_keptMany r) = (pX6_keptMany b_this) ∧ (pX6_thrown r) = (pX6_thrown b_this) ∧ (pX6_buffer r) = (pX6_buffer b_this) ∧ (pX6_buffered r) = (pX6_buffered b_this) ∧ (pX6_size r) = (pX6_size b_this) ∧ (pX6_at r) = (pX6_at b_this) ∧ (pX6_behind r) = (pX6_behind b_this) ∧ (pX6_kind r) = (pX6_kind b_this) ∧ (pX6_wrong r) = (pX6_wrong b_this) ∧ (pX6_wrongAt r) = (pX6_wrongAt b_this) ∧ (pX6_errorAt r) = (pX6_errorAt b_this) ∧ (pX6_number r) = (pX6_number b_this) ∧ (pX6_best r) = (pX6_best b_this) ∧ (pX6_rentBy r) = (pX6_rentBy b_this) ∧ (pX6_bareBy r) = (pX6_bareBy b_this) ∧ (pX6_aheadBy r) = (pX6_aheadBy b_this) ∧ (pX6_isEdge r) = (pX6_isEdge b_this) ∧ (pX6_tried r) = (pX6_tried b_this) ∧ (pX6_stands r) = (pX6_stands b_this) ∧ (pX6_moving r) = (pX6_moving b_this) ∧ (pX6_movingMany r) = (pX6_movingMany b_this)) : ∀ (Ft0 : Int32) (Ft1 : Int32) (Fx1 : Int32) (Fx3 : Int32) (t0 : Int) (t1 : Int) (x1 : Int) (x3 : Int) (Fv_a : Nat → Int32) (Fv_tried : Nat → Int32) (Fv_stands : Nat → Int32) (Fv_found : Nat → Int32) (Fv_foundOn : Nat → Int32) (Fv_foundIncome : Int32) (Fv_foundMoves : Int32) (b_this : BX6) (r : BX6), LI Ft0 t0 → LI Ft1 t1 → LI Fx1 x1 → LI Fx3 x3 → LA Fv_a (pX6_a b_this) → LA Fv_tried (pX6_tried b_this) → LA Fv_stands (pX6_stands b_this) → LA Fv_found (pX6_found b_this) → LA Fv_foundOn (pX6_foundOn b_this) → LI Fv_foundIncome (pX6_foundIncome b_this) → LI Fv_foundMoves (pX6_foundMoves b_this) → g_X6_compares_90 n k14 t0 t1 x1 x3 b_this = some r → ∃ R, f_X6_compares_90 n K14 Ft0 Ft1 Fx1 Fx3 Fv_a Fv_tried Fv_stands Fv_found Fv_foundOn Fv_foundIncome Fv_foundMoves = some R ∧ LA (R.1) (pX6_found r) ∧ LA (R.2.1) (pX6_foundOn r) ∧ LI (R.2.2.1) (pX6_foundIncome r) ∧ LI (R.2.2.2) (pX6_foundMoves r) ∧ (pX6_a r) = (pX6_a b_this) ∧ (pX6_fresh r) = (pX6_fresh b_this) ∧ (pX6_kept r) = (pX6_kept b_this) ∧ (pX6_keptMany r) = (pX6_keptMany b_this) ∧ (pX6_thrown r) = (pX6_thrown b_this) ∧ (pX6_buffer r) = (pX6_buffer b_this) ∧ (pX6_buffered r) = (pX6_buffered b_this) ∧ (pX6_size r) = (pX6_size b_this) ∧ (pX6_at r) = (pX6_at b_this) ∧ (pX6_behind r) = (pX6_behind b_this) ∧ (pX6_kind r) = (pX6_kind b_this) ∧ (pX6_wrong r) = (pX6_wrong b_this) ∧ (pX6_wrongAt r) = (pX6_wrongAt b_this) ∧ (pX6_errorAt r) = (pX6_errorAt b_this) ∧ (pX6_number r) = (pX6_number b_this) ∧ (pX6_best r) = (pX6_best b_this) ∧ (pX6_rentBy r) = (pX6_rentBy b_this) ∧ (pX6_bareBy r) = (pX6_bareBy b_this) ∧ (pX6_aheadBy r) = (pX6_aheadBy b_this) ∧ (pX6_isEdge r) = (pX6_isEdge b_this) ∧ (pX6_tried r) = (pX6_tried b_this) ∧ (pX6_stands r) = (pX6_stands b_this) ∧ (pX6_moving r) = (pX6_moving b_this) ∧ (pX6_movingMany r) = (pX6_movingMany b_this) := by
  intro Ft0 Ft1 Fx1 Fx3 t0 t1 x1 x3 Fv_a Fv_tried Fv_stands Fv_found Fv_foundOn Fv_foundIncome Fv_foundMoves b_this r h_t0 h_t1 h_x1 h_x3 h_v_a h_v_tried h_v_stands h_v_found h_v_foundOn h_v_foundIncome h_v_foundMoves hg
  unfold g_X6_compares_90 at hg
  unfold f_X6_compares_90
  refine lR hg (fun hr_7 hg => ?_)
  refine lL (LI_of (EI_add (EI_i h_t0) (EI_i h_t1)) hr_7) hg (fun Fy_7 y_7 h_y_7 hg => ?_)
  refine lR hg (fun hr_8 hg => ?_)
  obtain ⟨R, hR, c0, c1, c2, c3, c4, c5, c6, c7, c8, c9, c10, c11, c12, c13, c14, c15, c16, c17, c18, c19, c20, c21, c22, c23, c24, c25, c26, c27⟩ := hk14 _ _ _ _ _ _ _ _ _ _ _ _ _ _ _ h_x1 h_y_7 (LI_of (EI_add (EI_i h_x3) (EI_i (LI_n (x := 1) rfl))) hr_8) h_v_a h_v_tried h_v_stands h_v_found h_v_foundOn h_v_foundIncome h_v_foundMoves hg
  exact ⟨R, hR, c0, c1, c2, c3, c4, c5, c6, c7, c8, c9, c10, c11, c12, c13, c14, c15, c16, c17, c18, c19, c20, c21, c22, c23, c24, c25, c26, c27⟩
set_option maxHeartbeats 4000000 in
set_option maxRecDepth 100000 in
theorem l_X6_compares_89 {n : Nat} {K14 : Int32 → Int32 → Int32 → (Nat → Int32) → (Nat → Int32) → (Nat → Int32) → (Nat → Int32) → (Nat → Int32) → Int32 → Int32 → Option ((Nat → Int32) × (Nat → Int32) × Int32 × Int32)} {k14 : Int → Int → Int → BX6 → Option (BX6)} (hk14 : ∀ (Fx1 : Int32) (Fx2 : Int32) (Fx3 : Int32) (x1 : Int) (x2 : Int) (x3 : Int) (Fv_a : Nat → Int32) (Fv_tried : Nat → Int32) (Fv_stands : Nat → Int32) (Fv_found : Nat → Int32) (Fv_foundOn : Nat → Int32) (Fv_foundIncome : Int32) (Fv_foundMoves : Int32) (b_this : BX6) (r : BX6), LI Fx1 x1 → LI Fx2 x2 → LI Fx3 x3 → LA Fv_a (pX6_a b_this) → LA Fv_tried (pX6_tried b_this) → LA Fv_stands (pX6_stands b_this) → LA Fv_found (pX6_found b_this) → LA Fv_foundOn (pX6_foundOn b_this) → LI Fv_foundIncome (pX6_foundIncome b_this) → LI Fv_foundMoves (pX6_foundMoves b_this) → k14 x1 x2 x3 b_this = some r → ∃ R, K14 Fx1 Fx2 Fx3 Fv_a Fv_tried Fv_stands Fv_found Fv_foundOn Fv_foundIncome Fv_foundMoves = some R ∧ LA (R.1) (pX6_found r) ∧ LA (R.2.1) (pX6_foundOn r) ∧ LI (R.2.2.1) (pX6_foundIncome r) ∧ LI (R.2.2.2) (pX6_foundMoves r) ∧ (pX6_a r) = (pX6_a b_this) ∧ (pX6_fresh r) = (pX6_fresh b_this) ∧ (pX6_kept r) = (pX6_kept b_this) ∧ (pX6_keptMany r) = (pX6_keptMany b_this) ∧ (pX6_thrown r) = (pX6_thrown b_this) ∧ (pX6_buffer r) = (pX6_buffer b_this) ∧ (pX6_buffered r) = (pX6_buffered b_this) ∧ (pX6_size r) = (pX6_size b_this) ∧ (pX6_at r) = (pX6_at b_this) ∧ (pX6_behind r) = (pX6_behind b_this) ∧ (pX6_kind r) = (pX6_kind b_this) ∧ (pX6_wrong r) = (pX6_wrong b_this) ∧ (pX6_wrongAt r) = (pX6_wrongAt b_this) ∧ (pX6_errorAt r) = (pX6_errorAt b_this) ∧ (pX6_number r) = (pX6_number b_this) ∧ (pX6_best r) = (pX6_best b_this) ∧ (pX6_rentBy r) = (pX6_rentBy b_this) ∧ (pX6_bareBy r) = (pX6_bareBy b_this) ∧ (pX6_aheadBy r) = (pX6_aheadBy b_this) ∧ (pX6_isEdge r) = (pX6_isEdge b_this) ∧ (pX6_tried r) = (pX6_tried b_this) ∧ (pX6_stands r) = (pX6_stands b_this) ∧ (pX6_moving r) = (pX6_moving b_this) ∧ (pX6_movingMany r) = (pX6_movingMany b_this)) : ∀ (Ft0 : Int32) (Fx1 : Int32) (Fx3 : Int32) (t0 : Int) (x1 : Int) (x3 : Int) (Fv_a : Nat → Int32) (Fv_tried : Nat → Int32) (Fv_stands : Nat → Int32) (Fv_found : Nat → Int32) (Fv_foundOn : Nat → Int32) (Fv_foundIncome : Int32) (Fv_foundMoves : Int32) (b_this : BX6) (r : BX6), LI Ft0 t0 → LI Fx1 x1 → LI Fx3 x3 → LA Fv_a (pX6_a b_this) → LA Fv_tried (pX6_tried b_this) → LA Fv_stands (pX6_stands b_this) → LA Fv_found (pX6_found b_this) → LA Fv_foundOn (pX6_foundOn b_this) → LI Fv_foundIncome (pX6_foundIncome b_this) → LI Fv_foundMoves (pX6_foundMoves b_this) → g_X6_compares_89 n k14 t0 x1 x3 b_this = some r → ∃ R, f_X6_compares_89 n K14 Ft0 Fx1 Fx3 Fv_a Fv_tried Fv_stands Fv_found Fv_foundOn Fv_foundIncome Fv_foundMoves = some R ∧ LA (R.1) (pX6_found r) ∧ LA (R.2.1) (pX6_foundOn r) ∧ LI (R.2.2.1) (pX6_foundIncome r) ∧ LI (R.2.2.2) (pX6_foundMoves r) ∧ (pX6_a r) = (pX6_a b_this) ∧ (pX6_fresh r) = (pX6_fresh b_this) ∧ (pX6_kept r) = (pX6_kept b_this) ∧ (pX6_keptMany r) = (pX6_keptMany b_this) ∧ (pX6_thrown r) = (pX6_thrown b_this) ∧ (pX6_buffer r) = (pX6_buffer b_this) ∧ (pX6_buffered r) = (pX6_buffered b_this) ∧ (pX6_size r) = (pX6_size b_this) ∧ (pX6_at r) = (pX6_at b_this) ∧ (pX6_behind r) = (pX6_behind b_this) ∧ (pX6_kind r) = (pX6_kind b_this) ∧ (pX6_wrong r) = (pX6_wrong b_this) ∧ (pX6_wrongAt r) = (pX6_wrongAt b_this) ∧ (pX6_errorAt r) = (pX6_errorAt b_this) ∧ (pX6_number r) = (pX6_number b_this) ∧ (pX6_best r) = (pX6_best b_this) ∧ (pX6_rentBy r) = (pX6_rentBy b_this) ∧ (pX6_bareBy r) = (pX6_bareBy b_this) ∧ (pX6_aheadBy r) = (pX6_aheadBy b_this) ∧ (pX6_isEdge r) = (pX6_isEdge b_this) ∧ (pX6_tried r) = (pX6_tried b_this) ∧ (pX6_stands r) = (pX6_stands b_this) ∧ (pX6_moving r) = (pX6_moving b_this) ∧ (pX6_movingMany r) = (pX6_movingMany b_this) := by
  intro Ft0 Fx1 Fx3 t0 x1 x3 Fv_a Fv_tried Fv_stands Fv_found Fv_foundOn Fv_foundIncome Fv_foundMoves b_this r h_t0 h_x1 h_x3 h_v_a h_v_tried h_v_stands h_v_found h_v_foundOn h_v_foundIncome h_v_foundMoves hg
  unfold g_X6_compares_89 at hg
  unfold f_X6_compares_89
  obtain ⟨R, hR, c0, c1, c2, c3, c4, c5, c6, c7, c8, c9, c10, c11, c12, c13, c14, c15, c16, c17, c18, c19, c20, c21, c22, c23, c24, c25, c26, c27⟩ := l_X6_compares_90 hk14 _ _ _ _ _ _ _ _ _ _ _ _ _ _ _ _ _ h_t0 (LI_n (x := 0) rfl) h_x1 h_x3 h_v_a h_v_tried h_v_stands h_v_found h_v_foundOn h_v_foundIncome h_v_foundMoves hg
  exact ⟨R, hR, c0, c1, c2, c3, c4, c5, c6, c7, c8, c9, c10, c11, c12, c13, c14, c15, c16, c17, c18, c19, c20, c21, c22, c23, c24, c25, c26, c27⟩
set_option maxHeartbeats 4000000 in
set_option maxRecDepth 100000 in
theorem l_X6_compares_51 {n : Nat} {K14 : Int32 → Int32 → Int32 → (Nat → Int32) → (Nat → Int32) → (Nat → Int32) → (Nat → Int32) → (Nat → Int32) → Int32 → Int32 → Option ((Nat → Int32) × (Nat → Int32) × Int32 × Int32)} {k14 : Int → Int → Int → BX6 → Option (BX6)} (hk14 : ∀ (Fx1 : Int32) (Fx2 : Int32) (Fx3 : Int32) (x1 : Int) (x2 : Int) (x3 : Int) (Fv_a : Nat → Int32) (Fv_tried : Nat → Int32) (Fv_stands : Nat → Int32) (Fv_found : Nat → Int32) (Fv_foundOn : Nat → Int32) (Fv_foundIncome : Int32) (Fv_foundMoves : Int32) (b_this : BX6) (r : BX6), LI Fx1 x1 → LI Fx2 x2 → LI Fx3 x3 → LA Fv_a (pX6_a b_this) → LA Fv_tried (pX6_tried b_this) → LA Fv_stands (pX6_stands b_this) → LA Fv_found (pX6_found b_this) → LA Fv_foundOn (pX6_foundOn b_this) → LI Fv_foundIncome (pX6_foundIncome b_this) → LI Fv_foundMoves (pX6_foundMoves b_this) → k14 x1 x2 x3 b_this = some r → ∃ R, K14 Fx1 Fx2 Fx3 Fv_a Fv_tried Fv_stands Fv_found Fv_foundOn Fv_foundIncome Fv_foundMoves = some R ∧ LA (R.1) (pX6_found r) ∧ LA (R.2.1) (pX6_foundOn r) ∧ LI (R.2.2.1) (pX6_foundIncome r) ∧ LI (R.2.2.2) (pX6_foundMoves r) ∧ (pX6_a r) = (pX6_a b_this) ∧ (pX6_fresh r) = (pX6_fresh b_this) ∧ (pX6_kept r) = (pX6_kept b_this) ∧ (pX6_keptMany r) = (pX6_keptMany b_this) ∧ (pX6_thrown r) = (pX6_thrown b_this) ∧ (pX6_buffer r) = (pX6_buffer b_this) ∧ (pX6_buffered r) = (pX6_buffered b_this) ∧ (pX6_size r) = (pX6_size b_this) ∧ (pX6_at r) = (pX6_at b_this) ∧ (pX6_behind r) = (pX6_behind b_this) ∧ (pX6_kind r) = (pX6_kind b_this) ∧ (pX6_wrong r) = (pX6_wrong b_this) ∧ (pX6_wrongAt r) = (pX6_wrongAt b_this) ∧ (pX6_errorAt r) = (pX6_errorAt b_this) ∧ (pX6_number r) = (pX6_number b_this) ∧ (pX6_best r) = (pX6_best b_this) ∧ (pX6_rentBy r) = (pX6_rentBy b_this) ∧ (pX6_bareBy r) = (pX6_bareBy b_this) ∧ (pX6_aheadBy r) = (pX6_aheadBy b_this) ∧ (pX6_isEdge r) = (pX6_isEdge b_this) ∧ (pX6_tried r) = (pX6_tried b_this) ∧ (pX6_stands r) = (pX6_stands b_this) ∧ (pX6_moving r) = (pX6_moving b_this) ∧ (pX6_movingMany r) = (pX6_movingMany b_this)) : ∀ (Ft0 : Int32) (Ft1 : Int32) (Fx2 : Int32) (Fx3 : Int32) (t0 : Int) (t1 : Int) (x2 : Int) (x3 : Int) (Fv_a : Nat → Int32) (Fv_tried : Nat → Int32) (Fv_stands : Nat → Int32) (Fv_found : Nat → Int32) (Fv_foundOn : Nat → Int32) (Fv_foundIncome : Int32) (Fv_foundMoves : Int32) (b_this : BX6) (r : BX6), LI Ft0 t0 → LI Ft1 t1 → LI Fx2 x2 → LI Fx3 x3 → LA Fv_a (pX6_a b_this) → LA Fv_tried (pX6_tried b_this) → LA Fv_stands (pX6_stands b_this) → LA Fv_found (pX6_found b_this) → LA Fv_foundOn (pX6_foundOn b_this) → LI Fv_foundIncome (pX6_foundIncome b_this) → LI Fv_foundMoves (pX6_foundMoves b_this) → g_X6_compares_51 n k14 t0 t1 x2 x3 b_this = some r → ∃ R, f_X6_compares_51 n K14 Ft0 Ft1 Fx2 Fx3 Fv_a Fv_tried Fv_stands Fv_found Fv_foundOn Fv_foundIncome Fv_foundMoves = some R ∧ LA (R.1) (pX6_found r) ∧ LA (R.2.1) (pX6_foundOn r) ∧ LI (R.2.2.1) (pX6_foundIncome r) ∧ LI (R.2.2.2) (pX6_foundMoves r) ∧ (pX6_a r) = (pX6_a b_this) ∧ (pX6_fresh r) = (pX6_fresh b_this) ∧ (pX6_kept r) = (pX6_kept b_this) ∧ (pX6_keptMany r) = (pX6_keptMany b_this) ∧ (pX6_thrown r) = (pX6_thrown b_this) ∧ (pX6_buffer r) = (pX6_buffer b_this) ∧ (pX6_buffered r) = (pX6_buffered b_this) ∧ (pX6_size r) = (pX6_size b_this) ∧ (pX6_at r) = (pX6_at b_this) ∧ (pX6_behind r) = (pX6_behind b_this) ∧ (pX6_kind r) = (pX6_kind b_this) ∧ (pX6_wrong r) = (pX6_wrong b_this) ∧ (pX6_wrongAt r) = (pX6_wrongAt b_this) ∧ (pX6_errorAt r) = (pX6_errorAt b_this) ∧ (pX6_number r) = (pX6_number b_this) ∧ (pX6_best r) = (pX6_best b_this) ∧ (pX6_rentBy r) = (pX6_rentBy b_this) ∧ (pX6_bareBy r) = (pX6_bareBy b_this) ∧ (pX6_aheadBy r) = (pX6_aheadBy b_this) ∧ (pX6_isEdge r) = (pX6_isEdge b_this) ∧ (pX6_tried r) = (pX6_tried b_this) ∧ (pX6_stands r) = (pX6_stands b_this) ∧ (pX6_moving r) = (pX6_moving b_this) ∧ (pX6_movingMany r) = (pX6_movingMany b_this) := by
  intro Ft0 Ft1 Fx2 Fx3 t0 t1 x2 x3 Fv_a Fv_tried Fv_stands Fv_found Fv_foundOn Fv_foundIncome Fv_foundMoves b_this r h_t0 h_t1 h_x2 h_x3 h_v_a h_v_tried h_v_stands h_v_found h_v_foundOn h_v_foundIncome h_v_foundMoves hg
  unfold g_X6_compares_51 at hg
  unfold f_X6_compares_51
  refine lR hg (fun hr_9 hg => ?_)
  refine lL (LI_of (EI_add (EI_i h_t0) (EI_i h_t1)) hr_9) hg (fun Fy_8 y_8 h_y_8 hg => ?_)
  refine lA (EI_add (EI_i (LI_n (x := 107) rfl)) (EI_i h_x3)) rfl hg (fun ha_10 hg => ?_)
  refine lI (LI_eq (LA_at h_v_a (EI_add (EI_i (LI_n (x := 107) rfl)) (EI_i h_x3)) ha_10) (LI_n (x := -1) rfl)) hg (fun hc hg => ?_) (fun hc hg => ?_)
  · obtain ⟨R, hR, c0, c1, c2, c3, c4, c5, c6, c7, c8, c9, c10, c11, c12, c13, c14, c15, c16, c17, c18, c19, c20, c21, c22, c23, c24, c25, c26, c27⟩ := l_X6_compares_89 hk14 _ _ _ _ _ _ _ _ _ _ _ _ _ _ _ h_x2 h_y_8 h_x3 h_v_a h_v_tried h_v_stands h_v_found h_v_foundOn h_v_foundIncome h_v_foundMoves hg
    exact ⟨R, hR, c0, c1, c2, c3, c4, c5, c6, c7, c8, c9, c10, c11, c12, c13, c14, c15, c16, c17, c18, c19, c20, c21, c22, c23, c24, c25, c26, c27⟩
  · refine lA (EI_i h_x3) rfl hg (fun ha_11 hg => ?_)
    refine lA (EI_add (EI_i (LI_n (x := 107) rfl)) (EI_i h_x3)) rfl hg (fun ha_12 hg => ?_)
    refine lI (LI_eq (LA_at h_v_tried (EI_i h_x3) ha_11) (LA_at h_v_a (EI_add (EI_i (LI_n (x := 107) rfl)) (EI_i h_x3)) ha_12)) hg (fun hc hg => ?_) (fun hc hg => ?_)
    · obtain ⟨R, hR, c0, c1, c2, c3, c4, c5, c6, c7, c8, c9, c10, c11, c12, c13, c14, c15, c16, c17, c18, c19, c20, c21, c22, c23, c24, c25, c26, c27⟩ := l_X6_compares_89 hk14 _ _ _ _ _ _ _ _ _ _ _ _ _ _ _ h_x2 h_y_8 h_x3 h_v_a h_v_tried h_v_stands h_v_found h_v_foundOn h_v_foundIncome h_v_foundMoves hg
      exact ⟨R, hR, c0, c1, c2, c3, c4, c5, c6, c7, c8, c9, c10, c11, c12, c13, c14, c15, c16, c17, c18, c19, c20, c21, c22, c23, c24, c25, c26, c27⟩
    · obtain ⟨R, hR, c0, c1, c2, c3, c4, c5, c6, c7, c8, c9, c10, c11, c12, c13, c14, c15, c16, c17, c18, c19, c20, c21, c22, c23, c24, c25, c26, c27⟩ := l_X6_compares_90 hk14 _ _ _ _ _ _ _ _ _ _ _ _ _ _ _ _ _ h_x2 (LI_n (x := 1) rfl) h_y_8 h_x3 h_v_a h_v_tried h_v_stands h_v_found h_v_foundOn h_v_foundIncome h_v_foundMoves hg
      exact ⟨R, hR, c0, c1, c2, c3, c4, c5, c6, c7, c8, c9, c10, c11, c12, c13, c14, c15, c16, c17, c18, c19, c20, c21, c22, c23, c24, c25, c26, c27⟩
set_option maxHeartbeats 4000000 in
set_option maxRecDepth 100000 in
theorem l_X6_compares_14 {n : Nat} : ∀ (fu : Nat), ∀ (Fx1 : Int32) (Fx2 : Int32) (Fx3 : Int32) (x1 : Int) (x2 : Int) (x3 : Int) (Fv_a : Nat → Int32) (Fv_tried : Nat → Int32) (Fv_stands : Nat → Int32) (Fv_found : Nat → Int32) (Fv_foundOn : Nat → Int32) (Fv_foundIncome : Int32) (Fv_foundMoves : Int32) (b_this : BX6) (r : BX6), LI Fx1 x1 → LI Fx2 x2 → LI Fx3 x3 → LA Fv_a (pX6_a b_this) → LA Fv_tried (pX6_tried b_this) → LA Fv_stands (pX6_stands b_this) → LA Fv_found (pX6_found b_this) → LA Fv_foundOn (pX6_foundOn b_this) → LI Fv_foundIncome (pX6_foundIncome b_this) → LI Fv_foundMoves (pX6_foundMoves b_this) → g_X6_compares_14 n fu x1 x2 x3 b_this = some r → ∃ R, f_X6_compares_14 n fu Fx1 Fx2 Fx3 Fv_a Fv_tried Fv_stands Fv_found Fv_foundOn Fv_foundIncome Fv_foundMoves = some R ∧ LA (R.1) (pX6_found r) ∧ LA (R.2.1) (pX6_foundOn r) ∧ LI (R.2.2.1) (pX6_foundIncome r) ∧ LI (R.2.2.2) (pX6_foundMoves r) ∧ (pX6_a r) = (pX6_a b_this) ∧ (pX6_fresh r) = (pX6_fresh b_this) ∧ (pX6_kept r) = (pX6_kept b_this) ∧ (pX6_keptMany r) = (pX6_keptMany b_this) ∧ (pX6_thrown r) = (pX6_thrown b_this) ∧ (pX6_buffer r) = (pX6_buffer b_this) ∧ (pX6_buffered r) = (pX6_buffered b_this) ∧ (pX6_size r) = (pX6_size b_this) ∧ (pX6_at r) = (pX6_at b_this) ∧ (pX6_behind r) = (pX6_behind b_this) ∧ (pX6_kind r) = (pX6_kind b_this) ∧ (pX6_wrong r) = (pX6_wrong b_this) ∧ (pX6_wrongAt r) = (pX6_wrongAt b_this) ∧ (pX6_errorAt r) = (pX6_errorAt b_this) ∧ (pX6_number r) = (pX6_number b_this) ∧ (pX6_best r) = (pX6_best b_this) ∧ (pX6_rentBy r) = (pX6_rentBy b_this) ∧ (pX6_bareBy r) = (pX6_bareBy b_this) ∧ (pX6_aheadBy r) = (pX6_aheadBy b_this) ∧ (pX6_isEdge r) = (pX6_isEdge b_this) ∧ (pX6_tried r) = (pX6_tried b_this) ∧ (pX6_stands r) = (pX6_stands b_this) ∧ (pX6_moving r) = (pX6_moving b_this) ∧ (pX6_movingMany r) = (pX6_movingMany b_this) := by
  intro fu
  induction fu with
  | zero => intro Fx1 Fx2 Fx3 x1 x2 x3 Fv_a Fv_tried Fv_stands Fv_found Fv_foundOn Fv_foundIncome Fv_foundMoves b_this r h_x1 h_x2 h_x3 h_v_a h_v_tried h_v_stands h_v_found h_v_foundOn h_v_foundIncome h_v_foundMoves hg; rw [g_X6_compares_14.eq_1] at hg; cases hg
  | succ fu ih =>
    intro Fx1 Fx2 Fx3 x1 x2 x3 Fv_a Fv_tried Fv_stands Fv_found Fv_foundOn Fv_foundIncome Fv_foundMoves b_this r h_x1 h_x2 h_x3 h_v_a h_v_tried h_v_stands h_v_found h_v_foundOn h_v_foundIncome h_v_foundMoves hg
    rw [g_X6_compares_14.eq_2] at hg
    rw [f_X6_compares_14.eq_2]
    refine lA (EI_i (LI_n (x := 74) rfl)) rfl hg (fun ha_13 hg => ?_)
    refine lI (LI_le (LA_at h_v_a (EI_i (LI_n (x := 74) rfl)) ha_13) h_x3) hg (fun hc hg => ?_) (fun hc hg => ?_)
    · refine lI (LI_lt h_x1 h_v_foundIncome) hg (fun hc hg => ?_) (fun hc hg => ?_)
      · obtain ⟨R, hR, c0, c1, c2, c3, c4, c5, c6, c7, c8, c9, c10, c11, c12, c13, c14, c15, c16, c17, c18, c19, c20, c21, c22, c23, c24, c25, c26, c27⟩ := l_X6_compares_137 _ _ _ _ _ _ _ _ _ _ _ _ h_x1 h_x2 h_v_tried h_v_stands h_v_found h_v_foundOn h_v_foundIncome h_v_foundMoves hg
        exact ⟨R, hR, c0, c1, c2, c3, c4, c5, c6, c7, c8, c9, c10, c11, c12, c13, c14, c15, c16, c17, c18, c19, c20, c21, c22, c23, c24, c25, c26, c27⟩
      · refine lI (LI_eq h_x1 h_v_foundIncome) hg (fun hc hg => ?_) (fun hc hg => ?_)
        · refine lI (LI_lt h_v_foundMoves h_x2) hg (fun hc hg => ?_) (fun hc hg => ?_)
          · obtain ⟨R, hR, c0, c1, c2, c3, c4, c5, c6, c7, c8, c9, c10, c11, c12, c13, c14, c15, c16, c17, c18, c19, c20, c21, c22, c23, c24, c25, c26, c27⟩ := l_X6_compares_137 _ _ _ _ _ _ _ _ _ _ _ _ h_x1 h_x2 h_v_tried h_v_stands h_v_found h_v_foundOn h_v_foundIncome h_v_foundMoves hg
            exact ⟨R, hR, c0, c1, c2, c3, c4, c5, c6, c7, c8, c9, c10, c11, c12, c13, c14, c15, c16, c17, c18, c19, c20, c21, c22, c23, c24, c25, c26, c27⟩
          · refine lI (LI_eq h_x2 h_v_foundMoves) hg (fun hc hg => ?_) (fun hc hg => ?_)
            · refine lB_1_1 (fun r hr => l_X6_isAhead  _ _ _ _ r h_v_a h_v_stands h_v_foundOn hr) hg (fun Fr_13 r_13 hq hg => ?_)
              obtain ⟨q_14⟩ := hq
              refine lI (LI_eq q_14 (LI_n (x := 0) rfl)) hg (fun hc hg => ?_) (fun hc hg => ?_)
              · obtain ⟨R, hR, c0, c1, c2, c3, c4, c5, c6, c7, c8, c9, c10, c11, c12, c13, c14, c15, c16, c17, c18, c19, c20, c21, c22, c23, c24, c25, c26, c27⟩ := l_X6_compares_137 _ _ _ _ _ _ _ _ _ _ _ _ h_x1 h_x2 h_v_tried h_v_stands h_v_found h_v_foundOn h_v_foundIncome h_v_foundMoves hg
                exact ⟨R, hR, c0, c1, c2, c3, c4, c5, c6, c7, c8, c9, c10, c11, c12, c13, c14, c15, c16, c17, c18, c19, c20, c21, c22, c23, c24, c25, c26, c27⟩
              · obtain ⟨R, hR, c0, c1, c2, c3, c4, c5, c6, c7, c8, c9, c10, c11, c12, c13, c14, c15, c16, c17, c18, c19, c20, c21, c22, c23, c24, c25, c26, c27⟩ := l_X6_compares_141 _ _ _ _ _ _ _ _ _ _ _ _ h_x1 h_x2 h_v_tried h_v_stands h_v_found h_v_foundOn h_v_foundIncome h_v_foundMoves hg
                exact ⟨R, hR, c0, c1, c2, c3, c4, c5, c6, c7, c8, c9, c10, c11, c12, c13, c14, c15, c16, c17, c18, c19, c20, c21, c22, c23, c24, c25, c26, c27⟩
            · obtain ⟨R, hR, c0, c1, c2, c3, c4, c5, c6, c7, c8, c9, c10, c11, c12, c13, c14, c15, c16, c17, c18, c19, c20, c21, c22, c23, c24, c25, c26, c27⟩ := l_X6_compares_141 _ _ _ _ _ _ _ _ _ _ _ _ h_x1 h_x2 h_v_tried h_v_stands h_v_found h_v_foundOn h_v_foundIncome h_v_foundMoves hg
              exact ⟨R, hR, c0, c1, c2, c3, c4, c5, c6, c7, c8, c9, c10, c11, c12, c13, c14, c15, c16, c17, c18, c19, c20, c21, c22, c23, c24, c25, c26, c27⟩
        · obtain ⟨R, hR, c0, c1, c2, c3, c4, c5, c6, c7, c8, c9, c10, c11, c12, c13, c14, c15, c16, c17, c18, c19, c20, c21, c22, c23, c24, c25, c26, c27⟩ := l_X6_compares_141 _ _ _ _ _ _ _ _ _ _ _ _ h_x1 h_x2 h_v_tried h_v_stands h_v_found h_v_foundOn h_v_foundIncome h_v_foundMoves hg
          exact ⟨R, hR, c0, c1, c2, c3, c4, c5, c6, c7, c8, c9, c10, c11, c12, c13, c14, c15, c16, c17, c18, c19, c20, c21, c22, c23, c24, c25, c26, c27⟩
    · refine lA (EI_i h_x3) rfl hg (fun ha_15 hg => ?_)
      refine lI (LI_eq (LA_at h_v_tried (EI_i h_x3) ha_15) (LI_n (x := -1) rfl)) hg (fun hc hg => ?_) (fun hc hg => ?_)
      · obtain ⟨R, hR, c0, c1, c2, c3, c4, c5, c6, c7, c8, c9, c10, c11, c12, c13, c14, c15, c16, c17, c18, c19, c20, c21, c22, c23, c24, c25, c26, c27⟩ := l_X6_compares_51 ih _ _ _ _ _ _ _ _ _ _ _ _ _ _ _ _ _ h_x1 (LI_n (x := 0) rfl) h_x2 h_x3 h_v_a h_v_tried h_v_stands h_v_found h_v_foundOn h_v_foundIncome h_v_foundMoves hg
        exact ⟨R, hR, c0, c1, c2, c3, c4, c5, c6, c7, c8, c9, c10, c11, c12, c13, c14, c15, c16, c17, c18, c19, c20, c21, c22, c23, c24, c25, c26, c27⟩
      · refine lA (EI_i h_x3) rfl hg (fun ha_16 hg => ?_)
        refine lB_1_1 (fun r hr => l_X6_rentOf  _ _ _ _ _ _ r h_x3 (LA_at h_v_tried (EI_i h_x3) ha_16) h_v_a hr) hg (fun Fr_17 r_17 hq hg => ?_)
        obtain ⟨q_17⟩ := hq
        obtain ⟨R, hR, c0, c1, c2, c3, c4, c5, c6, c7, c8, c9, c10, c11, c12, c13, c14, c15, c16, c17, c18, c19, c20, c21, c22, c23, c24, c25, c26, c27⟩ := l_X6_compares_51 ih _ _ _ _ _ _ _ _ _ _ _ _ _ _ _ _ _ h_x1 q_17 h_x2 h_x3 h_v_a h_v_tried h_v_stands h_v_found h_v_foundOn h_v_foundIncome h_v_foundMoves hg
        exact ⟨R, hR, c0, c1, c2, c3, c4, c5, c6, c7, c8, c9, c10, c11, c12, c13, c14, c15, c16, c17, c18, c19, c20, c21, c22, c23, c24, c25, c26, c27⟩
set_option maxHeartbeats 4000000 in
set_option maxRecDepth 100000 in
theorem l_X6_compares {n : Nat} : ∀ (Fv_a : Nat → Int32) (Fv_tried : Nat → Int32) (Fv_stands : Nat → Int32) (Fv_found : Nat → Int32) (Fv_foundOn : Nat → Int32) (Fv_foundIncome : Int32) (Fv_foundMoves : Int32) (b_this : BX6) (r : BX6), LA Fv_a (pX6_a b_this) → LA Fv_tried (pX6_tried b_this) → LA Fv_stands (pX6_stands b_this) → LA Fv_found (pX6_found b_this) → LA Fv_foundOn (pX6_foundOn b_this) → LI Fv_foundIncome (pX6_foundIncome b_this) → LI Fv_foundMoves (pX6_foundMoves b_this) → g_X6_compares n b_this = some r → ∃ R, f_X6_compares n Fv_a Fv_tried Fv_stands Fv_found Fv_foundOn Fv_foundIncome Fv_foundMoves = some R ∧ LA (R.1) (pX6_found r) ∧ LA (R.2.1) (pX6_foundOn r) ∧ LI (R.2.2.1) (pX6_foundIncome r) ∧ LI (R.2.2.2) (pX6_foundMoves r) ∧ (pX6_a r) = (pX6_a b_this) ∧ (pX6_fresh r) = (pX6_fresh b_this) ∧ (pX6_kept r) = (pX6_kept b_this) ∧ (pX6_keptMany r) = (pX6_keptMany b_this) ∧ (pX6_thrown r) = (pX6_thrown b_this) ∧ (pX6_buffer r) = (pX6_buffer b_this) ∧ (pX6_buffered r) = (pX6_buffered b_this) ∧ (pX6_size r) = (pX6_size b_this) ∧ (pX6_at r) = (pX6_at b_this) ∧ (pX6_behind r) = (pX6_behind b_this) ∧ (pX6_kind r) = (pX6_kind b_this) ∧ (pX6_wrong r) = (pX6_wrong b_this) ∧ (pX6_wrongAt r) = (pX6_wrongAt b_this) ∧ (pX6_errorAt r) = (pX6_errorAt b_this) ∧ (pX6_number r) = (pX6_number b_this) ∧ (pX6_best r) = (pX6_best b_this) ∧ (pX6_rentBy r) = (pX6_rentBy b_this) ∧ (pX6_bareBy r) = (pX6_bareBy b_this) ∧ (pX6_aheadBy r) = (pX6_aheadBy b_this) ∧ (pX6_isEdge r) = (pX6_isEdge b_this) ∧ (pX6_tried r) = (pX6_tried b_this) ∧ (pX6_stands r) = (pX6_stands b_this) ∧ (pX6_moving r) = (pX6_moving b_this) ∧ (pX6_movingMany r) = (pX6_movingMany b_this) := by
  intro Fv_a Fv_tried Fv_stands Fv_found Fv_foundOn Fv_foundIncome Fv_foundMoves b_this r h_v_a h_v_tried h_v_stands h_v_found h_v_foundOn h_v_foundIncome h_v_foundMoves hg
  unfold g_X6_compares at hg
  unfold f_X6_compares
  refine lB_1_1 (fun r hr => l_X6_isSound  _ _ _ _ r h_v_a h_v_tried h_v_stands hr) hg (fun Fr_19 r_19 hq hg => ?_)
  obtain ⟨q_18⟩ := hq
  refine lI (LI_eq q_18 (LI_n (x := 0) rfl)) hg (fun hc hg => ?_) (fun hc hg => ?_)
  · cases hg
    exact ⟨_, rfl, h_v_found, h_v_foundOn, h_v_foundIncome, h_v_foundMoves, rfl, rfl, rfl, rfl, rfl, rfl, rfl, rfl, rfl, rfl, rfl, rfl, rfl, rfl, rfl, rfl, rfl, rfl, rfl, rfl, rfl, rfl, rfl, rfl⟩
  · obtain ⟨R, hR, c0, c1, c2, c3, c4, c5, c6, c7, c8, c9, c10, c11, c12, c13, c14, c15, c16, c17, c18, c19, c20, c21, c22, c23, c24, c25, c26, c27⟩ := l_X6_compares_14 n _ _ _ _ _ _ _ _ _ _ _ _ _ _ _ (LI_n (x := 0) rfl) (LI_n (x := 0) rfl) (LI_n (x := 0) rfl) h_v_a h_v_tried h_v_stands h_v_found h_v_foundOn h_v_foundIncome h_v_foundMoves hg
    exact ⟨R, hR, c0, c1, c2, c3, c4, c5, c6, c7, c8, c9, c10, c11, c12, c13, c14, c15, c16, c17, c18, c19, c20, c21, c22, c23, c24, c25, c26, c27⟩
set_option maxHeartbeats 4000000 in
set_option maxRecDepth 100000 in
theorem l_X6_isTrader : ∀ (Fx1 : Int32) (x1 : Int) (Fv_a : Nat → Int32) (b_this : BX6) (r : Int), LI Fx1 x1 → LA Fv_a (pX6_a b_this) → g_X6_isTrader b_this x1 = some r → ∃ R, f_X6_isTrader Fv_a Fx1 = some R ∧ LI R r := by
  intro Fx1 x1 Fv_a b_this r h_x1 h_v_a hg
  unfold g_X6_isTrader at hg
  unfold f_X6_isTrader
  refine lA (EI_i (LI_n (x := 74) rfl)) rfl hg (fun ha_1 hg => ?_)
  refine lR hg (fun hr_2 hg => ?_)
  refine lB_1_1 (fun r hr => l_X6_isIn  _ _ _ _ _ _ r (LJ_i h_x1) (LJ_n (x := 0) rfl) (LJ_i (LI_of (EI_sub (EI_i (LA_at h_v_a (EI_i (LI_n (x := 74) rfl)) ha_1)) (EI_i (LI_n (x := 1) rfl))) hr_2)) hr) hg (fun Fr_2 r_2 hq hg => ?_)
  obtain ⟨q_3⟩ := hq
  refine lG (LI_eq (LI_nar q_3) q_3) hg (fun hn_4 hg => ?_)
  cases hg
  exact ⟨_, rfl, q_3⟩
set_option maxHeartbeats 4000000 in
set_option maxRecDepth 100000 in
theorem l_X6_contribution_14 {n : Nat} : ∀ (Ft1 : Int32) (Fx1 : Int32) (t1 : Int) (x1 : Int) (Fv_a : Nat → Int32) (Fv_thrown : Int32) (Fv_best : Nat → Int32) (Fv_rentBy : Nat → Int32) (Fv_bareBy : Nat → Int32) (Fv_aheadBy : Nat → Int32) (b_this : BX6) (r : Int × BX6), LI Ft1 t1 → LI Fx1 x1 → LA Fv_a (pX6_a b_this) → LI Fv_thrown (pX6_thrown b_this) → LA Fv_best (pX6_best b_this) → LA Fv_rentBy (pX6_rentBy b_this) → LA Fv_bareBy (pX6_bareBy b_this) → LA Fv_aheadBy (pX6_aheadBy b_this) → g_X6_contribution_14 n t1 x1 b_this = some r → ∃ R, f_X6_contribution_14 n Ft1 Fx1 Fv_a Fv_thrown Fv_best Fv_rentBy Fv_bareBy Fv_aheadBy = some R ∧ LI (R.1) (r.1) ∧ LI (R.2.1) (pX6_thrown (r.2)) ∧ LA (R.2.2.1) (pX6_best (r.2)) ∧ LA (R.2.2.2.1) (pX6_rentBy (r.2)) ∧ LA (R.2.2.2.2.1) (pX6_bareBy (r.2)) ∧ LA (R.2.2.2.2.2) (pX6_aheadBy (r.2)) ∧ (pX6_a (r.2)) = (pX6_a b_this) ∧ (pX6_fresh (r.2)) = (pX6_fresh b_this) ∧ (pX6_kept (r.2)) = (pX6_kept b_this) ∧ (pX6_keptMany (r.2)) = (pX6_keptMany b_this) ∧ (pX6_buffer (r.2)) = (pX6_buffer b_this) ∧ (pX6_buffered (r.2)) = (pX6_buffered b_this) ∧ (pX6_size (r.2)) = (pX6_size b_this) ∧ (pX6_at (r.2)) = (pX6_at b_this) ∧ (pX6_behind (r.2)) = (pX6_behind b_this) ∧ (pX6_kind (r.2)) = (pX6_kind b_this) ∧ (pX6_wrong (r.2)) = (pX6_wrong b_this) ∧ (pX6_wrongAt (r.2)) = (pX6_wrongAt b_this) ∧ (pX6_errorAt (r.2)) = (pX6_errorAt b_this) ∧ (pX6_number (r.2)) = (pX6_number b_this) ∧ (pX6_isEdge (r.2)) = (pX6_isEdge b_this) ∧ (pX6_tried (r.2)) = (pX6_tried b_this) ∧ (pX6_stands (r.2)) = (pX6_stands b_this) ∧ (pX6_found (r.2)) = (pX6_found b_this) ∧ (pX6_foundOn (r.2)) = (pX6_foundOn b_this) ∧ (pX6_moving (r.2)) = (pX6_moving b_this) ∧ (pX6_movingMany (r.2)) = (pX6_movingMany b_this) ∧ (pX6_foundIncome (r.2)) = (pX6_foundIncome b_this) ∧ (pX6_foundMoves (r.2)) = (pX6_foundMoves b_this) := by
  intro Ft1 Fx1 t1 x1 Fv_a Fv_thrown Fv_best Fv_rentBy Fv_bareBy Fv_aheadBy b_this r h_t1 h_x1 h_v_a h_v_thrown h_v_best h_v_rentBy h_v_bareBy h_v_aheadBy hg
  unfold g_X6_contribution_14 at hg
  unfold f_X6_contribution_14
  refine lI (LI_le h_t1 (LI_n (x := 0) rfl)) hg (fun hc hg => ?_) (fun hc hg => ?_)
  · refine lA (EI_i (LI_n (x := 179) rfl)) rfl hg (fun ha_1 hg => ?_)
    refine lB_5_2 (fun r hr => l_X6_plans  _ _ _ _ _ _ _ _ r (LA_at h_v_a (EI_i (LI_n (x := 179) rfl)) ha_1) h_v_a h_v_best h_v_rentBy h_v_bareBy h_v_aheadBy hr) hg (fun Fr_2 Fv_3 Fv_4 Fv_5 Fv_6 r_2 b_2 hq hg => ?_)
    obtain ⟨q_3, q_4, q_5, q_6, q_7, q_8, q_9, q_10, q_11, q_12, q_13, q_14, q_15, q_16, q_17, q_18, q_19, q_20, q_21, q_22, q_23, q_24, q_25, q_26, q_27, q_28, q_29, q_30, q_31⟩ := hq
    have hl_32 := (LA_cg q_8 h_v_a)
    have hl_33 := (LI_cg q_12 h_t1)
    refine lA (EI_i (LI_n (x := 179) rfl)) rfl hg (fun ha_34 hg => ?_)
    refine lB_1_1 (fun r hr => l_X6_at  _ _ _ _ _ _ _ _ r (LI_n (x := 0) rfl) (LI_shl (LI_n (x := 1) rfl) h_x1) (LI_n (x := 8) rfl) (LA_at hl_32 (EI_i (LI_n (x := 179) rfl)) ha_34) hr) hg (fun Fr_9 r_9 hq hg => ?_)
    obtain ⟨q_35⟩ := hq
    refine lA (EI_i q_35) rfl hg (fun ha_36 hg => ?_)
    refine lD hg (fun hd_37 hg => ?_)
    refine lR hg (fun hr_38 hg => ?_)
    cases hg
    exact ⟨_, rfl, (LI_of (EI_sub (EI_i q_3) (EI_div (LA_at q_4 (EI_i q_35) ha_36) (LI_n (x := 16) rfl) hd_37)) hr_38), hl_33, q_4, q_5, q_6, q_7, q_8, q_9, q_10, q_11, q_13, q_14, q_15, q_16, q_17, q_18, q_19, q_20, q_21, q_22, q_23, q_24, q_25, q_26, q_27, q_28, q_29, q_30, q_31⟩
  · cases hg
    exact ⟨_, rfl, (LI_n (x := 0) rfl), h_t1, h_v_best, h_v_rentBy, h_v_bareBy, h_v_aheadBy, rfl, rfl, rfl, rfl, rfl, rfl, rfl, rfl, rfl, rfl, rfl, rfl, rfl, rfl, rfl, rfl, rfl, rfl, rfl, rfl, rfl, rfl, rfl⟩
set_option maxHeartbeats 4000000 in
set_option maxRecDepth 100000 in
theorem l_X6_contribution {n : Nat} : ∀ (Fx1 : Int32) (x1 : Int) (Fv_a : Nat → Int32) (Fv_thrown : Int32) (Fv_best : Nat → Int32) (Fv_rentBy : Nat → Int32) (Fv_bareBy : Nat → Int32) (Fv_aheadBy : Nat → Int32) (b_this : BX6) (r : Int × BX6), LI Fx1 x1 → LA Fv_a (pX6_a b_this) → LI Fv_thrown (pX6_thrown b_this) → LA Fv_best (pX6_best b_this) → LA Fv_rentBy (pX6_rentBy b_this) → LA Fv_bareBy (pX6_bareBy b_this) → LA Fv_aheadBy (pX6_aheadBy b_this) → g_X6_contribution n b_this x1 = some r → ∃ R, f_X6_contribution n Fv_a Fv_thrown Fv_best Fv_rentBy Fv_bareBy Fv_aheadBy Fx1 = some R ∧ LI (R.1) (r.1) ∧ LI (R.2.1) (pX6_thrown (r.2)) ∧ LA (R.2.2.1) (pX6_best (r.2)) ∧ LA (R.2.2.2.1) (pX6_rentBy (r.2)) ∧ LA (R.2.2.2.2.1) (pX6_bareBy (r.2)) ∧ LA (R.2.2.2.2.2) (pX6_aheadBy (r.2)) ∧ (pX6_a (r.2)) = (pX6_a b_this) ∧ (pX6_fresh (r.2)) = (pX6_fresh b_this) ∧ (pX6_kept (r.2)) = (pX6_kept b_this) ∧ (pX6_keptMany (r.2)) = (pX6_keptMany b_this) ∧ (pX6_buffer (r.2)) = (pX6_buffer b_this) ∧ (pX6_buffered (r.2)) = (pX6_buffered b_this) ∧ (pX6_size (r.2)) = (pX6_size b_this) ∧ (pX6_at (r.2)) = (pX6_at b_this) ∧ (pX6_behind (r.2)) = (pX6_behind b_this) ∧ (pX6_kind (r.2)) = (pX6_kind b_this) ∧ (pX6_wrong (r.2)) = (pX6_wrong b_this) ∧ (pX6_wrongAt (r.2)) = (pX6_wrongAt b_this) ∧ (pX6_errorAt (r.2)) = (pX6_errorAt b_this) ∧ (pX6_number (r.2)) = (pX6_number b_this) ∧ (pX6_isEdge (r.2)) = (pX6_isEdge b_this) ∧ (pX6_tried (r.2)) = (pX6_tried b_this) ∧ (pX6_stands (r.2)) = (pX6_stands b_this) ∧ (pX6_found (r.2)) = (pX6_found b_this) ∧ (pX6_foundOn (r.2)) = (pX6_foundOn b_this) ∧ (pX6_moving (r.2)) = (pX6_moving b_this) ∧ (pX6_movingMany (r.2)) = (pX6_movingMany b_this) ∧ (pX6_foundIncome (r.2)) = (pX6_foundIncome b_this) ∧ (pX6_foundMoves (r.2)) = (pX6_foundMoves b_this) := by
  intro Fx1 x1 Fv_a Fv_thrown Fv_best Fv_rentBy Fv_bareBy Fv_aheadBy b_this r h_x1 h_v_a h_v_thrown h_v_best h_v_rentBy h_v_bareBy h_v_aheadBy hg
  unfold g_X6_contribution at hg
  unfold f_X6_contribution
  refine lB_1_1 (fun r hr => l_X6_isTrader  _ _ _ _ r h_x1 h_v_a hr) hg (fun Fr_12 r_12 hq hg => ?_)
  obtain ⟨q_39⟩ := hq
  refine lI (LI_eq q_39 (LI_n (x := 0) rfl)) hg (fun hc hg => ?_) (fun hc hg => ?_)
  · obtain ⟨R, hR, c0, c1, c2, c3, c4, c5, c6, c7, c8, c9, c10, c11, c12, c13, c14, c15, c16, c17, c18, c19, c20, c21, c22, c23, c24, c25, c26, c27, c28⟩ := l_X6_contribution_14 _ _ _ _ _ _ _ _ _ _ _ _ (LI_n (x := 1) rfl) h_x1 h_v_a h_v_thrown h_v_best h_v_rentBy h_v_bareBy h_v_aheadBy hg
    exact ⟨R, hR, c0, c1, c2, c3, c4, c5, c6, c7, c8, c9, c10, c11, c12, c13, c14, c15, c16, c17, c18, c19, c20, c21, c22, c23, c24, c25, c26, c27, c28⟩
  · obtain ⟨R, hR, c0, c1, c2, c3, c4, c5, c6, c7, c8, c9, c10, c11, c12, c13, c14, c15, c16, c17, c18, c19, c20, c21, c22, c23, c24, c25, c26, c27, c28⟩ := l_X6_contribution_14 _ _ _ _ _ _ _ _ _ _ _ _ (LI_n (x := 0) rfl) h_x1 h_v_a h_v_thrown h_v_best h_v_rentBy h_v_bareBy h_v_aheadBy hg
    exact ⟨R, hR, c0, c1, c2, c3, c4, c5, c6, c7, c8, c9, c10, c11, c12, c13, c14, c15, c16, c17, c18, c19, c20, c21, c22, c23, c24, c25, c26, c27, c28⟩
set_option maxHeartbeats 4000000 in
set_option maxRecDepth 100000 in
theorem l_X6_coverValue {n : Nat} : ∀ (Fv_a : Nat → Int32) (Fv_thrown : Int32) (Fv_best : Nat → Int32) (Fv_rentBy : Nat → Int32) (Fv_bareBy : Nat → Int32) (Fv_aheadBy : Nat → Int32) (b_this : BX6) (r : Int × BX6), LA Fv_a (pX6_a b_this) → LI Fv_thrown (pX6_thrown b_this) → LA Fv_best (pX6_best b_this) → LA Fv_rentBy (pX6_rentBy b_this) → LA Fv_bareBy (pX6_bareBy b_this) → LA Fv_aheadBy (pX6_aheadBy b_this) → g_X6_coverValue n b_this = some r → ∃ R, f_X6_coverValue n Fv_a Fv_thrown Fv_best Fv_rentBy Fv_bareBy Fv_aheadBy = some R ∧ LI (R.1) (r.1) ∧ LI (R.2.1) (pX6_thrown (r.2)) ∧ LA (R.2.2.1) (pX6_best (r.2)) ∧ LA (R.2.2.2.1) (pX6_rentBy (r.2)) ∧ LA (R.2.2.2.2.1) (pX6_bareBy (r.2)) ∧ LA (R.2.2.2.2.2) (pX6_aheadBy (r.2)) ∧ (pX6_a (r.2)) = (pX6_a b_this) ∧ (pX6_fresh (r.2)) = (pX6_fresh b_this) ∧ (pX6_kept (r.2)) = (pX6_kept b_this) ∧ (pX6_keptMany (r.2)) = (pX6_keptMany b_this) ∧ (pX6_buffer (r.2)) = (pX6_buffer b_this) ∧ (pX6_buffered (r.2)) = (pX6_buffered b_this) ∧ (pX6_size (r.2)) = (pX6_size b_this) ∧ (pX6_at (r.2)) = (pX6_at b_this) ∧ (pX6_behind (r.2)) = (pX6_behind b_this) ∧ (pX6_kind (r.2)) = (pX6_kind b_this) ∧ (pX6_wrong (r.2)) = (pX6_wrong b_this) ∧ (pX6_wrongAt (r.2)) = (pX6_wrongAt b_this) ∧ (pX6_errorAt (r.2)) = (pX6_errorAt b_this) ∧ (pX6_number (r.2)) = (pX6_number b_this) ∧ (pX6_isEdge (r.2)) = (pX6_isEdge b_this) ∧ (pX6_tried (r.2)) = (pX6_tried b_this) ∧ (pX6_stands (r.2)) = (pX6_stands b_this) ∧ (pX6_found (r.2)) = (pX6_found b_this) ∧ (pX6_foundOn (r.2)) = (pX6_foundOn b_this) ∧ (pX6_moving (r.2)) = (pX6_moving b_this) ∧ (pX6_movingMany (r.2)) = (pX6_movingMany b_this) ∧ (pX6_foundIncome (r.2)) = (pX6_foundIncome b_this) ∧ (pX6_foundMoves (r.2)) = (pX6_foundMoves b_this) := by
  intro Fv_a Fv_thrown Fv_best Fv_rentBy Fv_bareBy Fv_aheadBy b_this r h_v_a h_v_thrown h_v_best h_v_rentBy h_v_bareBy h_v_aheadBy hg
  unfold g_X6_coverValue at hg
  unfold f_X6_coverValue
  refine lA (EI_i (LI_n (x := 179) rfl)) rfl hg (fun ha_1 hg => ?_)
  refine lB_5_2 (fun r hr => l_X6_plans  _ _ _ _ _ _ _ _ r (LA_at h_v_a (EI_i (LI_n (x := 179) rfl)) ha_1) h_v_a h_v_best h_v_rentBy h_v_bareBy h_v_aheadBy hr) hg (fun Fr_2 Fv_3 Fv_4 Fv_5 Fv_6 r_2 b_2 hq hg => ?_)
  obtain ⟨q_3, q_4, q_5, q_6, q_7, q_8, q_9, q_10, q_11, q_12, q_13, q_14, q_15, q_16, q_17, q_18, q_19, q_20, q_21, q_22, q_23, q_24, q_25, q_26, q_27, q_28, q_29, q_30, q_31⟩ := hq
  have hl_32 := (LA_cg q_8 h_v_a)
  have hl_33 := (LI_cg q_12 (LI_n (x := 0) rfl))
  refine lA (EI_i (LI_n (x := 179) rfl)) rfl hg (fun ha_34 hg => ?_)
  refine lR hg (fun hr_35 hg => ?_)
  refine lB_5_2 (fun r hr => l_X6_plans  _ _ _ _ _ _ _ _ r (LI_of (EI_add (EI_i (LA_at hl_32 (EI_i (LI_n (x := 179) rfl)) ha_34)) (EI_i (LI_n (x := 1) rfl))) hr_35) hl_32 q_4 q_5 q_6 q_7 hr) hg (fun Fr_9 Fv_10 Fv_11 Fv_12 Fv_13 r_9 b_36 hq hg => ?_)
  obtain ⟨q_37, q_38, q_39, q_40, q_41, q_42, q_43, q_44, q_45, q_46, q_47, q_48, q_49, q_50, q_51, q_52, q_53, q_54, q_55, q_56, q_57, q_58, q_59, q_60, q_61, q_62, q_63, q_64, q_65⟩ := hq
  have hl_66 := (LA_cg q_42 hl_32)
  have hl_67 := (LI_cg q_46 hl_33)
  refine lR hg (fun hr_68 hg => ?_)
  cases hg
  exact ⟨_, rfl, (LI_of (EI_sub (EI_i q_37) (EI_i q_3)) hr_68), hl_67, q_38, q_39, q_40, q_41, (Eq.trans q_42 q_8), (Eq.trans q_43 q_9), (Eq.trans q_44 q_10), (Eq.trans q_45 q_11), (Eq.trans q_47 q_13), (Eq.trans q_48 q_14), (Eq.trans q_49 q_15), (Eq.trans q_50 q_16), (Eq.trans q_51 q_17), (Eq.trans q_52 q_18), (Eq.trans q_53 q_19), (Eq.trans q_54 q_20), (Eq.trans q_55 q_21), (Eq.trans q_56 q_22), (Eq.trans q_57 q_23), (Eq.trans q_58 q_24), (Eq.trans q_59 q_25), (Eq.trans q_60 q_26), (Eq.trans q_61 q_27), (Eq.trans q_62 q_28), (Eq.trans q_63 q_29), (Eq.trans q_64 q_30), (Eq.trans q_65 q_31)⟩
set_option maxHeartbeats 4000000 in
set_option maxRecDepth 100000 in
theorem l_X6_usedCovers_47 {n : Nat} {K4 : Int32 → Int32 → (Nat → Int32) → Option (Int32)} {k4 : Int → Int → BX6 → Option (Int)} (hk4 : ∀ (Fx1 : Int32) (Fx2 : Int32) (x1 : Int) (x2 : Int) (Fv_a : Nat → Int32) (b_this : BX6) (r : Int), LI Fx1 x1 → LI Fx2 x2 → LA Fv_a (pX6_a b_this) → k4 x1 x2 b_this = some r → ∃ R, K4 Fx1 Fx2 Fv_a = some R ∧ LI R r) : ∀ (Ft0 : Int32) (Ft1 : Int32) (Fx2 : Int32) (t0 : Int) (t1 : Int) (x2 : Int) (Fv_a : Nat → Int32) (b_this : BX6) (r : Int), LI Ft0 t0 → LI Ft1 t1 → LI Fx2 x2 → LA Fv_a (pX6_a b_this) → g_X6_usedCovers_47 n k4 t0 t1 x2 b_this = some r → ∃ R, f_X6_usedCovers_47 n K4 Ft0 Ft1 Fx2 Fv_a = some R ∧ LI R r := by
  intro Ft0 Ft1 Fx2 t0 t1 x2 Fv_a b_this r h_t0 h_t1 h_x2 h_v_a hg
  unfold g_X6_usedCovers_47 at hg
  unfold f_X6_usedCovers_47
  refine lR hg (fun hr_1 hg => ?_)
  refine lL (LI_of (EI_add (EI_i h_t0) (EI_i h_t1)) hr_1) hg (fun Fy_1 y_1 h_y_1 hg => ?_)
  refine lR hg (fun hr_2 hg => ?_)
  obtain ⟨R, hR, c0⟩ := hk4 _ _ _ _ _ _ _ h_y_1 (LI_of (EI_add (EI_i h_x2) (EI_i (LI_n (x := 1) rfl))) hr_2) h_v_a hg
  exact ⟨R, hR, c0⟩
set_option maxHeartbeats 4000000 in
set_option maxRecDepth 100000 in
theorem l_X6_usedCovers_4 {n : Nat} : ∀ (fu : Nat), ∀ (Fx1 : Int32) (Fx2 : Int32) (x1 : Int) (x2 : Int) (Fv_a : Nat → Int32) (b_this : BX6) (r : Int), LI Fx1 x1 → LI Fx2 x2 → LA Fv_a (pX6_a b_this) → g_X6_usedCovers_4 n fu x1 x2 b_this = some r → ∃ R, f_X6_usedCovers_4 n fu Fx1 Fx2 Fv_a = some R ∧ LI R r := by
  intro fu
  induction fu with
  | zero => intro Fx1 Fx2 x1 x2 Fv_a b_this r h_x1 h_x2 h_v_a hg; rw [g_X6_usedCovers_4.eq_1] at hg; cases hg
  | succ fu ih =>
    intro Fx1 Fx2 x1 x2 Fv_a b_this r h_x1 h_x2 h_v_a hg
    rw [g_X6_usedCovers_4.eq_2] at hg
    rw [f_X6_usedCovers_4.eq_2]
    refine lA (EI_i (LI_n (x := 74) rfl)) rfl hg (fun ha_3 hg => ?_)
    refine lI (LI_le (LA_at h_v_a (EI_i (LI_n (x := 74) rfl)) ha_3) h_x2) hg (fun hc hg => ?_) (fun hc hg => ?_)
    · cases hg
      exact ⟨_, rfl, h_x1⟩
    · refine lA (EI_add (EI_i (LI_n (x := 107) rfl)) (EI_i h_x2)) rfl hg (fun ha_4 hg => ?_)
      refine lI (LI_eq (LA_at h_v_a (EI_add (EI_i (LI_n (x := 107) rfl)) (EI_i h_x2)) ha_4) (LI_n (x := -1) rfl)) hg (fun hc hg => ?_) (fun hc hg => ?_)
      · obtain ⟨R, hR, c0⟩ := l_X6_usedCovers_47 ih _ _ _ _ _ _ _ _ _ h_x1 (LI_n (x := 0) rfl) h_x2 h_v_a hg
        exact ⟨R, hR, c0⟩
      · refine lA (EI_add (EI_i (LI_n (x := 107) rfl)) (EI_i h_x2)) rfl hg (fun ha_5 hg => ?_)
        refine lB_1_1 (fun r hr => l_X6_bare  _ _ _ _ _ _ r h_x2 (LA_at h_v_a (EI_add (EI_i (LI_n (x := 107) rfl)) (EI_i h_x2)) ha_5) h_v_a hr) hg (fun Fr_5 r_5 hq hg => ?_)
        obtain ⟨q_6⟩ := hq
        obtain ⟨R, hR, c0⟩ := l_X6_usedCovers_47 ih _ _ _ _ _ _ _ _ _ h_x1 q_6 h_x2 h_v_a hg
        exact ⟨R, hR, c0⟩
set_option maxHeartbeats 4000000 in
set_option maxRecDepth 100000 in
theorem l_X6_usedCovers {n : Nat} : ∀ (Fv_a : Nat → Int32) (b_this : BX6) (r : Int), LA Fv_a (pX6_a b_this) → g_X6_usedCovers n b_this = some r → ∃ R, f_X6_usedCovers n Fv_a = some R ∧ LI R r := by
  intro Fv_a b_this r h_v_a hg
  unfold g_X6_usedCovers at hg
  unfold f_X6_usedCovers
  obtain ⟨R, hR, c0⟩ := l_X6_usedCovers_4 n _ _ _ _ _ _ _ (LI_n (x := 0) rfl) (LI_n (x := 0) rfl) h_v_a hg
  exact ⟨R, hR, c0⟩
set_option maxHeartbeats 4000000 in
set_option maxRecDepth 100000 in
theorem l_X6_coversUsed {n : Nat} : ∀ (Fv_a : Nat → Int32) (Fv_thrown : Int32) (b_this : BX6) (r : Int × BX6), LA Fv_a (pX6_a b_this) → LI Fv_thrown (pX6_thrown b_this) → g_X6_coversUsed n b_this = some r → ∃ R, f_X6_coversUsed n Fv_a Fv_thrown = some R ∧ LI (R.1) (r.1) ∧ LI (R.2) (pX6_thrown (r.2)) ∧ (pX6_a (r.2)) = (pX6_a b_this) ∧ (pX6_fresh (r.2)) = (pX6_fresh b_this) ∧ (pX6_kept (r.2)) = (pX6_kept b_this) ∧ (pX6_keptMany (r.2)) = (pX6_keptMany b_this) ∧ (pX6_buffer (r.2)) = (pX6_buffer b_this) ∧ (pX6_buffered (r.2)) = (pX6_buffered b_this) ∧ (pX6_size (r.2)) = (pX6_size b_this) ∧ (pX6_at (r.2)) = (pX6_at b_this) ∧ (pX6_behind (r.2)) = (pX6_behind b_this) ∧ (pX6_kind (r.2)) = (pX6_kind b_this) ∧ (pX6_wrong (r.2)) = (pX6_wrong b_this) ∧ (pX6_wrongAt (r.2)) = (pX6_wrongAt b_this) ∧ (pX6_errorAt (r.2)) = (pX6_errorAt b_this) ∧ (pX6_number (r.2)) = (pX6_number b_this) ∧ (pX6_best (r.2)) = (pX6_best b_this) ∧ (pX6_rentBy (r.2)) = (pX6_rentBy b_this) ∧ (pX6_bareBy (r.2)) = (pX6_bareBy b_this) ∧ (pX6_aheadBy (r.2)) = (pX6_aheadBy b_this) ∧ (pX6_isEdge (r.2)) = (pX6_isEdge b_this) ∧ (pX6_tried (r.2)) = (pX6_tried b_this) ∧ (pX6_stands (r.2)) = (pX6_stands b_this) ∧ (pX6_found (r.2)) = (pX6_found b_this) ∧ (pX6_foundOn (r.2)) = (pX6_foundOn b_this) ∧ (pX6_moving (r.2)) = (pX6_moving b_this) ∧ (pX6_movingMany (r.2)) = (pX6_movingMany b_this) ∧ (pX6_foundIncome (r.2)) = (pX6_foundIncome b_this) ∧ (pX6_foundMoves (r.2)) = (pX6_foundMoves b_this) := by
  intro Fv_a Fv_thrown b_this r h_v_a h_v_thrown hg
  unfold g_X6_coversUsed at hg
  unfold f_X6_coversUsed
  refine lB_1_1 (fun r hr => l_X6_usedCovers  _ _ r h_v_a hr) hg (fun Fr_1 r_1 hq hg => ?_)
  obtain ⟨q_1⟩ := hq
  cases hg
  exact ⟨_, rfl, q_1, (LI_n (x := 0) rfl), rfl, rfl, rfl, rfl, rfl, rfl, rfl, rfl, rfl, rfl, rfl, rfl, rfl, rfl, rfl, rfl, rfl, rfl, rfl, rfl, rfl, rfl, rfl, rfl, rfl, rfl, rfl⟩
set_option maxHeartbeats 4000000 in
set_option maxRecDepth 100000 in
theorem l_X6_is : ∀ (Fx1 : Int32) (x1 : Int) (Fv_kind : Int32) (Fv_wrong : Int32) (b_this : BX6) (r : Int), LI Fx1 x1 → LI Fv_kind (pX6_kind b_this) → LI Fv_wrong (pX6_wrong b_this) → g_X6_is b_this x1 = some r → ∃ R, f_X6_is Fv_kind Fv_wrong Fx1 = some R ∧ LI R r := by
  intro Fx1 x1 Fv_kind Fv_wrong b_this r h_x1 h_v_kind h_v_wrong hg
  unfold g_X6_is at hg
  unfold f_X6_is
  refine lI (LI_eq h_v_wrong (LI_n (x := 0) rfl)) hg (fun hc hg => ?_) (fun hc hg => ?_)
  · refine lI (LI_eq h_v_kind h_x1) hg (fun hc hg => ?_) (fun hc hg => ?_)
    · cases hg
      exact ⟨_, rfl, (LI_n (x := 1) rfl)⟩
    · cases hg
      exact ⟨_, rfl, (LI_n (x := 0) rfl)⟩
  · cases hg
    exact ⟨_, rfl, (LI_n (x := 0) rfl)⟩
set_option maxHeartbeats 4000000 in
set_option maxRecDepth 100000 in
theorem l_X6_see : ∀ (Fx1 : Int32) (x1 : Int) (Fv_buffer : Nat → Int32) (Fv_size : Int32) (b_this : BX6) (r : Int), LI Fx1 x1 → LA Fv_buffer (pX6_buffer b_this) → LI Fv_size (pX6_size b_this) → g_X6_see b_this x1 = some r → ∃ R, f_X6_see Fv_buffer Fv_size Fx1 = some R ∧ LI R r := by
  intro Fx1 x1 Fv_buffer Fv_size b_this r h_x1 h_v_buffer h_v_size hg
  unfold g_X6_see at hg
  unfold f_X6_see
  refine lI (LI_le h_v_size h_x1) hg (fun hc hg => ?_) (fun hc hg => ?_)
  · cases hg
    exact ⟨_, rfl, (LI_n (x := -1) rfl)⟩
  · refine lA (EI_i h_x1) rfl hg (fun ha_1 hg => ?_)
    cases hg
    exact ⟨_, rfl, (LA_at h_v_buffer (EI_i h_x1) ha_1)⟩
set_option maxHeartbeats 4000000 in
set_option maxRecDepth 100000 in
theorem l_X6_isDigit : ∀ (Fx0 : Int32) (x0 : Int) (r : Int), LI Fx0 x0 → g_X6_isDigit x0 = some r → ∃ R, f_X6_isDigit Fx0 = some R ∧ LI R r := by
  intro Fx0 x0 r h_x0 hg
  unfold g_X6_isDigit at hg
  unfold f_X6_isDigit
  refine lB_1_1 (fun r hr => l_X6_isIn  _ _ _ _ _ _ r (LJ_i h_x0) (LJ_n (x := 48) rfl) (LJ_n (x := 57) rfl) hr) hg (fun Fr_1 r_1 hq hg => ?_)
  obtain ⟨q_1⟩ := hq
  refine lG (LI_eq (LI_nar q_1) q_1) hg (fun hn_2 hg => ?_)
  cases hg
  exact ⟨_, rfl, q_1⟩
set_option maxHeartbeats 4000000 in
set_option maxRecDepth 100000 in
theorem l_X6_isSmall : ∀ (Fx0 : Int32) (x0 : Int) (r : Int), LI Fx0 x0 → g_X6_isSmall x0 = some r → ∃ R, f_X6_isSmall Fx0 = some R ∧ LI R r := by
  intro Fx0 x0 r h_x0 hg
  unfold g_X6_isSmall at hg
  unfold f_X6_isSmall
  refine lB_1_1 (fun r hr => l_X6_isIn  _ _ _ _ _ _ r (LJ_i h_x0) (LJ_n (x := 97) rfl) (LJ_n (x := 122) rfl) hr) hg (fun Fr_1 r_1 hq hg => ?_)
  obtain ⟨q_1⟩ := hq
  refine lG (LI_eq (LI_nar q_1) q_1) hg (fun hn_2 hg => ?_)
  cases hg
  exact ⟨_, rfl, q_1⟩
set_option maxHeartbeats 4000000 in
set_option maxRecDepth 100000 in
theorem l_X6_keyAt_97 {n : Nat} {K4 : Int32 → Int32 → (Nat → Int32) → Int32 → Int32 → Option (Int32)} {k4 : Int → Int → BX6 → Option (Int)} (hk4 : ∀ (Fx1 : Int32) (Fx2 : Int32) (x1 : Int) (x2 : Int) (Fv_buffer : Nat → Int32) (Fv_at : Int32) (Fv_behind : Int32) (b_this : BX6) (r : Int), LI Fx1 x1 → LI Fx2 x2 → LA Fv_buffer (pX6_buffer b_this) → LI Fv_at (pX6_at b_this) → LI Fv_behind (pX6_behind b_this) → k4 x1 x2 b_this = some r → ∃ R, K4 Fx1 Fx2 Fv_buffer Fv_at Fv_behind = some R ∧ LI R r) : ∀ (fu : Nat), ∀ (Fx1 : Int32) (Fx2 : Int32) (x1 : Int) (x2 : Int) (Fv_buffer : Nat → Int32) (Fv_at : Int32) (Fv_behind : Int32) (b_this : BX6) (r : Int), LI Fx1 x1 → LI Fx2 x2 → LA Fv_buffer (pX6_buffer b_this) → LI Fv_at (pX6_at b_this) → LI Fv_behind (pX6_behind b_this) → g_X6_keyAt_97 n k4 fu x1 x2 b_this = some r → ∃ R, f_X6_keyAt_97 n K4 fu Fx1 Fx2 Fv_buffer Fv_at Fv_behind = some R ∧ LI R r := by
  intro fu
  induction fu with
  | zero => intro Fx1 Fx2 x1 x2 Fv_buffer Fv_at Fv_behind b_this r h_x1 h_x2 h_v_buffer h_v_at h_v_behind hg; rw [g_X6_keyAt_97.eq_1] at hg; cases hg
  | succ fu ih =>
    intro Fx1 Fx2 x1 x2 Fv_buffer Fv_at Fv_behind b_this r h_x1 h_x2 h_v_buffer h_v_at h_v_behind hg
    rw [g_X6_keyAt_97.eq_2] at hg
    rw [f_X6_keyAt_97.eq_2]
    refine lG Iff.rfl hg (fun hn_1 hg => ?_)
    refine lA (EI_i h_x2) rfl hg (fun ha_2 hg => ?_)
    refine lI (LI_eq (LI_js (EI_i h_x2) ha_2) (LI_n (x := 32) rfl)) hg (fun hc hg => ?_) (fun hc hg => ?_)
    · refine lR hg (fun hr_3 hg => ?_)
      refine lR hg (fun hr_4 hg => ?_)
      obtain ⟨R, hR, c0⟩ := hk4 _ _ _ _ _ _ _ _ _ (LI_of (EI_add (EI_i h_x1) (EI_i (LI_n (x := 1) rfl))) hr_3) (LI_of (EI_add (EI_i h_x2) (EI_i (LI_n (x := 1) rfl))) hr_4) h_v_buffer h_v_at h_v_behind hg
      exact ⟨R, hR, c0⟩
    · refine lR hg (fun hr_5 hg => ?_)
      obtain ⟨R, hR, c0⟩ := ih _ _ _ _ _ _ _ _ _ h_x1 (LI_of (EI_add (EI_i h_x2) (EI_i (LI_n (x := 1) rfl))) hr_5) h_v_buffer h_v_at h_v_behind hg
      exact ⟨R, hR, c0⟩
set_option maxHeartbeats 4000000 in
set_option maxRecDepth 100000 in
theorem l_X6_keyAt_69 {n : Nat} {K4 : Int32 → Int32 → (Nat → Int32) → Int32 → Int32 → Option (Int32)} {k4 : Int → Int → BX6 → Option (Int)} (hk4 : ∀ (Fx1 : Int32) (Fx2 : Int32) (x1 : Int) (x2 : Int) (Fv_buffer : Nat → Int32) (Fv_at : Int32) (Fv_behind : Int32) (b_this : BX6) (r : Int), LI Fx1 x1 → LI Fx2 x2 → LA Fv_buffer (pX6_buffer b_this) → LI Fv_at (pX6_at b_this) → LI Fv_behind (pX6_behind b_this) → k4 x1 x2 b_this = some r → ∃ R, K4 Fx1 Fx2 Fv_buffer Fv_at Fv_behind = some R ∧ LI R r) : ∀ (Fx1 : Int32) (Fx2 : Int32) (Fx3 : Int32) (x1 : Int) (x2 : Int) (x3 : Int) (Fv_buffer : Nat → Int32) (Fv_at : Int32) (Fv_behind : Int32) (b_this : BX6) (r : Int), LI Fx1 x1 → LI Fx2 x2 → LI Fx3 x3 → LA Fv_buffer (pX6_buffer b_this) → LI Fv_at (pX6_at b_this) → LI Fv_behind (pX6_behind b_this) → g_X6_keyAt_69 n k4 x1 x2 x3 b_this = some r → ∃ R, f_X6_keyAt_69 n K4 Fx1 Fx2 Fx3 Fv_buffer Fv_at Fv_behind = some R ∧ LI R r := by
  intro Fx1 Fx2 Fx3 x1 x2 x3 Fv_buffer Fv_at Fv_behind b_this r h_x1 h_x2 h_x3 h_v_buffer h_v_at h_v_behind hg
  unfold g_X6_keyAt_69 at hg
  unfold f_X6_keyAt_69
  refine lG Iff.rfl hg (fun hn_6 hg => ?_)
  refine lA (EI_add (EI_i h_x2) (EI_i h_x3)) rfl hg (fun ha_7 hg => ?_)
  refine lI (LI_eq (LI_js (EI_add (EI_i h_x2) (EI_i h_x3)) ha_7) (LI_n (x := 32) rfl)) hg (fun hc hg => ?_) (fun hc hg => ?_)
  · refine lR hg (fun hr_8 hg => ?_)
    refine lI (LI_eq (LI_of (EI_add (EI_i h_v_at) (EI_i h_x3)) hr_8) h_v_behind) hg (fun hc hg => ?_) (fun hc hg => ?_)
    · cases hg
      exact ⟨_, rfl, h_x1⟩
    · obtain ⟨R, hR, c0⟩ := l_X6_keyAt_97 hk4 n _ _ _ _ _ _ _ _ _ h_x1 h_x2 h_v_buffer h_v_at h_v_behind hg
      exact ⟨R, hR, c0⟩
  · obtain ⟨R, hR, c0⟩ := l_X6_keyAt_97 hk4 n _ _ _ _ _ _ _ _ _ h_x1 h_x2 h_v_buffer h_v_at h_v_behind hg
    exact ⟨R, hR, c0⟩
set_option maxHeartbeats 4000000 in
set_option maxRecDepth 100000 in
theorem l_X6_keyAt_15 {n : Nat} {K4 : Int32 → Int32 → (Nat → Int32) → Int32 → Int32 → Option (Int32)} {k4 : Int → Int → BX6 → Option (Int)} (hk4 : ∀ (Fx1 : Int32) (Fx2 : Int32) (x1 : Int) (x2 : Int) (Fv_buffer : Nat → Int32) (Fv_at : Int32) (Fv_behind : Int32) (b_this : BX6) (r : Int), LI Fx1 x1 → LI Fx2 x2 → LA Fv_buffer (pX6_buffer b_this) → LI Fv_at (pX6_at b_this) → LI Fv_behind (pX6_behind b_this) → k4 x1 x2 b_this = some r → ∃ R, K4 Fx1 Fx2 Fv_buffer Fv_at Fv_behind = some R ∧ LI R r) : ∀ (fu : Nat), ∀ (Fx1 : Int32) (Fx2 : Int32) (Fx3 : Int32) (x1 : Int) (x2 : Int) (x3 : Int) (Fv_buffer : Nat → Int32) (Fv_at : Int32) (Fv_behind : Int32) (b_this : BX6) (r : Int), LI Fx1 x1 → LI Fx2 x2 → LI Fx3 x3 → LA Fv_buffer (pX6_buffer b_this) → LI Fv_at (pX6_at b_this) → LI Fv_behind (pX6_behind b_this) → g_X6_keyAt_15 n k4 fu x1 x2 x3 b_this = some r → ∃ R, f_X6_keyAt_15 n K4 fu Fx1 Fx2 Fx3 Fv_buffer Fv_at Fv_behind = some R ∧ LI R r := by
  intro fu
  induction fu with
  | zero => intro Fx1 Fx2 Fx3 x1 x2 x3 Fv_buffer Fv_at Fv_behind b_this r h_x1 h_x2 h_x3 h_v_buffer h_v_at h_v_behind hg; rw [g_X6_keyAt_15.eq_1] at hg; cases hg
  | succ fu ih =>
    intro Fx1 Fx2 Fx3 x1 x2 x3 Fv_buffer Fv_at Fv_behind b_this r h_x1 h_x2 h_x3 h_v_buffer h_v_at h_v_behind hg
    rw [g_X6_keyAt_15.eq_2] at hg
    rw [f_X6_keyAt_15.eq_2]
    refine lG Iff.rfl hg (fun hn_9 hg => ?_)
    refine lA (EI_add (EI_i h_x2) (EI_i h_x3)) rfl hg (fun ha_10 hg => ?_)
    refine lI (LI_eq (LI_js (EI_add (EI_i h_x2) (EI_i h_x3)) ha_10) (LI_n (x := 32) rfl)) hg (fun hc hg => ?_) (fun hc hg => ?_)
    · obtain ⟨R, hR, c0⟩ := l_X6_keyAt_69 hk4 _ _ _ _ _ _ _ _ _ _ _ h_x1 h_x2 h_x3 h_v_buffer h_v_at h_v_behind hg
      exact ⟨R, hR, c0⟩
    · refine lR hg (fun hr_11 hg => ?_)
      refine lI (LI_le h_v_behind (LI_of (EI_add (EI_i h_v_at) (EI_i h_x3)) hr_11)) hg (fun hc hg => ?_) (fun hc hg => ?_)
      · obtain ⟨R, hR, c0⟩ := l_X6_keyAt_69 hk4 _ _ _ _ _ _ _ _ _ _ _ h_x1 h_x2 h_x3 h_v_buffer h_v_at h_v_behind hg
        exact ⟨R, hR, c0⟩
      · refine lA (EI_add (EI_i h_v_at) (EI_i h_x3)) rfl hg (fun ha_12 hg => ?_)
        refine lG Iff.rfl hg (fun hn_13 hg => ?_)
        refine lA (EI_add (EI_i h_x2) (EI_i h_x3)) rfl hg (fun ha_14 hg => ?_)
        refine lI (LI_eq (LA_at h_v_buffer (EI_add (EI_i h_v_at) (EI_i h_x3)) ha_12) (LI_js (EI_add (EI_i h_x2) (EI_i h_x3)) ha_14)) hg (fun hc hg => ?_) (fun hc hg => ?_)
        · refine lR hg (fun hr_15 hg => ?_)
          obtain ⟨R, hR, c0⟩ := ih _ _ _ _ _ _ _ _ _ _ _ h_x1 h_x2 (LI_of (EI_add (EI_i h_x3) (EI_i (LI_n (x := 1) rfl))) hr_15) h_v_buffer h_v_at h_v_behind hg
          exact ⟨R, hR, c0⟩
        · obtain ⟨R, hR, c0⟩ := l_X6_keyAt_69 hk4 _ _ _ _ _ _ _ _ _ _ _ h_x1 h_x2 h_x3 h_v_buffer h_v_at h_v_behind hg
          exact ⟨R, hR, c0⟩
set_option maxHeartbeats 4000000 in
set_option maxRecDepth 100000 in
theorem l_X6_keyAt_4 {n : Nat} : ∀ (fu : Nat), ∀ (Fx1 : Int32) (Fx2 : Int32) (x1 : Int) (x2 : Int) (Fv_buffer : Nat → Int32) (Fv_at : Int32) (Fv_behind : Int32) (b_this : BX6) (r : Int), LI Fx1 x1 → LI Fx2 x2 → LA Fv_buffer (pX6_buffer b_this) → LI Fv_at (pX6_at b_this) → LI Fv_behind (pX6_behind b_this) → g_X6_keyAt_4 n fu x1 x2 b_this = some r → ∃ R, f_X6_keyAt_4 n fu Fx1 Fx2 Fv_buffer Fv_at Fv_behind = some R ∧ LI R r := by
  intro fu
  induction fu with
  | zero => intro Fx1 Fx2 x1 x2 Fv_buffer Fv_at Fv_behind b_this r h_x1 h_x2 h_v_buffer h_v_at h_v_behind hg; rw [g_X6_keyAt_4.eq_1] at hg; cases hg
  | succ fu ih =>
    intro Fx1 Fx2 x1 x2 Fv_buffer Fv_at Fv_behind b_this r h_x1 h_x2 h_v_buffer h_v_at h_v_behind hg
    rw [g_X6_keyAt_4.eq_2] at hg
    rw [f_X6_keyAt_4.eq_2]
    refine lG Iff.rfl hg (fun hn_16 hg => ?_)
    refine lR hg (fun hr_17 hg => ?_)
    refine lI (LI_le (LI_of (EI_n rfl) hr_17) h_x2) hg (fun hc hg => ?_) (fun hc hg => ?_)
    · cases hg
      exact ⟨_, rfl, (LI_n (x := 8) rfl)⟩
    · obtain ⟨R, hR, c0⟩ := l_X6_keyAt_15 ih n _ _ _ _ _ _ _ _ _ _ _ h_x1 h_x2 (LI_n (x := 0) rfl) h_v_buffer h_v_at h_v_behind hg
      exact ⟨R, hR, c0⟩
set_option maxHeartbeats 4000000 in
set_option maxRecDepth 100000 in
theorem l_X6_keyAt {n : Nat} : ∀ (Fv_buffer : Nat → Int32) (Fv_at : Int32) (Fv_behind : Int32) (b_this : BX6) (r : Int), LA Fv_buffer (pX6_buffer b_this) → LI Fv_at (pX6_at b_this) → LI Fv_behind (pX6_behind b_this) → g_X6_keyAt n b_this = some r → ∃ R, f_X6_keyAt n Fv_buffer Fv_at Fv_behind = some R ∧ LI R r := by
  intro Fv_buffer Fv_at Fv_behind b_this r h_v_buffer h_v_at h_v_behind hg
  unfold g_X6_keyAt at hg
  unfold f_X6_keyAt
  obtain ⟨R, hR, c0⟩ := l_X6_keyAt_4 n _ _ _ _ _ _ _ _ _ (LI_n (x := 0) rfl) (LI_n (x := 1) rfl) h_v_buffer h_v_at h_v_behind hg
  exact ⟨R, hR, c0⟩
set_option maxHeartbeats 4000000 in
set_option maxRecDepth 100000 in
theorem l_X6_next_237 {n : Nat} : ∀ (Ft1 : Int32) (t1 : Int) (Fv_at : Int32) (Fv_behind : Int32) (Fv_kind : Int32) (Fv_number : Int64) (b_this : BX6) (r : BX6), LI Ft1 t1 → LI Fv_at (pX6_at b_this) → LI Fv_behind (pX6_behind b_this) → LI Fv_kind (pX6_kind b_this) → LJ Fv_number (pX6_number b_this) → g_X6_next_237 n t1 b_this = some r → ∃ R, f_X6_next_237 n Ft1 Fv_at Fv_behind Fv_kind Fv_number = some R ∧ LI (R.1) (pX6_at r) ∧ LI (R.2.1) (pX6_behind r) ∧ LI (R.2.2.1) (pX6_kind r) ∧ LJ (R.2.2.2) (pX6_number r) ∧ (pX6_a r) = (pX6_a b_this) ∧ (pX6_fresh r) = (pX6_fresh b_this) ∧ (pX6_kept r) = (pX6_kept b_this) ∧ (pX6_keptMany r) = (pX6_keptMany b_this) ∧ (pX6_thrown r) = (pX6_thrown b_this) ∧ (pX6_buffer r) = (pX6_buffer b_this) ∧ (pX6_buffered r) = (pX6_buffered b_this) ∧ (pX6_size r) = (pX6_size b_this) ∧ (pX6_wrong r) = (pX6_wrong b_this) ∧ (pX6_wrongAt r) = (pX6_wrongAt b_this) ∧ (pX6_errorAt r) = (pX6_errorAt b_this) ∧ (pX6_best r) = (pX6_best b_this) ∧ (pX6_rentBy r) = (pX6_rentBy b_this) ∧ (pX6_bareBy r) = (pX6_bareBy b_this) ∧ (pX6_aheadBy r) = (pX6_aheadBy b_this) ∧ (pX6_isEdge r) = (pX6_isEdge b_this) ∧ (pX6_tried r) = (pX6_tried b_this) ∧ (pX6_stands r) = (pX6_stands b_this) ∧ (pX6_found r) = (pX6_found b_this) ∧ (pX6_foundOn r) = (pX6_foundOn b_this) ∧ (pX6_moving r) = (pX6_moving b_this) ∧ (pX6_movingMany r) = (pX6_movingMany b_this) ∧ (pX6_foundIncome r) = (pX6_foundIncome b_this) ∧ (pX6_foundMoves r) = (pX6_foundMoves b_this) := by
  intro Ft1 t1 Fv_at Fv_behind Fv_kind Fv_number b_this r h_t1 h_v_at h_v_behind h_v_kind h_v_number hg
  unfold g_X6_next_237 at hg
  unfold f_X6_next_237
  cases hg
  exact ⟨_, rfl, h_v_at, h_v_behind, h_t1, h_v_number, rfl, rfl, rfl, rfl, rfl, rfl, rfl, rfl, rfl, rfl, rfl, rfl, rfl, rfl, rfl, rfl, rfl, rfl, rfl, rfl, rfl, rfl, rfl, rfl⟩
set_option maxHeartbeats 4000000 in
set_option maxRecDepth 100000 in
theorem l_X6_next_184 {n : Nat} {K133 : (Nat → Int32) → Int32 → Int32 → Int32 → Int32 → Int64 → Option (Int32 × Int32 × Int32 × Int64)} {k133 : BX6 → Option (BX6)} (hk133 : ∀ (Fv_buffer : Nat → Int32) (Fv_size : Int32) (Fv_at : Int32) (Fv_behind : Int32) (Fv_kind : Int32) (Fv_number : Int64) (b_this : BX6) (r : BX6), LA Fv_buffer (pX6_buffer b_this) → LI Fv_size (pX6_size b_this) → LI Fv_at (pX6_at b_this) → LI Fv_behind (pX6_behind b_this) → LI Fv_kind (pX6_kind b_this) → LJ Fv_number (pX6_number b_this) → k133 b_this = some r → ∃ R, K133 Fv_buffer Fv_size Fv_at Fv_behind Fv_kind Fv_number = some R ∧ LI (R.1) (pX6_at r) ∧ LI (R.2.1) (pX6_behind r) ∧ LI (R.2.2.1) (pX6_kind r) ∧ LJ (R.2.2.2) (pX6_number r) ∧ (pX6_a r) = (pX6_a b_this) ∧ (pX6_fresh r) = (pX6_fresh b_this) ∧ (pX6_kept r) = (pX6_kept b_this) ∧ (pX6_keptMany r) = (pX6_keptMany b_this) ∧ (pX6_thrown r) = (pX6_thrown b_this) ∧ (pX6_buffer r) = (pX6_buffer b_this) ∧ (pX6_buffered r) = (pX6_buffered b_this) ∧ (pX6_size r) = (pX6_size b_this) ∧ (pX6_wrong r) = (pX6_wrong b_this) ∧ (pX6_wrongAt r) = (pX6_wrongAt b_this) ∧ (pX6_errorAt r) = (pX6_errorAt b_this) ∧ (pX6_best r) = (pX6_best b_this) ∧ (pX6_rentBy r) = (pX6_rentBy b_this) ∧ (pX6_bareBy r) = (pX6_bareBy b_this) ∧ (pX6_aheadBy r) = (pX6_aheadBy b_this) ∧ (pX6_isEdge r) = (pX6_isEdge b_this) ∧ (pX6_tried r) = (pX6_tried b_this) ∧ (pX6_stands r) = (pX6_stands b_this) ∧ (pX6_found r) = (pX6_found b_this) ∧ (pX6_foundOn r) = (pX6_foundOn b_this) ∧ (pX6_moving r) = (pX6_moving b_this) ∧ (pX6_movingMany r) = (pX6_movingMany b_this) ∧ (pX6_foundIncome r) = (pX6_foundIncome b_this) ∧ (pX6_foundMoves r) = (pX6_foundMoves b_this)) : ∀ (Fv_buffer : Nat → Int32) (Fv_size : Int32) (Fv_at : Int32) (Fv_behind : Int32) (Fv_kind : Int32) (Fv_number : Int64) (b_this : BX6) (r : BX6), LA Fv_buffer (pX6_buffer b_this) → LI Fv_size (pX6_size b_this) → LI Fv_at (pX6_at b_this) → LI Fv_behind (pX6_behind b_this) → LI Fv_kind (pX6_kind b_this) → LJ Fv_number (pX6_number b_this) → g_X6_next_184 n k133 b_this = some r → ∃ R, f_X6_next_184 n K133 Fv_buffer Fv_size Fv_at Fv_behind Fv_kind Fv_number = some R ∧ LI (R.1) (pX6_at r) ∧ LI (R.2.1) (pX6_behind r) ∧ LI (R.2.2.1) (pX6_kind r) ∧ LJ (R.2.2.2) (pX6_number r) ∧ (pX6_a r) = (pX6_a b_this) ∧ (pX6_fresh r) = (pX6_fresh b_this) ∧ (pX6_kept r) = (pX6_kept b_this) ∧ (pX6_keptMany r) = (pX6_keptMany b_this) ∧ (pX6_thrown r) = (pX6_thrown b_this) ∧ (pX6_buffer r) = (pX6_buffer b_this) ∧ (pX6_buffered r) = (pX6_buffered b_this) ∧ (pX6_size r) = (pX6_size b_this) ∧ (pX6_wrong r) = (pX6_wrong b_this) ∧ (pX6_wrongAt r) = (pX6_wrongAt b_this) ∧ (pX6_errorAt r) = (pX6_errorAt b_this) ∧ (pX6_best r) = (pX6_best b_this) ∧ (pX6_rentBy r) = (pX6_rentBy b_this) ∧ (pX6_bareBy r) = (pX6_bareBy b_this) ∧ (pX6_aheadBy r) = (pX6_aheadBy b_this) ∧ (pX6_isEdge r) = (pX6_isEdge b_this) ∧ (pX6_tried r) = (pX6_tried b_this) ∧ (pX6_stands r) = (pX6_stands b_this) ∧ (pX6_found r) = (pX6_found b_this) ∧ (pX6_foundOn r) = (pX6_foundOn b_this) ∧ (pX6_moving r) = (pX6_moving b_this) ∧ (pX6_movingMany r) = (pX6_movingMany b_this) ∧ (pX6_foundIncome r) = (pX6_foundIncome b_this) ∧ (pX6_foundMoves r) = (pX6_foundMoves b_this) := by
  intro Fv_buffer Fv_size Fv_at Fv_behind Fv_kind Fv_number b_this r h_v_buffer h_v_size h_v_at h_v_behind h_v_kind h_v_number hg
  unfold g_X6_next_184 at hg
  unfold f_X6_next_184
  refine lR hg (fun hr_1 hg => ?_)
  refine lL (LI_of (EI_add (EI_i h_v_behind) (EI_i (LI_n (x := 1) rfl))) hr_1) hg (fun Fy_1 y_1 h_y_1 hg => ?_)
  obtain ⟨R, hR, c0, c1, c2, c3, c4, c5, c6, c7, c8, c9, c10, c11, c12, c13, c14, c15, c16, c17, c18, c19, c20, c21, c22, c23, c24, c25, c26, c27⟩ := hk133 _ _ _ _ _ _ _ _ h_v_buffer h_v_size h_v_at h_y_1 h_v_kind h_v_number hg
  exact ⟨R, hR, c0, c1, c2, c3, c4, c5, c6, c7, c8, c9, c10, c11, c12, c13, c14, c15, c16, c17, c18, c19, c20, c21, c22, c23, c24, c25, c26, c27⟩
set_option maxHeartbeats 4000000 in
set_option maxRecDepth 100000 in
theorem l_X6_next_133 {n : Nat} : ∀ (fu : Nat), ∀ (Fv_buffer : Nat → Int32) (Fv_size : Int32) (Fv_at : Int32) (Fv_behind : Int32) (Fv_kind : Int32) (Fv_number : Int64) (b_this : BX6) (r : BX6), LA Fv_buffer (pX6_buffer b_this) → LI Fv_size (pX6_size b_this) → LI Fv_at (pX6_at b_this) → LI Fv_behind (pX6_behind b_this) → LI Fv_kind (pX6_kind b_this) → LJ Fv_number (pX6_number b_this) → g_X6_next_133 n fu b_this = some r → ∃ R, f_X6_next_133 n fu Fv_buffer Fv_size Fv_at Fv_behind Fv_kind Fv_number = some R ∧ LI (R.1) (pX6_at r) ∧ LI (R.2.1) (pX6_behind r) ∧ LI (R.2.2.1) (pX6_kind r) ∧ LJ (R.2.2.2) (pX6_number r) ∧ (pX6_a r) = (pX6_a b_this) ∧ (pX6_fresh r) = (pX6_fresh b_this) ∧ (pX6_kept r) = (pX6_kept b_this) ∧ (pX6_keptMany r) = (pX6_keptMany b_this) ∧ (pX6_thrown r) = (pX6_thrown b_this) ∧ (pX6_buffer r) = (pX6_buffer b_this) ∧ (pX6_buffered r) = (pX6_buffered b_this) ∧ (pX6_size r) = (pX6_size b_this) ∧ (pX6_wrong r) = (pX6_wrong b_this) ∧ (pX6_wrongAt r) = (pX6_wrongAt b_this) ∧ (pX6_errorAt r) = (pX6_errorAt b_this) ∧ (pX6_best r) = (pX6_best b_this) ∧ (pX6_rentBy r) = (pX6_rentBy b_this) ∧ (pX6_bareBy r) = (pX6_bareBy b_this) ∧ (pX6_aheadBy r) = (pX6_aheadBy b_this) ∧ (pX6_isEdge r) = (pX6_isEdge b_this) ∧ (pX6_tried r) = (pX6_tried b_this) ∧ (pX6_stands r) = (pX6_stands b_this) ∧ (pX6_found r) = (pX6_found b_this) ∧ (pX6_foundOn r) = (pX6_foundOn b_this) ∧ (pX6_moving r) = (pX6_moving b_this) ∧ (pX6_movingMany r) = (pX6_movingMany b_this) ∧ (pX6_foundIncome r) = (pX6_foundIncome b_this) ∧ (pX6_foundMoves r) = (pX6_foundMoves b_this) := by
  intro fu
  induction fu with
  | zero => intro Fv_buffer Fv_size Fv_at Fv_behind Fv_kind Fv_number b_this r h_v_buffer h_v_size h_v_at h_v_behind h_v_kind h_v_number hg; rw [g_X6_next_133.eq_1] at hg; cases hg
  | succ fu ih =>
    intro Fv_buffer Fv_size Fv_at Fv_behind Fv_kind Fv_number b_this r h_v_buffer h_v_size h_v_at h_v_behind h_v_kind h_v_number hg
    rw [g_X6_next_133.eq_2] at hg
    rw [f_X6_next_133.eq_2]
    refine lB_1_1 (fun r hr => l_X6_see  _ _ _ _ _ r h_v_behind h_v_buffer h_v_size hr) hg (fun Fr_2 r_2 hq hg => ?_)
    obtain ⟨q_2⟩ := hq
    refine lB_1_1 (fun r hr => l_X6_isDigit  _ _ r q_2 hr) hg (fun Fr_4 r_4 hq hg => ?_)
    obtain ⟨q_3⟩ := hq
    refine lI (LI_eq q_3 (LI_n (x := 0) rfl)) hg (fun hc hg => ?_) (fun hc hg => ?_)
    · cases hg
      exact ⟨_, rfl, h_v_at, h_v_behind, (LI_n (x := 9) rfl), h_v_number, rfl, rfl, rfl, rfl, rfl, rfl, rfl, rfl, rfl, rfl, rfl, rfl, rfl, rfl, rfl, rfl, rfl, rfl, rfl, rfl, rfl, rfl, rfl, rfl⟩
    · refine lI (LC_le' h_v_number (LJ_n (x := 100000) rfl)) hg (fun hc hg => ?_) (fun hc hg => ?_)
      · obtain ⟨R, hR, c0, c1, c2, c3, c4, c5, c6, c7, c8, c9, c10, c11, c12, c13, c14, c15, c16, c17, c18, c19, c20, c21, c22, c23, c24, c25, c26, c27⟩ := l_X6_next_184 ih _ _ _ _ _ _ _ _ h_v_buffer h_v_size h_v_at h_v_behind h_v_kind h_v_number hg
        exact ⟨R, hR, c0, c1, c2, c3, c4, c5, c6, c7, c8, c9, c10, c11, c12, c13, c14, c15, c16, c17, c18, c19, c20, c21, c22, c23, c24, c25, c26, c27⟩
      · refine lB_1_1 (fun r hr => l_X6_see  _ _ _ _ _ r h_v_behind h_v_buffer h_v_size hr) hg (fun Fr_6 r_6 hq hg => ?_)
        obtain ⟨q_4⟩ := hq
        refine lRJ hg (fun hr_5 hg => ?_)
        refine lL (LJ_of (EJ_sub (EJ_add (EJ_mul (EJ_j (LJ_n (x := 10) rfl)) (EJ_j h_v_number)) (EJ_j (LJ_i q_4))) (EJ_j (LJ_n (x := 48) rfl))) hr_5) hg (fun Fy_8 y_8 h_y_8 hg => ?_)
        obtain ⟨R, hR, c0, c1, c2, c3, c4, c5, c6, c7, c8, c9, c10, c11, c12, c13, c14, c15, c16, c17, c18, c19, c20, c21, c22, c23, c24, c25, c26, c27⟩ := l_X6_next_184 ih _ _ _ _ _ _ _ _ h_v_buffer h_v_size h_v_at h_v_behind h_v_kind h_y_8 hg
        exact ⟨R, hR, c0, c1, c2, c3, c4, c5, c6, c7, c8, c9, c10, c11, c12, c13, c14, c15, c16, c17, c18, c19, c20, c21, c22, c23, c24, c25, c26, c27⟩
set_option maxHeartbeats 4000000 in
set_option maxRecDepth 100000 in
theorem l_X6_next_76 {n : Nat} : ∀ (fu : Nat), ∀ (Fv_buffer : Nat → Int32) (Fv_size : Int32) (Fv_at : Int32) (Fv_behind : Int32) (Fv_kind : Int32) (Fv_number : Int64) (b_this : BX6) (r : BX6), LA Fv_buffer (pX6_buffer b_this) → LI Fv_size (pX6_size b_this) → LI Fv_at (pX6_at b_this) → LI Fv_behind (pX6_behind b_this) → LI Fv_kind (pX6_kind b_this) → LJ Fv_number (pX6_number b_this) → g_X6_next_76 n fu b_this = some r → ∃ R, f_X6_next_76 n fu Fv_buffer Fv_size Fv_at Fv_behind Fv_kind Fv_number = some R ∧ LI (R.1) (pX6_at r) ∧ LI (R.2.1) (pX6_behind r) ∧ LI (R.2.2.1) (pX6_kind r) ∧ LJ (R.2.2.2) (pX6_number r) ∧ (pX6_a r) = (pX6_a b_this) ∧ (pX6_fresh r) = (pX6_fresh b_this) ∧ (pX6_kept r) = (pX6_kept b_this) ∧ (pX6_keptMany r) = (pX6_keptMany b_this) ∧ (pX6_thrown r) = (pX6_thrown b_this) ∧ (pX6_buffer r) = (pX6_buffer b_this) ∧ (pX6_buffered r) = (pX6_buffered b_this) ∧ (pX6_size r) = (pX6_size b_this) ∧ (pX6_wrong r) = (pX6_wrong b_this) ∧ (pX6_wrongAt r) = (pX6_wrongAt b_this) ∧ (pX6_errorAt r) = (pX6_errorAt b_this) ∧ (pX6_best r) = (pX6_best b_this) ∧ (pX6_rentBy r) = (pX6_rentBy b_this) ∧ (pX6_bareBy r) = (pX6_bareBy b_this) ∧ (pX6_aheadBy r) = (pX6_aheadBy b_this) ∧ (pX6_isEdge r) = (pX6_isEdge b_this) ∧ (pX6_tried r) = (pX6_tried b_this) ∧ (pX6_stands r) = (pX6_stands b_this) ∧ (pX6_found r) = (pX6_found b_this) ∧ (pX6_foundOn r) = (pX6_foundOn b_this) ∧ (pX6_moving r) = (pX6_moving b_this) ∧ (pX6_movingMany r) = (pX6_movingMany b_this) ∧ (pX6_foundIncome r) = (pX6_foundIncome b_this) ∧ (pX6_foundMoves r) = (pX6_foundMoves b_this) := by
  intro fu
  induction fu with
  | zero => intro Fv_buffer Fv_size Fv_at Fv_behind Fv_kind Fv_number b_this r h_v_buffer h_v_size h_v_at h_v_behind h_v_kind h_v_number hg; rw [g_X6_next_76.eq_1] at hg; cases hg
  | succ fu ih =>
    intro Fv_buffer Fv_size Fv_at Fv_behind Fv_kind Fv_number b_this r h_v_buffer h_v_size h_v_at h_v_behind h_v_kind h_v_number hg
    rw [g_X6_next_76.eq_2] at hg
    rw [f_X6_next_76.eq_2]
    refine lB_1_1 (fun r hr => l_X6_see  _ _ _ _ _ r h_v_behind h_v_buffer h_v_size hr) hg (fun Fr_9 r_9 hq hg => ?_)
    obtain ⟨q_6⟩ := hq
    refine lB_1_1 (fun r hr => l_X6_isSmall  _ _ r q_6 hr) hg (fun Fr_11 r_11 hq hg => ?_)
    obtain ⟨q_7⟩ := hq
    refine lI (LI_eq q_7 (LI_n (x := 0) rfl)) hg (fun hc hg => ?_) (fun hc hg => ?_)
    · refine lB_1_1 (fun r hr => l_X6_keyAt  _ _ _ _ r h_v_buffer h_v_at h_v_behind hr) hg (fun Fr_13 r_13 hq hg => ?_)
      obtain ⟨q_8⟩ := hq
      cases hg
      exact ⟨_, rfl, h_v_at, h_v_behind, q_8, h_v_number, rfl, rfl, rfl, rfl, rfl, rfl, rfl, rfl, rfl, rfl, rfl, rfl, rfl, rfl, rfl, rfl, rfl, rfl, rfl, rfl, rfl, rfl, rfl, rfl⟩
    · refine lR hg (fun hr_9 hg => ?_)
      refine lL (LI_of (EI_add (EI_i h_v_behind) (EI_i (LI_n (x := 1) rfl))) hr_9) hg (fun Fy_15 y_15 h_y_15 hg => ?_)
      obtain ⟨R, hR, c0, c1, c2, c3, c4, c5, c6, c7, c8, c9, c10, c11, c12, c13, c14, c15, c16, c17, c18, c19, c20, c21, c22, c23, c24, c25, c26, c27⟩ := ih _ _ _ _ _ _ _ _ h_v_buffer h_v_size h_v_at h_y_15 h_v_kind h_v_number hg
      exact ⟨R, hR, c0, c1, c2, c3, c4, c5, c6, c7, c8, c9, c10, c11, c12, c13, c14, c15, c16, c17, c18, c19, c20, c21, c22, c23, c24, c25, c26, c27⟩
set_option maxHeartbeats 4000000 in
set_option maxRecDepth 100000 in
theorem l_X6_next_8 {n : Nat} : ∀ (fu : Nat), ∀ (Fv_buffer : Nat → Int32) (Fv_size : Int32) (Fv_at : Int32) (Fv_behind : Int32) (Fv_kind : Int32) (Fv_number : Int64) (b_this : BX6) (r : BX6), LA Fv_buffer (pX6_buffer b_this) → LI Fv_size (pX6_size b_this) → LI Fv_at (pX6_at b_this) → LI Fv_behind (pX6_behind b_this) → LI Fv_kind (pX6_kind b_this) → LJ Fv_number (pX6_number b_this) → g_X6_next_8 n fu b_this = some r → ∃ R, f_X6_next_8 n fu Fv_buffer Fv_size Fv_at Fv_behind Fv_kind Fv_number = some R ∧ LI (R.1) (pX6_at r) ∧ LI (R.2.1) (pX6_behind r) ∧ LI (R.2.2.1) (pX6_kind r) ∧ LJ (R.2.2.2) (pX6_number r) ∧ (pX6_a r) = (pX6_a b_this) ∧ (pX6_fresh r) = (pX6_fresh b_this) ∧ (pX6_kept r) = (pX6_kept b_this) ∧ (pX6_keptMany r) = (pX6_keptMany b_this) ∧ (pX6_thrown r) = (pX6_thrown b_this) ∧ (pX6_buffer r) = (pX6_buffer b_this) ∧ (pX6_buffered r) = (pX6_buffered b_this) ∧ (pX6_size r) = (pX6_size b_this) ∧ (pX6_wrong r) = (pX6_wrong b_this) ∧ (pX6_wrongAt r) = (pX6_wrongAt b_this) ∧ (pX6_errorAt r) = (pX6_errorAt b_this) ∧ (pX6_best r) = (pX6_best b_this) ∧ (pX6_rentBy r) = (pX6_rentBy b_this) ∧ (pX6_bareBy r) = (pX6_bareBy b_this) ∧ (pX6_aheadBy r) = (pX6_aheadBy b_this) ∧ (pX6_isEdge r) = (pX6_isEdge b_this) ∧ (pX6_tried r) = (pX6_tried b_this) ∧ (pX6_stands r) = (pX6_stands b_this) ∧ (pX6_found r) = (pX6_found b_this) ∧ (pX6_foundOn r) = (pX6_foundOn b_this) ∧ (pX6_moving r) = (pX6_moving b_this) ∧ (pX6_movingMany r) = (pX6_movingMany b_this) ∧ (pX6_foundIncome r) = (pX6_foundIncome b_this) ∧ (pX6_foundMoves r) = (pX6_foundMoves b_this) := by
  intro fu
  induction fu with
  | zero => intro Fv_buffer Fv_size Fv_at Fv_behind Fv_kind Fv_number b_this r h_v_buffer h_v_size h_v_at h_v_behind h_v_kind h_v_number hg; rw [g_X6_next_8.eq_1] at hg; cases hg
  | succ fu ih =>
    intro Fv_buffer Fv_size Fv_at Fv_behind Fv_kind Fv_number b_this r h_v_buffer h_v_size h_v_at h_v_behind h_v_kind h_v_number hg
    rw [g_X6_next_8.eq_2] at hg
    rw [f_X6_next_8.eq_2]
    refine lB_1_1 (fun r hr => l_X6_see  _ _ _ _ _ r h_v_at h_v_buffer h_v_size hr) hg (fun Fr_16 r_16 hq hg => ?_)
    obtain ⟨q_10⟩ := hq
    refine lI (LI_eq q_10 (LI_n (x := 32) rfl)) hg (fun hc hg => ?_) (fun hc hg => ?_)
    · refine lR hg (fun hr_11 hg => ?_)
      refine lL (LI_of (EI_add (EI_i h_v_at) (EI_i (LI_n (x := 1) rfl))) hr_11) hg (fun Fy_29 y_29 h_y_29 hg => ?_)
      obtain ⟨R, hR, c0, c1, c2, c3, c4, c5, c6, c7, c8, c9, c10, c11, c12, c13, c14, c15, c16, c17, c18, c19, c20, c21, c22, c23, c24, c25, c26, c27⟩ := ih _ _ _ _ _ _ _ _ h_v_buffer h_v_size h_y_29 h_v_behind h_v_kind h_v_number hg
      exact ⟨R, hR, c0, c1, c2, c3, c4, c5, c6, c7, c8, c9, c10, c11, c12, c13, c14, c15, c16, c17, c18, c19, c20, c21, c22, c23, c24, c25, c26, c27⟩
    · refine lI (LI_lt h_v_at h_v_size) hg (fun hc hg => ?_) (fun hc hg => ?_)
      · refine lB_1_1 (fun r hr => l_X6_see  _ _ _ _ _ r h_v_at h_v_buffer h_v_size hr) hg (fun Fr_18 r_18 hq hg => ?_)
        obtain ⟨q_12⟩ := hq
        refine lB_1_1 (fun r hr => l_X6_isSmall  _ _ r q_12 hr) hg (fun Fr_20 r_20 hq hg => ?_)
        obtain ⟨q_13⟩ := hq
        refine lI (LI_eq q_13 (LI_n (x := 0) rfl)) hg (fun hc hg => ?_) (fun hc hg => ?_)
        · refine lB_1_1 (fun r hr => l_X6_see  _ _ _ _ _ r h_v_at h_v_buffer h_v_size hr) hg (fun Fr_22 r_22 hq hg => ?_)
          obtain ⟨q_14⟩ := hq
          refine lB_1_1 (fun r hr => l_X6_isDigit  _ _ r q_14 hr) hg (fun Fr_24 r_24 hq hg => ?_)
          obtain ⟨q_15⟩ := hq
          refine lI (LI_eq q_15 (LI_n (x := 0) rfl)) hg (fun hc hg => ?_) (fun hc hg => ?_)
          · refine lR hg (fun hr_16 hg => ?_)
            refine lL (LI_of (EI_add (EI_i h_v_at) (EI_i (LI_n (x := 1) rfl))) hr_16) hg (fun Fy_26 y_26 h_y_26 hg => ?_)
            refine lB_1_1 (fun r hr => l_X6_see  _ _ _ _ _ r h_v_at h_v_buffer h_v_size hr) hg (fun Fr_27 r_27 hq hg => ?_)
            obtain ⟨q_17⟩ := hq
            refine lI (LI_eq q_17 (LI_n (x := 59) rfl)) hg (fun hc hg => ?_) (fun hc hg => ?_)
            · obtain ⟨R, hR, c0, c1, c2, c3, c4, c5, c6, c7, c8, c9, c10, c11, c12, c13, c14, c15, c16, c17, c18, c19, c20, c21, c22, c23, c24, c25, c26, c27⟩ := l_X6_next_237 _ _ _ _ _ _ _ _ (LI_n (x := 10) rfl) h_v_at h_y_26 h_v_kind h_v_number hg
              exact ⟨R, hR, c0, c1, c2, c3, c4, c5, c6, c7, c8, c9, c10, c11, c12, c13, c14, c15, c16, c17, c18, c19, c20, c21, c22, c23, c24, c25, c26, c27⟩
            · obtain ⟨R, hR, c0, c1, c2, c3, c4, c5, c6, c7, c8, c9, c10, c11, c12, c13, c14, c15, c16, c17, c18, c19, c20, c21, c22, c23, c24, c25, c26, c27⟩ := l_X6_next_237 _ _ _ _ _ _ _ _ (LI_n (x := 12) rfl) h_v_at h_y_26 h_v_kind h_v_number hg
              exact ⟨R, hR, c0, c1, c2, c3, c4, c5, c6, c7, c8, c9, c10, c11, c12, c13, c14, c15, c16, c17, c18, c19, c20, c21, c22, c23, c24, c25, c26, c27⟩
          · obtain ⟨R, hR, c0, c1, c2, c3, c4, c5, c6, c7, c8, c9, c10, c11, c12, c13, c14, c15, c16, c17, c18, c19, c20, c21, c22, c23, c24, c25, c26, c27⟩ := l_X6_next_133 n _ _ _ _ _ _ _ _ h_v_buffer h_v_size h_v_at h_v_at h_v_kind (LJ_n (x := 0) rfl) hg
            exact ⟨R, hR, c0, c1, c2, c3, c4, c5, c6, c7, c8, c9, c10, c11, c12, c13, c14, c15, c16, c17, c18, c19, c20, c21, c22, c23, c24, c25, c26, c27⟩
        · obtain ⟨R, hR, c0, c1, c2, c3, c4, c5, c6, c7, c8, c9, c10, c11, c12, c13, c14, c15, c16, c17, c18, c19, c20, c21, c22, c23, c24, c25, c26, c27⟩ := l_X6_next_76 n _ _ _ _ _ _ _ _ h_v_buffer h_v_size h_v_at h_v_at h_v_kind h_v_number hg
          exact ⟨R, hR, c0, c1, c2, c3, c4, c5, c6, c7, c8, c9, c10, c11, c12, c13, c14, c15, c16, c17, c18, c19, c20, c21, c22, c23, c24, c25, c26, c27⟩
      · cases hg
        exact ⟨_, rfl, h_v_at, h_v_at, (LI_n (x := 11) rfl), h_v_number, rfl, rfl, rfl, rfl, rfl, rfl, rfl, rfl, rfl, rfl, rfl, rfl, rfl, rfl, rfl, rfl, rfl, rfl, rfl, rfl, rfl, rfl, rfl, rfl⟩
set_option maxHeartbeats 4000000 in
set_option maxRecDepth 100000 in
theorem l_X6_next {n : Nat} : ∀ (Fv_buffer : Nat → Int32) (Fv_size : Int32) (Fv_at : Int32) (Fv_behind : Int32) (Fv_kind : Int32) (Fv_number : Int64) (b_this : BX6) (r : BX6), LA Fv_buffer (pX6_buffer b_this) → LI Fv_size (pX6_size b_this) → LI Fv_at (pX6_at b_this) → LI Fv_behind (pX6_behind b_this) → LI Fv_kind (pX6_kind b_this) → LJ Fv_number (pX6_number b_this) → g_X6_next n b_this = some r → ∃ R, f_X6_next n Fv_buffer Fv_size Fv_at Fv_behind Fv_kind Fv_number = some R ∧ LI (R.1) (pX6_at r) ∧ LI (R.2.1) (pX6_behind r) ∧ LI (R.2.2.1) (pX6_kind r) ∧ LJ (R.2.2.2) (pX6_number r) ∧ (pX6_a r) = (pX6_a b_this) ∧ (pX6_fresh r) = (pX6_fresh b_this) ∧ (pX6_kept r) = (pX6_kept b_this) ∧ (pX6_keptMany r) = (pX6_keptMany b_this) ∧ (pX6_thrown r) = (pX6_thrown b_this) ∧ (pX6_buffer r) = (pX6_buffer b_this) ∧ (pX6_buffered r) = (pX6_buffered b_this) ∧ (pX6_size r) = (pX6_size b_this) ∧ (pX6_wrong r) = (pX6_wrong b_this) ∧ (pX6_wrongAt r) = (pX6_wrongAt b_this) ∧ (pX6_errorAt r) = (pX6_errorAt b_this) ∧ (pX6_best r) = (pX6_best b_this) ∧ (pX6_rentBy r) = (pX6_rentBy b_this) ∧ (pX6_bareBy r) = (pX6_bareBy b_this) ∧ (pX6_aheadBy r) = (pX6_aheadBy b_this) ∧ (pX6_isEdge r) = (pX6_isEdge b_this) ∧ (pX6_tried r) = (pX6_tried b_this) ∧ (pX6_stands r) = (pX6_stands b_this) ∧ (pX6_found r) = (pX6_found b_this) ∧ (pX6_foundOn r) = (pX6_foundOn b_this) ∧ (pX6_moving r) = (pX6_moving b_this) ∧ (pX6_movingMany r) = (pX6_movingMany b_this) ∧ (pX6_foundIncome r) = (pX6_foundIncome b_this) ∧ (pX6_foundMoves r) = (pX6_foundMoves b_this) := by
  intro Fv_buffer Fv_size Fv_at Fv_behind Fv_kind Fv_number b_this r h_v_buffer h_v_size h_v_at h_v_behind h_v_kind h_v_number hg
  unfold g_X6_next at hg
  unfold f_X6_next
  obtain ⟨R, hR, c0, c1, c2, c3, c4, c5, c6, c7, c8, c9, c10, c11, c12, c13, c14, c15, c16, c17, c18, c19, c20, c21, c22, c23, c24, c25, c26, c27⟩ := l_X6_next_8 n _ _ _ _ _ _ _ _ h_v_buffer h_v_size h_v_behind h_v_behind h_v_kind h_v_number hg
  exact ⟨R, hR, c0, c1, c2, c3, c4, c5, c6, c7, c8, c9, c10, c11, c12, c13, c14, c15, c16, c17, c18, c19, c20, c21, c22, c23, c24, c25, c26, c27⟩
set_option maxHeartbeats 4000000 in
set_option maxRecDepth 100000 in
theorem l_X6_eats {n : Nat} : ∀ (Fx1 : Int32) (x1 : Int) (Fv_buffer : Nat → Int32) (Fv_size : Int32) (Fv_at : Int32) (Fv_behind : Int32) (Fv_kind : Int32) (Fv_wrong : Int32) (Fv_number : Int64) (b_this : BX6) (r : Int × BX6), LI Fx1 x1 → LA Fv_buffer (pX6_buffer b_this) → LI Fv_size (pX6_size b_this) → LI Fv_at (pX6_at b_this) → LI Fv_behind (pX6_behind b_this) → LI Fv_kind (pX6_kind b_this) → LI Fv_wrong (pX6_wrong b_this) → LJ Fv_number (pX6_number b_this) → g_X6_eats n b_this x1 = some r → ∃ R, f_X6_eats n Fv_buffer Fv_size Fv_at Fv_behind Fv_kind Fv_wrong Fv_number Fx1 = some R ∧ LI (R.1) (r.1) ∧ LI (R.2.1) (pX6_at (r.2)) ∧ LI (R.2.2.1) (pX6_behind (r.2)) ∧ LI (R.2.2.2.1) (pX6_kind (r.2)) ∧ LJ (R.2.2.2.2) (pX6_number (r.2)) ∧ (pX6_a (r.2)) = (pX6_a b_this) ∧ (pX6_fresh (r.2)) = (pX6_fresh b_this) ∧ (pX6_kept (r.2)) = (pX6_kept b_this) ∧ (pX6_keptMany (r.2)) = (pX6_keptMany b_this) ∧ (pX6_thrown (r.2)) = (pX6_thrown b_this) ∧ (pX6_buffer (r.2)) = (pX6_buffer b_this) ∧ (pX6_buffered (r.2)) = (pX6_buffered b_this) ∧ (pX6_size (r.2)) = (pX6_size b_this) ∧ (pX6_wrong (r.2)) = (pX6_wrong b_this) ∧ (pX6_wrongAt (r.2)) = (pX6_wrongAt b_this) ∧ (pX6_errorAt (r.2)) = (pX6_errorAt b_this) ∧ (pX6_best (r.2)) = (pX6_best b_this) ∧ (pX6_rentBy (r.2)) = (pX6_rentBy b_this) ∧ (pX6_bareBy (r.2)) = (pX6_bareBy b_this) ∧ (pX6_aheadBy (r.2)) = (pX6_aheadBy b_this) ∧ (pX6_isEdge (r.2)) = (pX6_isEdge b_this) ∧ (pX6_tried (r.2)) = (pX6_tried b_this) ∧ (pX6_stands (r.2)) = (pX6_stands b_this) ∧ (pX6_found (r.2)) = (pX6_found b_this) ∧ (pX6_foundOn (r.2)) = (pX6_foundOn b_this) ∧ (pX6_moving (r.2)) = (pX6_moving b_this) ∧ (pX6_movingMany (r.2)) = (pX6_movingMany b_this) ∧ (pX6_foundIncome (r.2)) = (pX6_foundIncome b_this) ∧ (pX6_foundMoves (r.2)) = (pX6_foundMoves b_this) := by
  intro Fx1 x1 Fv_buffer Fv_size Fv_at Fv_behind Fv_kind Fv_wrong Fv_number b_this r h_x1 h_v_buffer h_v_size h_v_at h_v_behind h_v_kind h_v_wrong h_v_number hg
  unfold g_X6_eats at hg
  unfold f_X6_eats
  refine lB_1_1 (fun r hr => l_X6_is  _ _ _ _ _ r h_x1 h_v_kind h_v_wrong hr) hg (fun Fr_1 r_1 hq hg => ?_)
  obtain ⟨q_1⟩ := hq
  refine lI (LI_eq q_1 (LI_n (x := 0) rfl)) hg (fun hc hg => ?_) (fun hc hg => ?_)
  · cases hg
    exact ⟨_, rfl, (LI_n (x := 0) rfl), h_v_at, h_v_behind, h_v_kind, h_v_number, rfl, rfl, rfl, rfl, rfl, rfl, rfl, rfl, rfl, rfl, rfl, rfl, rfl, rfl, rfl, rfl, rfl, rfl, rfl, rfl, rfl, rfl, rfl, rfl⟩
  · refine lB_4_1 (fun r hr => l_X6_next  _ _ _ _ _ _ _ r h_v_buffer h_v_size h_v_at h_v_behind h_v_kind h_v_number hr) hg (fun Fv_3 Fv_4 Fv_5 Fv_6 b_2 hq hg => ?_)
    obtain ⟨q_3, q_4, q_5, q_6, q_7, q_8, q_9, q_10, q_11, q_12, q_13, q_14, q_15, q_16, q_17, q_18, q_19, q_20, q_21, q_22, q_23, q_24, q_25, q_26, q_27, q_28, q_29, q_30⟩ := hq
    have hl_31 := (LA_cg q_12 h_v_buffer)
    have hl_32 := (LI_cg q_14 h_v_size)
    have hl_33 := (LI_cg q_15 h_v_wrong)
    cases hg
    exact ⟨_, rfl, (LI_n (x := 1) rfl), q_3, q_4, q_5, q_6, q_7, q_8, q_9, q_10, q_11, q_12, q_13, q_14, q_15, q_16, q_17, q_18, q_19, q_20, q_21, q_22, q_23, q_24, q_25, q_26, q_27, q_28, q_29, q_30⟩
set_option maxHeartbeats 4000000 in
set_option maxRecDepth 100000 in
theorem l_X6_errorPosition : ∀ (Fv_thrown : Int32) (Fv_errorAt : Int32) (b_this : BX6) (r : Int × BX6), LI Fv_thrown (pX6_thrown b_this) → LI Fv_errorAt (pX6_errorAt b_this) → g_X6_errorPosition b_this = some r → ∃ R, f_X6_errorPosition Fv_thrown Fv_errorAt = some R ∧ LI (R.1) (r.1) ∧ LI (R.2) (pX6_thrown (r.2)) ∧ (pX6_a (r.2)) = (pX6_a b_this) ∧ (pX6_fresh (r.2)) = (pX6_fresh b_this) ∧ (pX6_kept (r.2)) = (pX6_kept b_this) ∧ (pX6_keptMany (r.2)) = (pX6_keptMany b_this) ∧ (pX6_buffer (r.2)) = (pX6_buffer b_this) ∧ (pX6_buffered (r.2)) = (pX6_buffered b_this) ∧ (pX6_size (r.2)) = (pX6_size b_this) ∧ (pX6_at (r.2)) = (pX6_at b_this) ∧ (pX6_behind (r.2)) = (pX6_behind b_this) ∧ (pX6_kind (r.2)) = (pX6_kind b_this) ∧ (pX6_wrong (r.2)) = (pX6_wrong b_this) ∧ (pX6_wrongAt (r.2)) = (pX6_wrongAt b_this) ∧ (pX6_errorAt (r.2)) = (pX6_errorAt b_this) ∧ (pX6_number (r.2)) = (pX6_number b_this) ∧ (pX6_best (r.2)) = (pX6_best b_this) ∧ (pX6_rentBy (r.2)) = (pX6_rentBy b_this) ∧ (pX6_bareBy (r.2)) = (pX6_bareBy b_this) ∧ (pX6_aheadBy (r.2)) = (pX6_aheadBy b_this) ∧ (pX6_isEdge (r.2)) = (pX6_isEdge b_this) ∧ (pX6_tried (r.2)) = (pX6_tried b_this) ∧ (pX6_stands (r.2)) = (pX6_stands b_this) ∧ (pX6_found (r.2)) = (pX6_found b_this) ∧ (pX6_foundOn (r.2)) = (pX6_foundOn b_this) ∧ (pX6_moving (r.2)) = (pX6_moving b_this) ∧ (pX6_movingMany (r.2)) = (pX6_movingMany b_this) ∧ (pX6_foundIncome (r.2)) = (pX6_foundIncome b_this) ∧ (pX6_foundMoves (r.2)) = (pX6_foundMoves b_this) := by
  intro Fv_thrown Fv_errorAt b_this r h_v_thrown h_v_errorAt hg
  unfold g_X6_errorPosition at hg
  unfold f_X6_errorPosition
  cases hg
  exact ⟨_, rfl, h_v_errorAt, (LI_n (x := 0) rfl), rfl, rfl, rfl, rfl, rfl, rfl, rfl, rfl, rfl, rfl, rfl, rfl, rfl, rfl, rfl, rfl, rfl, rfl, rfl, rfl, rfl, rfl, rfl, rfl, rfl, rfl, rfl⟩
set_option maxHeartbeats 4000000 in
set_option maxRecDepth 100000 in
theorem l_X6_fails : ∀ (Fx1 : Int32) (x1 : Int) (Fv_at : Int32) (Fv_wrong : Int32) (Fv_wrongAt : Int32) (b_this : BX6) (r : BX6), LI Fx1 x1 → LI Fv_at (pX6_at b_this) → LI Fv_wrong (pX6_wrong b_this) → LI Fv_wrongAt (pX6_wrongAt b_this) → g_X6_fails b_this x1 = some r → ∃ R, f_X6_fails Fv_at Fv_wrong Fv_wrongAt Fx1 = some R ∧ LI (R.1) (pX6_wrong r) ∧ LI (R.2) (pX6_wrongAt r) ∧ (pX6_a r) = (pX6_a b_this) ∧ (pX6_fresh r) = (pX6_fresh b_this) ∧ (pX6_kept r) = (pX6_kept b_this) ∧ (pX6_keptMany r) = (pX6_keptMany b_this) ∧ (pX6_thrown r) = (pX6_thrown b_this) ∧ (pX6_buffer r) = (pX6_buffer b_this) ∧ (pX6_buffered r) = (pX6_buffered b_this) ∧ (pX6_size r) = (pX6_size b_this) ∧ (pX6_at r) = (pX6_at b_this) ∧ (pX6_behind r) = (pX6_behind b_this) ∧ (pX6_kind r) = (pX6_kind b_this) ∧ (pX6_errorAt r) = (pX6_errorAt b_this) ∧ (pX6_number r) = (pX6_number b_this) ∧ (pX6_best r) = (pX6_best b_this) ∧ (pX6_rentBy r) = (pX6_rentBy b_this) ∧ (pX6_bareBy r) = (pX6_bareBy b_this) ∧ (pX6_aheadBy r) = (pX6_aheadBy b_this) ∧ (pX6_isEdge r) = (pX6_isEdge b_this) ∧ (pX6_tried r) = (pX6_tried b_this) ∧ (pX6_stands r) = (pX6_stands b_this) ∧ (pX6_found r) = (pX6_found b_this) ∧ (pX6_foundOn r) = (pX6_foundOn b_this) ∧ (pX6_moving r) = (pX6_moving b_this) ∧ (pX6_movingMany r) = (pX6_movingMany b_this) ∧ (pX6_foundIncome r) = (pX6_foundIncome b_this) ∧ (pX6_foundMoves r) = (pX6_foundMoves b_this) := by
  intro Fx1 x1 Fv_at Fv_wrong Fv_wrongAt b_this r h_x1 h_v_at h_v_wrong h_v_wrongAt hg
  unfold g_X6_fails at hg
  unfold f_X6_fails
  refine lI (LI_eq h_v_wrong (LI_n (x := 0) rfl)) hg (fun hc hg => ?_) (fun hc hg => ?_)
  · cases hg
    exact ⟨_, rfl, h_x1, h_v_at, rfl, rfl, rfl, rfl, rfl, rfl, rfl, rfl, rfl, rfl, rfl, rfl, rfl, rfl, rfl, rfl, rfl, rfl, rfl, rfl, rfl, rfl, rfl, rfl, rfl, rfl⟩
  · cases hg
    exact ⟨_, rfl, h_v_wrong, h_v_wrongAt, rfl, rfl, rfl, rfl, rfl, rfl, rfl, rfl, rfl, rfl, rfl, rfl, rfl, rfl, rfl, rfl, rfl, rfl, rfl, rfl, rfl, rfl, rfl, rfl, rfl, rfl⟩
set_option maxHeartbeats 4000000 in
set_option maxRecDepth 100000 in
theorem l_X6_incomeNow_47 {n : Nat} {K4 : Int32 → Int32 → (Nat → Int32) → Option (Int32)} {k4 : Int → Int → BX6 → Option (Int)} (hk4 : ∀ (Fx1 : Int32) (Fx2 : Int32) (x1 : Int) (x2 : Int) (Fv_a : Nat → Int32) (b_this : BX6) (r : Int), LI Fx1 x1 → LI Fx2 x2 → LA Fv_a (pX6_a b_this) → k4 x1 x2 b_this = some r → ∃ R, K4 Fx1 Fx2 Fv_a = some R ∧ LI R r) : ∀ (Ft0 : Int32) (Ft1 : Int32) (Fx2 : Int32) (t0 : Int) (t1 : Int) (x2 : Int) (Fv_a : Nat → Int32) (b_this : BX6) (r : Int), LI Ft0 t0 → LI Ft1 t1 → LI Fx2 x2 → LA Fv_a (pX6_a b_this) → g_X6_incomeNow_47 n k4 t0 t1 x2 b_this = some r → ∃ R, f_X6_incomeNow_47 n K4 Ft0 Ft1 Fx2 Fv_a = some R ∧ LI R r := by
  intro Ft0 Ft1 Fx2 t0 t1 x2 Fv_a b_this r h_t0 h_t1 h_x2 h_v_a hg
  unfold g_X6_incomeNow_47 at hg
  unfold f_X6_incomeNow_47
  refine lR hg (fun hr_1 hg => ?_)
  refine lL (LI_of (EI_add (EI_i h_t0) (EI_i h_t1)) hr_1) hg (fun Fy_1 y_1 h_y_1 hg => ?_)
  refine lR hg (fun hr_2 hg => ?_)
  obtain ⟨R, hR, c0⟩ := hk4 _ _ _ _ _ _ _ h_y_1 (LI_of (EI_add (EI_i h_x2) (EI_i (LI_n (x := 1) rfl))) hr_2) h_v_a hg
  exact ⟨R, hR, c0⟩
set_option maxHeartbeats 4000000 in
set_option maxRecDepth 100000 in
theorem l_X6_incomeNow_4 {n : Nat} : ∀ (fu : Nat), ∀ (Fx1 : Int32) (Fx2 : Int32) (x1 : Int) (x2 : Int) (Fv_a : Nat → Int32) (b_this : BX6) (r : Int), LI Fx1 x1 → LI Fx2 x2 → LA Fv_a (pX6_a b_this) → g_X6_incomeNow_4 n fu x1 x2 b_this = some r → ∃ R, f_X6_incomeNow_4 n fu Fx1 Fx2 Fv_a = some R ∧ LI R r := by
  intro fu
  induction fu with
  | zero => intro Fx1 Fx2 x1 x2 Fv_a b_this r h_x1 h_x2 h_v_a hg; rw [g_X6_incomeNow_4.eq_1] at hg; cases hg
  | succ fu ih =>
    intro Fx1 Fx2 x1 x2 Fv_a b_this r h_x1 h_x2 h_v_a hg
    rw [g_X6_incomeNow_4.eq_2] at hg
    rw [f_X6_incomeNow_4.eq_2]
    refine lA (EI_i (LI_n (x := 74) rfl)) rfl hg (fun ha_3 hg => ?_)
    refine lI (LI_le (LA_at h_v_a (EI_i (LI_n (x := 74) rfl)) ha_3) h_x2) hg (fun hc hg => ?_) (fun hc hg => ?_)
    · cases hg
      exact ⟨_, rfl, h_x1⟩
    · refine lA (EI_add (EI_i (LI_n (x := 107) rfl)) (EI_i h_x2)) rfl hg (fun ha_4 hg => ?_)
      refine lI (LI_eq (LA_at h_v_a (EI_add (EI_i (LI_n (x := 107) rfl)) (EI_i h_x2)) ha_4) (LI_n (x := -1) rfl)) hg (fun hc hg => ?_) (fun hc hg => ?_)
      · obtain ⟨R, hR, c0⟩ := l_X6_incomeNow_47 ih _ _ _ _ _ _ _ _ _ h_x1 (LI_n (x := 0) rfl) h_x2 h_v_a hg
        exact ⟨R, hR, c0⟩
      · refine lA (EI_add (EI_i (LI_n (x := 107) rfl)) (EI_i h_x2)) rfl hg (fun ha_5 hg => ?_)
        refine lB_1_1 (fun r hr => l_X6_rentOf  _ _ _ _ _ _ r h_x2 (LA_at h_v_a (EI_add (EI_i (LI_n (x := 107) rfl)) (EI_i h_x2)) ha_5) h_v_a hr) hg (fun Fr_5 r_5 hq hg => ?_)
        obtain ⟨q_6⟩ := hq
        obtain ⟨R, hR, c0⟩ := l_X6_incomeNow_47 ih _ _ _ _ _ _ _ _ _ h_x1 q_6 h_x2 h_v_a hg
        exact ⟨R, hR, c0⟩
set_option maxHeartbeats 4000000 in
set_option maxRecDepth 100000 in
theorem l_X6_incomeNow {n : Nat} : ∀ (Fv_a : Nat → Int32) (b_this : BX6) (r : Int), LA Fv_a (pX6_a b_this) → g_X6_incomeNow n b_this = some r → ∃ R, f_X6_incomeNow n Fv_a = some R ∧ LI R r := by
  intro Fv_a b_this r h_v_a hg
  unfold g_X6_incomeNow at hg
  unfold f_X6_incomeNow
  obtain ⟨R, hR, c0⟩ := l_X6_incomeNow_4 n _ _ _ _ _ _ _ (LI_n (x := 0) rfl) (LI_n (x := 0) rfl) h_v_a hg
  exact ⟨R, hR, c0⟩
set_option maxHeartbeats 4000000 in
set_option maxRecDepth 100000 in
theorem l_X6_isFree_2 {n : Nat} : ∀ (fu : Nat), ∀ (Fx1 : Int32) (Fx2 : Int32) (Fx3 : Int32) (x1 : Int) (x2 : Int) (x3 : Int) (Fv_a : Nat → Int32) (b_this : BX6) (r : Int), LI Fx1 x1 → LI Fx2 x2 → LI Fx3 x3 → LA Fv_a (pX6_a b_this) → g_X6_isFree_2 n fu x1 x2 x3 b_this = some r → ∃ R, f_X6_isFree_2 n fu Fx1 Fx2 Fx3 Fv_a = some R ∧ LI R r := by
  intro fu
  induction fu with
  | zero => intro Fx1 Fx2 Fx3 x1 x2 x3 Fv_a b_this r h_x1 h_x2 h_x3 h_v_a hg; rw [g_X6_isFree_2.eq_1] at hg; cases hg
  | succ fu ih =>
    intro Fx1 Fx2 Fx3 x1 x2 x3 Fv_a b_this r h_x1 h_x2 h_x3 h_v_a hg
    rw [g_X6_isFree_2.eq_2] at hg
    rw [f_X6_isFree_2.eq_2]
    refine lA (EI_add (EI_i (LI_n (x := 83) rfl)) (EI_i h_x1)) rfl hg (fun ha_1 hg => ?_)
    refine lI (LI_le (LA_at h_v_a (EI_add (EI_i (LI_n (x := 83) rfl)) (EI_i h_x1)) ha_1) h_x3) hg (fun hc hg => ?_) (fun hc hg => ?_)
    · cases hg
      exact ⟨_, rfl, (LI_n (x := 1) rfl)⟩
    · refine lR hg (fun hr_2 hg => ?_)
      refine lB_1_1 (fun r hr => l_X6_on  _ _ _ _ r (LI_of (EI_add (EI_i h_x2) (EI_i h_x3)) hr_2) h_v_a hr) hg (fun Fr_2 r_2 hq hg => ?_)
      obtain ⟨q_3⟩ := hq
      refine lI (LI_eq q_3 (LI_n (x := -1) rfl)) hg (fun hc hg => ?_) (fun hc hg => ?_)
      · refine lR hg (fun hr_4 hg => ?_)
        obtain ⟨R, hR, c0⟩ := ih _ _ _ _ _ _ _ _ _ h_x1 h_x2 (LI_of (EI_add (EI_i h_x3) (EI_i (LI_n (x := 1) rfl))) hr_4) h_v_a hg
        exact ⟨R, hR, c0⟩
      · cases hg
        exact ⟨_, rfl, (LI_n (x := 0) rfl)⟩
set_option maxHeartbeats 4000000 in
set_option maxRecDepth 100000 in
theorem l_X6_isFree {n : Nat} : ∀ (Fx1 : Int32) (Fx2 : Int32) (x1 : Int) (x2 : Int) (Fv_a : Nat → Int32) (b_this : BX6) (r : Int), LI Fx1 x1 → LI Fx2 x2 → LA Fv_a (pX6_a b_this) → g_X6_isFree n b_this x1 x2 = some r → ∃ R, f_X6_isFree n Fv_a Fx1 Fx2 = some R ∧ LI R r := by
  intro Fx1 Fx2 x1 x2 Fv_a b_this r h_x1 h_x2 h_v_a hg
  unfold g_X6_isFree at hg
  unfold f_X6_isFree
  obtain ⟨R, hR, c0⟩ := l_X6_isFree_2 n _ _ _ _ _ _ _ _ _ h_x1 h_x2 (LI_n (x := 0) rfl) h_v_a hg
  exact ⟨R, hR, c0⟩
set_option maxHeartbeats 4000000 in
set_option maxRecDepth 100000 in
theorem l_X6_hinders_113 {n : Nat} : ∀ (b_this : BX6) (r : Int), g_X6_hinders_113 n b_this = some r → ∃ R, f_X6_hinders_113 n = some R ∧ LI R r := by
  intro b_this r hg
  unfold g_X6_hinders_113 at hg
  unfold f_X6_hinders_113
  cases hg
  exact ⟨_, rfl, (LI_n (x := 6) rfl)⟩
set_option maxHeartbeats 4000000 in
set_option maxRecDepth 100000 in
theorem l_X6_hinders {n : Nat} : ∀ (Fx1 : Int32) (Fx2 : Int32) (x1 : Int) (x2 : Int) (Fv_a : Nat → Int32) (b_this : BX6) (r : Int), LI Fx1 x1 → LI Fx2 x2 → LA Fv_a (pX6_a b_this) → g_X6_hinders n b_this x1 x2 = some r → ∃ R, f_X6_hinders n Fv_a Fx1 Fx2 = some R ∧ LI R r := by
  intro Fx1 Fx2 x1 x2 Fv_a b_this r h_x1 h_x2 h_v_a hg
  unfold g_X6_hinders at hg
  unfold f_X6_hinders
  refine lA (EI_add (EI_i (LI_n (x := 107) rfl)) (EI_i h_x1)) rfl hg (fun ha_1 hg => ?_)
  refine lI (LI_eq (LA_at h_v_a (EI_add (EI_i (LI_n (x := 107) rfl)) (EI_i h_x1)) ha_1) (LI_n (x := -1) rfl)) hg (fun hc hg => ?_) (fun hc hg => ?_)
  · refine lB_1_1 (fun r hr => l_X6_isRoom  _ _ _ _ _ _ r h_x1 h_x2 h_v_a hr) hg (fun Fr_2 r_2 hq hg => ?_)
    obtain ⟨q_2⟩ := hq
    refine lI (LI_eq q_2 (LI_n (x := 0) rfl)) hg (fun hc hg => ?_) (fun hc hg => ?_)
    · cases hg
      exact ⟨_, rfl, (LI_n (x := 2) rfl)⟩
    · refine lB_1_1 (fun r hr => l_X6_isFree  _ _ _ _ _ _ r h_x1 h_x2 h_v_a hr) hg (fun Fr_4 r_4 hq hg => ?_)
      obtain ⟨q_3⟩ := hq
      refine lI (LI_eq q_3 (LI_n (x := 0) rfl)) hg (fun hc hg => ?_) (fun hc hg => ?_)
      · cases hg
        exact ⟨_, rfl, (LI_n (x := 3) rfl)⟩
      · refine lB_1_1 (fun r hr => l_X6_rentOf  _ _ _ _ _ _ r h_x1 h_x2 h_v_a hr) hg (fun Fr_6 r_6 hq hg => ?_)
        obtain ⟨q_4⟩ := hq
        refine lA (EI_add (EI_i (LI_n (x := 91) rfl)) (EI_i h_x1)) rfl hg (fun ha_5 hg => ?_)
        refine lI (LI_le q_4 (LA_at h_v_a (EI_add (EI_i (LI_n (x := 91) rfl)) (EI_i h_x1)) ha_5)) hg (fun hc hg => ?_) (fun hc hg => ?_)
        · refine lB_1_1 (fun r hr => l_X6_usedCovers  _ _ r h_v_a hr) hg (fun Fr_9 r_9 hq hg => ?_)
          obtain ⟨q_6⟩ := hq
          refine lB_1_1 (fun r hr => l_X6_bare  _ _ _ _ _ _ r h_x1 h_x2 h_v_a hr) hg (fun Fr_11 r_11 hq hg => ?_)
          obtain ⟨q_7⟩ := hq
          refine lA (EI_i (LI_n (x := 179) rfl)) rfl hg (fun ha_8 hg => ?_)
          refine lR hg (fun hr_9 hg => ?_)
          refine lI (LI_le (LI_of (EI_add (EI_i q_6) (EI_i q_7)) hr_9) (LA_at h_v_a (EI_i (LI_n (x := 179) rfl)) ha_8)) hg (fun hc hg => ?_) (fun hc hg => ?_)
          · refine lR hg (fun hr_10 hg => ?_)
            refine lB_1_1 (fun r hr => l_X6_clashesAt  _ _ _ _ _ _ _ _ r h_x1 h_x2 (LI_of (EI_sub (EI_i h_x2) (EI_i (LI_n (x := 1) rfl))) hr_10) h_v_a hr) hg (fun Fr_14 r_14 hq hg => ?_)
            obtain ⟨q_11⟩ := hq
            refine lI (LI_eq q_11 (LI_n (x := 0) rfl)) hg (fun hc hg => ?_) (fun hc hg => ?_)
            · refine lA (EI_add (EI_i (LI_n (x := 83) rfl)) (EI_i h_x1)) rfl hg (fun ha_12 hg => ?_)
              refine lR hg (fun hr_13 hg => ?_)
              refine lB_1_1 (fun r hr => l_X6_clashesAt  _ _ _ _ _ _ _ _ r h_x1 h_x2 (LI_of (EI_add (EI_i h_x2) (EI_i (LA_at h_v_a (EI_add (EI_i (LI_n (x := 83) rfl)) (EI_i h_x1)) ha_12))) hr_13) h_v_a hr) hg (fun Fr_17 r_17 hq hg => ?_)
              obtain ⟨q_14⟩ := hq
              refine lI (LI_eq q_14 (LI_n (x := 0) rfl)) hg (fun hc hg => ?_) (fun hc hg => ?_)
              · cases hg
                exact ⟨_, rfl, (LI_n (x := 0) rfl)⟩
              · obtain ⟨R, hR, c0⟩ := l_X6_hinders_113 _ _  hg
                exact ⟨R, hR, c0⟩
            · obtain ⟨R, hR, c0⟩ := l_X6_hinders_113 _ _  hg
              exact ⟨R, hR, c0⟩
          · cases hg
            exact ⟨_, rfl, (LI_n (x := 5) rfl)⟩
        · cases hg
          exact ⟨_, rfl, (LI_n (x := 4) rfl)⟩
  · cases hg
    exact ⟨_, rfl, (LI_n (x := 1) rfl)⟩
set_option maxHeartbeats 4000000 in
set_option maxRecDepth 100000 in
theorem l_X6_takesStart_45 {n : Nat} {K4 : Int32 → Int32 → Int32 → (Nat → Int32) → Option (Int32)} {k4 : Int → Int → Int → BX6 → Option (Int)} (hk4 : ∀ (Fx1 : Int32) (Fx2 : Int32) (Fx3 : Int32) (x1 : Int) (x2 : Int) (x3 : Int) (Fv_a : Nat → Int32) (b_this : BX6) (r : Int), LI Fx1 x1 → LI Fx2 x2 → LI Fx3 x3 → LA Fv_a (pX6_a b_this) → k4 x1 x2 x3 b_this = some r → ∃ R, K4 Fx1 Fx2 Fx3 Fv_a = some R ∧ LI R r) : ∀ (Fx1 : Int32) (Fx2 : Int32) (Fx3 : Int32) (x1 : Int) (x2 : Int) (x3 : Int) (Fv_a : Nat → Int32) (b_this : BX6) (r : Int), LI Fx1 x1 → LI Fx2 x2 → LI Fx3 x3 → LA Fv_a (pX6_a b_this) → g_X6_takesStart_45 n k4 x1 x2 x3 b_this = some r → ∃ R, f_X6_takesStart_45 n K4 Fx1 Fx2 Fx3 Fv_a = some R ∧ LI R r := by
  intro Fx1 Fx2 Fx3 x1 x2 x3 Fv_a b_this r h_x1 h_x2 h_x3 h_v_a hg
  unfold g_X6_takesStart_45 at hg
  unfold f_X6_takesStart_45
  refine lR hg (fun hr_1 hg => ?_)
  obtain ⟨R, hR, c0⟩ := hk4 _ _ _ _ _ _ _ _ _ h_x1 h_x2 (LI_of (EI_add (EI_i h_x3) (EI_i (LI_n (x := 1) rfl))) hr_1) h_v_a hg
  exact ⟨R, hR, c0⟩
set_option maxHeartbeats 4000000 in
set_option maxRecDepth 100000 in
theorem l_X6_takesStart_43 {n : Nat} {K4 : Int32 → Int32 → Int32 → (Nat → Int32) → Option (Int32)} {k4 : Int → Int → Int → BX6 → Option (Int)} (hk4 : ∀ (Fx1 : Int32) (Fx2 : Int32) (Fx3 : Int32) (x1 : Int) (x2 : Int) (x3 : Int) (Fv_a : Nat → Int32) (b_this : BX6) (r : Int), LI Fx1 x1 → LI Fx2 x2 → LI Fx3 x3 → LA Fv_a (pX6_a b_this) → k4 x1 x2 x3 b_this = some r → ∃ R, K4 Fx1 Fx2 Fx3 Fv_a = some R ∧ LI R r) : ∀ (Fx1 : Int32) (Fx3 : Int32) (x1 : Int) (x3 : Int) (Fv_a : Nat → Int32) (b_this : BX6) (r : Int), LI Fx1 x1 → LI Fx3 x3 → LA Fv_a (pX6_a b_this) → g_X6_takesStart_43 n k4 x1 x3 b_this = some r → ∃ R, f_X6_takesStart_43 n K4 Fx1 Fx3 Fv_a = some R ∧ LI R r := by
  intro Fx1 Fx3 x1 x3 Fv_a b_this r h_x1 h_x3 h_v_a hg
  unfold g_X6_takesStart_43 at hg
  unfold f_X6_takesStart_43
  obtain ⟨R, hR, c0⟩ := l_X6_takesStart_45 hk4 _ _ _ _ _ _ _ _ _ h_x1 h_x3 h_x3 h_v_a hg
  exact ⟨R, hR, c0⟩
set_option maxHeartbeats 4000000 in
set_option maxRecDepth 100000 in
theorem l_X6_takesStart_4 {n : Nat} : ∀ (fu : Nat), ∀ (Fx1 : Int32) (Fx2 : Int32) (Fx3 : Int32) (x1 : Int) (x2 : Int) (x3 : Int) (Fv_a : Nat → Int32) (b_this : BX6) (r : Int), LI Fx1 x1 → LI Fx2 x2 → LI Fx3 x3 → LA Fv_a (pX6_a b_this) → g_X6_takesStart_4 n fu x1 x2 x3 b_this = some r → ∃ R, f_X6_takesStart_4 n fu Fx1 Fx2 Fx3 Fv_a = some R ∧ LI R r := by
  intro fu
  induction fu with
  | zero => intro Fx1 Fx2 Fx3 x1 x2 x3 Fv_a b_this r h_x1 h_x2 h_x3 h_v_a hg; rw [g_X6_takesStart_4.eq_1] at hg; cases hg
  | succ fu ih =>
    intro Fx1 Fx2 Fx3 x1 x2 x3 Fv_a b_this r h_x1 h_x2 h_x3 h_v_a hg
    rw [g_X6_takesStart_4.eq_2] at hg
    rw [f_X6_takesStart_4.eq_2]
    refine lA (EI_i (LI_n (x := 1) rfl)) rfl hg (fun ha_2 hg => ?_)
    refine lI (LI_le (LA_at h_v_a (EI_i (LI_n (x := 1) rfl)) ha_2) h_x3) hg (fun hc hg => ?_) (fun hc hg => ?_)
    · cases hg
      exact ⟨_, rfl, h_x2⟩
    · refine lB_1_1 (fun r hr => l_X6_hinders  _ _ _ _ _ _ r h_x1 h_x3 h_v_a hr) hg (fun Fr_2 r_2 hq hg => ?_)
      obtain ⟨q_3⟩ := hq
      refine lI (LI_eq q_3 (LI_n (x := 0) rfl)) hg (fun hc hg => ?_) (fun hc hg => ?_)
      · refine lI (LI_eq h_x2 (LI_n (x := -1) rfl)) hg (fun hc hg => ?_) (fun hc hg => ?_)
        · obtain ⟨R, hR, c0⟩ := l_X6_takesStart_43 ih _ _ _ _ _ _ _ h_x1 h_x3 h_v_a hg
          exact ⟨R, hR, c0⟩
        · refine lB_1_1 (fun r hr => l_X6_rentOf  _ _ _ _ _ _ r h_x1 h_x3 h_v_a hr) hg (fun Fr_4 r_4 hq hg => ?_)
          obtain ⟨q_4⟩ := hq
          refine lB_1_1 (fun r hr => l_X6_rentOf  _ _ _ _ _ _ r h_x1 h_x2 h_v_a hr) hg (fun Fr_6 r_6 hq hg => ?_)
          obtain ⟨q_5⟩ := hq
          refine lI (LI_le q_4 q_5) hg (fun hc hg => ?_) (fun hc hg => ?_)
          · obtain ⟨R, hR, c0⟩ := l_X6_takesStart_45 ih _ _ _ _ _ _ _ _ _ h_x1 h_x2 h_x3 h_v_a hg
            exact ⟨R, hR, c0⟩
          · obtain ⟨R, hR, c0⟩ := l_X6_takesStart_43 ih _ _ _ _ _ _ _ h_x1 h_x3 h_v_a hg
            exact ⟨R, hR, c0⟩
      · obtain ⟨R, hR, c0⟩ := l_X6_takesStart_45 ih _ _ _ _ _ _ _ _ _ h_x1 h_x2 h_x3 h_v_a hg
        exact ⟨R, hR, c0⟩
set_option maxHeartbeats 4000000 in
set_option maxRecDepth 100000 in
theorem l_X6_takesStart {n : Nat} : ∀ (Fx1 : Int32) (x1 : Int) (Fv_a : Nat → Int32) (b_this : BX6) (r : Int), LI Fx1 x1 → LA Fv_a (pX6_a b_this) → g_X6_takesStart n b_this x1 = some r → ∃ R, f_X6_takesStart n Fv_a Fx1 = some R ∧ LI R r := by
  intro Fx1 x1 Fv_a b_this r h_x1 h_v_a hg
  unfold g_X6_takesStart at hg
  unfold f_X6_takesStart
  obtain ⟨R, hR, c0⟩ := l_X6_takesStart_4 n _ _ _ _ _ _ _ _ _ h_x1 (LI_n (x := -1) rfl) (LI_n (x := 0) rfl) h_v_a hg
  exact ⟨R, hR, c0⟩
set_option maxHeartbeats 4000000 in
set_option maxRecDepth 100000 in
theorem l_X6_isOrder_5 {n : Nat} : ∀ (fu : Nat), ∀ (Fx1 : Int64) (Fx3 : Int32) (Fx4 : Int64) (x1 : Int) (x3 : Int) (x4 : Int) (Fv_a : Nat → Int32) (b_this : BX6) (r : Int), LJ Fx1 x1 → LI Fx3 x3 → LJ Fx4 x4 → LA Fv_a (pX6_a b_this) → g_X6_isOrder_5 n fu x1 x3 x4 b_this = some r → ∃ R, f_X6_isOrder_5 n fu Fx1 Fx3 Fx4 Fv_a = some R ∧ LI R r := by
  intro fu
  induction fu with
  | zero => intro Fx1 Fx3 Fx4 x1 x3 x4 Fv_a b_this r h_x1 h_x3 h_x4 h_v_a hg; rw [g_X6_isOrder_5.eq_1] at hg; cases hg
  | succ fu ih =>
    intro Fx1 Fx3 Fx4 x1 x3 x4 Fv_a b_this r h_x1 h_x3 h_x4 h_v_a hg
    rw [g_X6_isOrder_5.eq_2] at hg
    rw [f_X6_isOrder_5.eq_2]
    refine lI (LC_le h_x4 (LJ_n (x := 0) rfl)) hg (fun hc hg => ?_) (fun hc hg => ?_)
    · refine lI (LC_lt h_x1 (LJ_n (x := 0) rfl)) hg (fun hc hg => ?_) (fun hc hg => ?_)
      · cases hg
        exact ⟨_, rfl, (LI_n (x := 0) rfl)⟩
      · cases hg
        exact ⟨_, rfl, (LI_n (x := 1) rfl)⟩
    · refine lD hg (fun hd_1 hg => ?_)
      refine lRJ hg (fun hr_2 hg => ?_)
      refine lR hg (fun hr_3 hg => ?_)
      refine lL (LI_of (EI_sub (EI_l (LJ_of (EJ_rem h_x4 (LJ_n (x := 10) rfl) hd_1) hr_2)) (EI_i (LI_n (x := 1) rfl))) hr_3) hg (fun Fy_1 y_1 h_y_1 hg => ?_)
      refine lB_1_1 (fun r hr => l_X6_isTrader  _ _ _ _ r h_y_1 h_v_a hr) hg (fun Fr_2 r_2 hq hg => ?_)
      obtain ⟨q_4⟩ := hq
      refine lI (LI_eq q_4 (LI_n (x := 0) rfl)) hg (fun hc hg => ?_) (fun hc hg => ?_)
      · cases hg
        exact ⟨_, rfl, (LI_n (x := 0) rfl)⟩
      · refine lI (LI_eq (LI_and (LI_shr h_x3 h_y_1) (LI_n (x := 1) rfl)) (LI_n (x := 1) rfl)) hg (fun hc hg => ?_) (fun hc hg => ?_)
        · cases hg
          exact ⟨_, rfl, (LI_n (x := 0) rfl)⟩
        · refine lL (LI_or h_x3 (LI_shl (LI_n (x := 1) rfl) h_y_1)) hg (fun Fy_4 y_4 h_y_4 hg => ?_)
          refine lRJ hg (fun hr_5 hg => ?_)
          refine lL (LJ_of (EJ_div h_x4 (LJ_n (x := 10) rfl) hd_1) hr_5) hg (fun Fy_5 y_5 h_y_5 hg => ?_)
          obtain ⟨R, hR, c0⟩ := ih _ _ _ _ _ _ _ _ _ h_x1 h_y_4 h_y_5 h_v_a hg
          exact ⟨R, hR, c0⟩
set_option maxHeartbeats 4000000 in
set_option maxRecDepth 100000 in
theorem l_X6_isOrder {n : Nat} : ∀ (Fx1 : Int64) (x1 : Int) (Fv_a : Nat → Int32) (b_this : BX6) (r : Int), LJ Fx1 x1 → LA Fv_a (pX6_a b_this) → g_X6_isOrder n b_this x1 = some r → ∃ R, f_X6_isOrder n Fv_a Fx1 = some R ∧ LI R r := by
  intro Fx1 x1 Fv_a b_this r h_x1 h_v_a hg
  unfold g_X6_isOrder at hg
  unfold f_X6_isOrder
  obtain ⟨R, hR, c0⟩ := l_X6_isOrder_5 n _ _ _ _ _ _ _ _ _ h_x1 (LI_n (x := 0) rfl) h_x1 h_v_a hg
  exact ⟨R, hR, c0⟩
set_option maxHeartbeats 4000000 in
set_option maxRecDepth 100000 in
theorem l_X6_firstCome_151 {n : Nat} : ∀ (fu : Nat), ∀ (Fx5 : Int32) (Fx6 : Int32) (x5 : Int) (x6 : Int) (Fv_a : Nat → Int32) (Fv_thrown : Int32) (Fv_found : Nat → Int32) (b_this : BX6) (r : Int × BX6), LI Fx5 x5 → LI Fx6 x6 → LA Fv_a (pX6_a b_this) → LI Fv_thrown (pX6_thrown b_this) → LA Fv_found (pX6_found b_this) → g_X6_firstCome_151 n fu x5 x6 b_this = some r → ∃ R, f_X6_firstCome_151 n fu Fx5 Fx6 Fv_a Fv_thrown Fv_found = some R ∧ LI (R.1) (r.1) ∧ LA (R.2.1) (pX6_a (r.2)) ∧ LI (R.2.2.1) (pX6_thrown (r.2)) ∧ LA (R.2.2.2) (pX6_found (r.2)) ∧ (pX6_fresh (r.2)) = (pX6_fresh b_this) ∧ (pX6_kept (r.2)) = (pX6_kept b_this) ∧ (pX6_keptMany (r.2)) = (pX6_keptMany b_this) ∧ (pX6_buffer (r.2)) = (pX6_buffer b_this) ∧ (pX6_buffered (r.2)) = (pX6_buffered b_this) ∧ (pX6_size (r.2)) = (pX6_size b_this) ∧ (pX6_at (r.2)) = (pX6_at b_this) ∧ (pX6_behind (r.2)) = (pX6_behind b_this) ∧ (pX6_kind (r.2)) = (pX6_kind b_this) ∧ (pX6_wrong (r.2)) = (pX6_wrong b_this) ∧ (pX6_wrongAt (r.2)) = (pX6_wrongAt b_this) ∧ (pX6_errorAt (r.2)) = (pX6_errorAt b_this) ∧ (pX6_number (r.2)) = (pX6_number b_this) ∧ (pX6_best (r.2)) = (pX6_best b_this) ∧ (pX6_rentBy (r.2)) = (pX6_rentBy b_this) ∧ (pX6_bareBy (r.2)) = (pX6_bareBy b_this) ∧ (pX6_aheadBy (r.2)) = (pX6_aheadBy b_this) ∧ (pX6_isEdge (r.2)) = (pX6_isEdge b_this) ∧ (pX6_tried (r.2)) = (pX6_tried b_this) ∧ (pX6_stands (r.2)) = (pX6_stands b_this) ∧ (pX6_foundOn (r.2)) = (pX6_foundOn b_this) ∧ (pX6_moving (r.2)) = (pX6_moving b_this) ∧ (pX6_movingMany (r.2)) = (pX6_movingMany b_this) ∧ (pX6_foundIncome (r.2)) = (pX6_foundIncome b_this) ∧ (pX6_foundMoves (r.2)) = (pX6_foundMoves b_this) := by
  intro fu
  induction fu with
  | zero => intro Fx5 Fx6 x5 x6 Fv_a Fv_thrown Fv_found b_this r h_x5 h_x6 h_v_a h_v_thrown h_v_found hg; rw [g_X6_firstCome_151.eq_1] at hg; cases hg
  | succ fu ih =>
    intro Fx5 Fx6 x5 x6 Fv_a Fv_thrown Fv_found b_this r h_x5 h_x6 h_v_a h_v_thrown h_v_found hg
    rw [g_X6_firstCome_151.eq_2] at hg
    rw [f_X6_firstCome_151.eq_2]
    refine lI (LI_le (LI_n (x := 8) rfl) h_x6) hg (fun hc hg => ?_) (fun hc hg => ?_)
    · cases hg
      exact ⟨_, rfl, h_x5, h_v_a, h_v_thrown, h_v_found, rfl, rfl, rfl, rfl, rfl, rfl, rfl, rfl, rfl, rfl, rfl, rfl, rfl, rfl, rfl, rfl, rfl, rfl, rfl, rfl, rfl, rfl, rfl, rfl, rfl⟩
    · refine lA (EI_i h_x6) rfl hg (fun ha_1 hg => ?_)
      refine lA (EI_add (EI_i (LI_n (x := 107) rfl)) (EI_i h_x6)) rfl hg (fun ha_2 hg => ?_)
      refine lL (LA_upd h_v_a (EI_add (EI_i (LI_n (x := 107) rfl)) (EI_i h_x6)) ha_2 (LA_at h_v_found (EI_i h_x6) ha_1)) hg (fun Fv_3 v_3 h_v_3 hg => ?_)
      refine lR hg (fun hr_3 hg => ?_)
      obtain ⟨R, hR, c0, c1, c2, c3, c4, c5, c6, c7, c8, c9, c10, c11, c12, c13, c14, c15, c16, c17, c18, c19, c20, c21, c22, c23, c24, c25, c26, c27, c28⟩ := ih _ _ _ _ _ _ _ _ _ h_x5 (LI_of (EI_add (EI_i h_x6) (EI_i (LI_n (x := 1) rfl))) hr_3) h_v_3 h_v_thrown h_v_found hg
      exact ⟨R, hR, c0, c1, c2, c3, c4, c5, c6, c7, c8, c9, c10, c11, c12, c13, c14, c15, c16, c17, c18, c19, c20, c21, c22, c23, c24, c25, c26, c27, c28⟩
set_option maxHeartbeats 4000000 in
set_option maxRecDepth 100000 in
theorem l_X6_firstCome_142 {n : Nat} : ∀ (Fv_a : Nat → Int32) (Fv_thrown : Int32) (Fv_found : Nat → Int32) (b_this : BX6) (r : Int × BX6), LA Fv_a (pX6_a b_this) → LI Fv_thrown (pX6_thrown b_this) → LA Fv_found (pX6_found b_this) → g_X6_firstCome_142 n b_this = some r → ∃ R, f_X6_firstCome_142 n Fv_a Fv_thrown Fv_found = some R ∧ LI (R.1) (r.1) ∧ LA (R.2.1) (pX6_a (r.2)) ∧ LI (R.2.2.1) (pX6_thrown (r.2)) ∧ LA (R.2.2.2) (pX6_found (r.2)) ∧ (pX6_fresh (r.2)) = (pX6_fresh b_this) ∧ (pX6_kept (r.2)) = (pX6_kept b_this) ∧ (pX6_keptMany (r.2)) = (pX6_keptMany b_this) ∧ (pX6_buffer (r.2)) = (pX6_buffer b_this) ∧ (pX6_buffered (r.2)) = (pX6_buffered b_this) ∧ (pX6_size (r.2)) = (pX6_size b_this) ∧ (pX6_at (r.2)) = (pX6_at b_this) ∧ (pX6_behind (r.2)) = (pX6_behind b_this) ∧ (pX6_kind (r.2)) = (pX6_kind b_this) ∧ (pX6_wrong (r.2)) = (pX6_wrong b_this) ∧ (pX6_wrongAt (r.2)) = (pX6_wrongAt b_this) ∧ (pX6_errorAt (r.2)) = (pX6_errorAt b_this) ∧ (pX6_number (r.2)) = (pX6_number b_this) ∧ (pX6_best (r.2)) = (pX6_best b_this) ∧ (pX6_rentBy (r.2)) = (pX6_rentBy b_this) ∧ (pX6_bareBy (r.2)) = (pX6_bareBy b_this) ∧ (pX6_aheadBy (r.2)) = (pX6_aheadBy b_this) ∧ (pX6_isEdge (r.2)) = (pX6_isEdge b_this) ∧ (pX6_tried (r.2)) = (pX6_tried b_this) ∧ (pX6_stands (r.2)) = (pX6_stands b_this) ∧ (pX6_foundOn (r.2)) = (pX6_foundOn b_this) ∧ (pX6_moving (r.2)) = (pX6_moving b_this) ∧ (pX6_movingMany (r.2)) = (pX6_movingMany b_this) ∧ (pX6_foundIncome (r.2)) = (pX6_foundIncome b_this) ∧ (pX6_foundMoves (r.2)) = (pX6_foundMoves b_this) := by
  intro Fv_a Fv_thrown Fv_found b_this r h_v_a h_v_thrown h_v_found hg
  unfold g_X6_firstCome_142 at hg
  unfold f_X6_firstCome_142
  refine lB_1_1 (fun r hr => l_X6_incomeNow  _ _ r h_v_a hr) hg (fun Fr_4 r_4 hq hg => ?_)
  obtain ⟨q_4⟩ := hq
  obtain ⟨R, hR, c0, c1, c2, c3, c4, c5, c6, c7, c8, c9, c10, c11, c12, c13, c14, c15, c16, c17, c18, c19, c20, c21, c22, c23, c24, c25, c26, c27, c28⟩ := l_X6_firstCome_151 n _ _ _ _ _ _ _ _ _ q_4 (LI_n (x := 0) rfl) h_v_a h_v_thrown h_v_found hg
  exact ⟨R, hR, c0, c1, c2, c3, c4, c5, c6, c7, c8, c9, c10, c11, c12, c13, c14, c15, c16, c17, c18, c19, c20, c21, c22, c23, c24, c25, c26, c27, c28⟩
set_option maxHeartbeats 4000000 in
set_option maxRecDepth 100000 in
theorem l_X6_firstCome_89 {n : Nat} : ∀ (fu : Nat), ∀ (Fx1 : Int64) (Fx5 : Int64) (x1 : Int) (x5 : Int) (Fv_a : Nat → Int32) (Fv_thrown : Int32) (Fv_found : Nat → Int32) (b_this : BX6) (r : Int × BX6), LJ Fx1 x1 → LJ Fx5 x5 → LA Fv_a (pX6_a b_this) → LI Fv_thrown (pX6_thrown b_this) → LA Fv_found (pX6_found b_this) → g_X6_firstCome_89 n fu x1 x5 b_this = some r → ∃ R, f_X6_firstCome_89 n fu Fx1 Fx5 Fv_a Fv_thrown Fv_found = some R ∧ LI (R.1) (r.1) ∧ LA (R.2.1) (pX6_a (r.2)) ∧ LI (R.2.2.1) (pX6_thrown (r.2)) ∧ LA (R.2.2.2) (pX6_found (r.2)) ∧ (pX6_fresh (r.2)) = (pX6_fresh b_this) ∧ (pX6_kept (r.2)) = (pX6_kept b_this) ∧ (pX6_keptMany (r.2)) = (pX6_keptMany b_this) ∧ (pX6_buffer (r.2)) = (pX6_buffer b_this) ∧ (pX6_buffered (r.2)) = (pX6_buffered b_this) ∧ (pX6_size (r.2)) = (pX6_size b_this) ∧ (pX6_at (r.2)) = (pX6_at b_this) ∧ (pX6_behind (r.2)) = (pX6_behind b_this) ∧ (pX6_kind (r.2)) = (pX6_kind b_this) ∧ (pX6_wrong (r.2)) = (pX6_wrong b_this) ∧ (pX6_wrongAt (r.2)) = (pX6_wrongAt b_this) ∧ (pX6_errorAt (r.2)) = (pX6_errorAt b_this) ∧ (pX6_number (r.2)) = (pX6_number b_this) ∧ (pX6_best (r.2)) = (pX6_best b_this) ∧ (pX6_rentBy (r.2)) = (pX6_rentBy b_this) ∧ (pX6_bareBy (r.2)) = (pX6_bareBy b_this) ∧ (pX6_aheadBy (r.2)) = (pX6_aheadBy b_this) ∧ (pX6_isEdge (r.2)) = (pX6_isEdge b_this) ∧ (pX6_tried (r.2)) = (pX6_tried b_this) ∧ (pX6_stands (r.2)) = (pX6_stands b_this) ∧ (pX6_foundOn (r.2)) = (pX6_foundOn b_this) ∧ (pX6_moving (r.2)) = (pX6_moving b_this) ∧ (pX6_movingMany (r.2)) = (pX6_movingMany b_this) ∧ (pX6_foundIncome (r.2)) = (pX6_foundIncome b_this) ∧ (pX6_foundMoves (r.2)) = (pX6_foundMoves b_this) := by
  intro fu
  induction fu with
  | zero => intro Fx1 Fx5 x1 x5 Fv_a Fv_thrown Fv_found b_this r h_x1 h_x5 h_v_a h_v_thrown h_v_found hg; rw [g_X6_firstCome_89.eq_1] at hg; cases hg
  | succ fu ih =>
    intro Fx1 Fx5 x1 x5 Fv_a Fv_thrown Fv_found b_this r h_x1 h_x5 h_v_a h_v_thrown h_v_found hg
    rw [g_X6_firstCome_89.eq_2] at hg
    rw [f_X6_firstCome_89.eq_2]
    refine lI (LC_le h_x5 (LJ_n (x := 0) rfl)) hg (fun hc hg => ?_) (fun hc hg => ?_)
    · obtain ⟨R, hR, c0, c1, c2, c3, c4, c5, c6, c7, c8, c9, c10, c11, c12, c13, c14, c15, c16, c17, c18, c19, c20, c21, c22, c23, c24, c25, c26, c27, c28⟩ := l_X6_firstCome_142 _ _ _ _ _ h_v_a h_v_thrown h_v_found hg
      exact ⟨R, hR, c0, c1, c2, c3, c4, c5, c6, c7, c8, c9, c10, c11, c12, c13, c14, c15, c16, c17, c18, c19, c20, c21, c22, c23, c24, c25, c26, c27, c28⟩
    · refine lI (LC_le h_x1 (LJ_n (x := 0) rfl)) hg (fun hc hg => ?_) (fun hc hg => ?_)
      · obtain ⟨R, hR, c0, c1, c2, c3, c4, c5, c6, c7, c8, c9, c10, c11, c12, c13, c14, c15, c16, c17, c18, c19, c20, c21, c22, c23, c24, c25, c26, c27, c28⟩ := l_X6_firstCome_142 _ _ _ _ _ h_v_a h_v_thrown h_v_found hg
        exact ⟨R, hR, c0, c1, c2, c3, c4, c5, c6, c7, c8, c9, c10, c11, c12, c13, c14, c15, c16, c17, c18, c19, c20, c21, c22, c23, c24, c25, c26, c27, c28⟩
      · refine lG (not_congr (LJ_eq h_x5 (LJ_n rfl))) hg (fun hn_5 hg => ?_)
        refine lD hg (fun hd_6 hg => ?_)
        refine lRJ hg (fun hr_7 hg => ?_)
        refine lD hg (fun hd_8 hg => ?_)
        refine lRJ hg (fun hr_9 hg => ?_)
        refine lR hg (fun hr_10 hg => ?_)
        refine lL (LI_of (EI_sub (EI_l (LJ_of (EJ_rem (LJ_of (EJ_div h_x1 h_x5 hd_6) hr_7) (LJ_n (x := 10) rfl) hd_8) hr_9)) (EI_i (LI_n (x := 1) rfl))) hr_10) hg (fun Fy_7 y_7 h_y_7 hg => ?_)
        refine lB_1_1 (fun r hr => l_X6_takesStart  _ _ _ _ r h_y_7 h_v_a hr) hg (fun Fr_8 r_8 hq hg => ?_)
        obtain ⟨q_11⟩ := hq
        refine lA (EI_add (EI_i (LI_n (x := 107) rfl)) (EI_i h_y_7)) rfl hg (fun ha_12 hg => ?_)
        refine lL (LA_upd h_v_a (EI_add (EI_i (LI_n (x := 107) rfl)) (EI_i h_y_7)) ha_12 q_11) hg (fun Fv_11 v_11 h_v_11 hg => ?_)
        refine lD hg (fun hd_13 hg => ?_)
        refine lRJ hg (fun hr_14 hg => ?_)
        refine lL (LJ_of (EJ_div h_x5 (LJ_n (x := 10) rfl) hd_13) hr_14) hg (fun Fy_12 y_12 h_y_12 hg => ?_)
        obtain ⟨R, hR, c0, c1, c2, c3, c4, c5, c6, c7, c8, c9, c10, c11, c12, c13, c14, c15, c16, c17, c18, c19, c20, c21, c22, c23, c24, c25, c26, c27, c28⟩ := ih _ _ _ _ _ _ _ _ _ h_x1 h_y_12 h_v_11 h_v_thrown h_v_found hg
        exact ⟨R, hR, c0, c1, c2, c3, c4, c5, c6, c7, c8, c9, c10, c11, c12, c13, c14, c15, c16, c17, c18, c19, c20, c21, c22, c23, c24, c25, c26, c27, c28⟩
set_option maxHeartbeats 4000000 in
set_option maxRecDepth 100000 in
theorem l_X6_firstCome_67 {n : Nat} : ∀ (fu : Nat), ∀ (Fx1 : Int64) (Fx3 : Int64) (x1 : Int) (x3 : Int) (Fv_a : Nat → Int32) (Fv_thrown : Int32) (Fv_found : Nat → Int32) (b_this : BX6) (r : Int × BX6), LJ Fx1 x1 → LJ Fx3 x3 → LA Fv_a (pX6_a b_this) → LI Fv_thrown (pX6_thrown b_this) → LA Fv_found (pX6_found b_this) → g_X6_firstCome_67 n fu x1 x3 b_this = some r → ∃ R, f_X6_firstCome_67 n fu Fx1 Fx3 Fv_a Fv_thrown Fv_found = some R ∧ LI (R.1) (r.1) ∧ LA (R.2.1) (pX6_a (r.2)) ∧ LI (R.2.2.1) (pX6_thrown (r.2)) ∧ LA (R.2.2.2) (pX6_found (r.2)) ∧ (pX6_fresh (r.2)) = (pX6_fresh b_this) ∧ (pX6_kept (r.2)) = (pX6_kept b_this) ∧ (pX6_keptMany (r.2)) = (pX6_keptMany b_this) ∧ (pX6_buffer (r.2)) = (pX6_buffer b_this) ∧ (pX6_buffered (r.2)) = (pX6_buffered b_this) ∧ (pX6_size (r.2)) = (pX6_size b_this) ∧ (pX6_at (r.2)) = (pX6_at b_this) ∧ (pX6_behind (r.2)) = (pX6_behind b_this) ∧ (pX6_kind (r.2)) = (pX6_kind b_this) ∧ (pX6_wrong (r.2)) = (pX6_wrong b_this) ∧ (pX6_wrongAt (r.2)) = (pX6_wrongAt b_this) ∧ (pX6_errorAt (r.2)) = (pX6_errorAt b_this) ∧ (pX6_number (r.2)) = (pX6_number b_this) ∧ (pX6_best (r.2)) = (pX6_best b_this) ∧ (pX6_rentBy (r.2)) = (pX6_rentBy b_this) ∧ (pX6_bareBy (r.2)) = (pX6_bareBy b_this) ∧ (pX6_aheadBy (r.2)) = (pX6_aheadBy b_this) ∧ (pX6_isEdge (r.2)) = (pX6_isEdge b_this) ∧ (pX6_tried (r.2)) = (pX6_tried b_this) ∧ (pX6_stands (r.2)) = (pX6_stands b_this) ∧ (pX6_foundOn (r.2)) = (pX6_foundOn b_this) ∧ (pX6_moving (r.2)) = (pX6_moving b_this) ∧ (pX6_movingMany (r.2)) = (pX6_movingMany b_this) ∧ (pX6_foundIncome (r.2)) = (pX6_foundIncome b_this) ∧ (pX6_foundMoves (r.2)) = (pX6_foundMoves b_this) := by
  intro fu
  induction fu with
  | zero => intro Fx1 Fx3 x1 x3 Fv_a Fv_thrown Fv_found b_this r h_x1 h_x3 h_v_a h_v_thrown h_v_found hg; rw [g_X6_firstCome_67.eq_1] at hg; cases hg
  | succ fu ih =>
    intro Fx1 Fx3 x1 x3 Fv_a Fv_thrown Fv_found b_this r h_x1 h_x3 h_v_a h_v_thrown h_v_found hg
    rw [g_X6_firstCome_67.eq_2] at hg
    rw [f_X6_firstCome_67.eq_2]
    refine lD hg (fun hd_15 hg => ?_)
    refine lRJ hg (fun hr_16 hg => ?_)
    refine lI (LC_lt' h_x3 (LJ_of (EJ_div h_x1 (LJ_n (x := 10) rfl) hd_15) hr_16)) hg (fun hc hg => ?_) (fun hc hg => ?_)
    · obtain ⟨R, hR, c0, c1, c2, c3, c4, c5, c6, c7, c8, c9, c10, c11, c12, c13, c14, c15, c16, c17, c18, c19, c20, c21, c22, c23, c24, c25, c26, c27, c28⟩ := l_X6_firstCome_89 n _ _ _ _ _ _ _ _ _ h_x1 h_x3 h_v_a h_v_thrown h_v_found hg
      exact ⟨R, hR, c0, c1, c2, c3, c4, c5, c6, c7, c8, c9, c10, c11, c12, c13, c14, c15, c16, c17, c18, c19, c20, c21, c22, c23, c24, c25, c26, c27, c28⟩
    · refine lRJ hg (fun hr_17 hg => ?_)
      refine lL (LJ_of (EJ_mul (EJ_j (LJ_n (x := 10) rfl)) (EJ_j h_x3)) hr_17) hg (fun Fy_13 y_13 h_y_13 hg => ?_)
      obtain ⟨R, hR, c0, c1, c2, c3, c4, c5, c6, c7, c8, c9, c10, c11, c12, c13, c14, c15, c16, c17, c18, c19, c20, c21, c22, c23, c24, c25, c26, c27, c28⟩ := ih _ _ _ _ _ _ _ _ _ h_x1 h_y_13 h_v_a h_v_thrown h_v_found hg
      exact ⟨R, hR, c0, c1, c2, c3, c4, c5, c6, c7, c8, c9, c10, c11, c12, c13, c14, c15, c16, c17, c18, c19, c20, c21, c22, c23, c24, c25, c26, c27, c28⟩
set_option maxHeartbeats 4000000 in
set_option maxRecDepth 100000 in
theorem l_X6_firstCome_28 {n : Nat} : ∀ (fu : Nat), ∀ (Fx1 : Int64) (Fx3 : Int32) (x1 : Int) (x3 : Int) (Fv_a : Nat → Int32) (Fv_thrown : Int32) (Fv_found : Nat → Int32) (b_this : BX6) (r : Int × BX6), LJ Fx1 x1 → LI Fx3 x3 → LA Fv_a (pX6_a b_this) → LI Fv_thrown (pX6_thrown b_this) → LA Fv_found (pX6_found b_this) → g_X6_firstCome_28 n fu x1 x3 b_this = some r → ∃ R, f_X6_firstCome_28 n fu Fx1 Fx3 Fv_a Fv_thrown Fv_found = some R ∧ LI (R.1) (r.1) ∧ LA (R.2.1) (pX6_a (r.2)) ∧ LI (R.2.2.1) (pX6_thrown (r.2)) ∧ LA (R.2.2.2) (pX6_found (r.2)) ∧ (pX6_fresh (r.2)) = (pX6_fresh b_this) ∧ (pX6_kept (r.2)) = (pX6_kept b_this) ∧ (pX6_keptMany (r.2)) = (pX6_keptMany b_this) ∧ (pX6_buffer (r.2)) = (pX6_buffer b_this) ∧ (pX6_buffered (r.2)) = (pX6_buffered b_this) ∧ (pX6_size (r.2)) = (pX6_size b_this) ∧ (pX6_at (r.2)) = (pX6_at b_this) ∧ (pX6_behind (r.2)) = (pX6_behind b_this) ∧ (pX6_kind (r.2)) = (pX6_kind b_this) ∧ (pX6_wrong (r.2)) = (pX6_wrong b_this) ∧ (pX6_wrongAt (r.2)) = (pX6_wrongAt b_this) ∧ (pX6_errorAt (r.2)) = (pX6_errorAt b_this) ∧ (pX6_number (r.2)) = (pX6_number b_this) ∧ (pX6_best (r.2)) = (pX6_best b_this) ∧ (pX6_rentBy (r.2)) = (pX6_rentBy b_this) ∧ (pX6_bareBy (r.2)) = (pX6_bareBy b_this) ∧ (pX6_aheadBy (r.2)) = (pX6_aheadBy b_this) ∧ (pX6_isEdge (r.2)) = (pX6_isEdge b_this) ∧ (pX6_tried (r.2)) = (pX6_tried b_this) ∧ (pX6_stands (r.2)) = (pX6_stands b_this) ∧ (pX6_foundOn (r.2)) = (pX6_foundOn b_this) ∧ (pX6_moving (r.2)) = (pX6_moving b_this) ∧ (pX6_movingMany (r.2)) = (pX6_movingMany b_this) ∧ (pX6_foundIncome (r.2)) = (pX6_foundIncome b_this) ∧ (pX6_foundMoves (r.2)) = (pX6_foundMoves b_this) := by
  intro fu
  induction fu with
  | zero => intro Fx1 Fx3 x1 x3 Fv_a Fv_thrown Fv_found b_this r h_x1 h_x3 h_v_a h_v_thrown h_v_found hg; rw [g_X6_firstCome_28.eq_1] at hg; cases hg
  | succ fu ih =>
    intro Fx1 Fx3 x1 x3 Fv_a Fv_thrown Fv_found b_this r h_x1 h_x3 h_v_a h_v_thrown h_v_found hg
    rw [g_X6_firstCome_28.eq_2] at hg
    rw [f_X6_firstCome_28.eq_2]
    refine lI (LI_le (LI_n (x := 8) rfl) h_x3) hg (fun hc hg => ?_) (fun hc hg => ?_)
    · obtain ⟨R, hR, c0, c1, c2, c3, c4, c5, c6, c7, c8, c9, c10, c11, c12, c13, c14, c15, c16, c17, c18, c19, c20, c21, c22, c23, c24, c25, c26, c27, c28⟩ := l_X6_firstCome_67 n _ _ _ _ _ _ _ _ _ h_x1 (LJ_n (x := 1) rfl) h_v_a h_v_thrown h_v_found hg
      exact ⟨R, hR, c0, c1, c2, c3, c4, c5, c6, c7, c8, c9, c10, c11, c12, c13, c14, c15, c16, c17, c18, c19, c20, c21, c22, c23, c24, c25, c26, c27, c28⟩
    · refine lA (EI_add (EI_i (LI_n (x := 107) rfl)) (EI_i h_x3)) rfl hg (fun ha_18 hg => ?_)
      refine lA (EI_i h_x3) rfl hg (fun ha_19 hg => ?_)
      refine lL (LA_upd h_v_found (EI_i h_x3) ha_19 (LA_at h_v_a (EI_add (EI_i (LI_n (x := 107) rfl)) (EI_i h_x3)) ha_18)) hg (fun Fv_16 v_16 h_v_16 hg => ?_)
      refine lA (EI_add (EI_i (LI_n (x := 107) rfl)) (EI_i h_x3)) rfl hg (fun ha_20 hg => ?_)
      refine lL (LA_upd h_v_a (EI_add (EI_i (LI_n (x := 107) rfl)) (EI_i h_x3)) ha_20 (LI_n (x := -1) rfl)) hg (fun Fv_18 v_18 h_v_18 hg => ?_)
      refine lR hg (fun hr_21 hg => ?_)
      obtain ⟨R, hR, c0, c1, c2, c3, c4, c5, c6, c7, c8, c9, c10, c11, c12, c13, c14, c15, c16, c17, c18, c19, c20, c21, c22, c23, c24, c25, c26, c27, c28⟩ := ih _ _ _ _ _ _ _ _ _ h_x1 (LI_of (EI_add (EI_i h_x3) (EI_i (LI_n (x := 1) rfl))) hr_21) h_v_18 h_v_thrown h_v_16 hg
      exact ⟨R, hR, c0, c1, c2, c3, c4, c5, c6, c7, c8, c9, c10, c11, c12, c13, c14, c15, c16, c17, c18, c19, c20, c21, c22, c23, c24, c25, c26, c27, c28⟩
set_option maxHeartbeats 4000000 in
set_option maxRecDepth 100000 in
theorem l_X6_firstCome_14 {n : Nat} : ∀ (Ft1 : Int32) (Fx1 : Int64) (t1 : Int) (x1 : Int) (Fv_a : Nat → Int32) (Fv_thrown : Int32) (Fv_found : Nat → Int32) (b_this : BX6) (r : Int × BX6), LI Ft1 t1 → LJ Fx1 x1 → LA Fv_a (pX6_a b_this) → LI Fv_thrown (pX6_thrown b_this) → LA Fv_found (pX6_found b_this) → g_X6_firstCome_14 n t1 x1 b_this = some r → ∃ R, f_X6_firstCome_14 n Ft1 Fx1 Fv_a Fv_thrown Fv_found = some R ∧ LI (R.1) (r.1) ∧ LA (R.2.1) (pX6_a (r.2)) ∧ LI (R.2.2.1) (pX6_thrown (r.2)) ∧ LA (R.2.2.2) (pX6_found (r.2)) ∧ (pX6_fresh (r.2)) = (pX6_fresh b_this) ∧ (pX6_kept (r.2)) = (pX6_kept b_this) ∧ (pX6_keptMany (r.2)) = (pX6_keptMany b_this) ∧ (pX6_buffer (r.2)) = (pX6_buffer b_this) ∧ (pX6_buffered (r.2)) = (pX6_buffered b_this) ∧ (pX6_size (r.2)) = (pX6_size b_this) ∧ (pX6_at (r.2)) = (pX6_at b_this) ∧ (pX6_behind (r.2)) = (pX6_behind b_this) ∧ (pX6_kind (r.2)) = (pX6_kind b_this) ∧ (pX6_wrong (r.2)) = (pX6_wrong b_this) ∧ (pX6_wrongAt (r.2)) = (pX6_wrongAt b_this) ∧ (pX6_errorAt (r.2)) = (pX6_errorAt b_this) ∧ (pX6_number (r.2)) = (pX6_number b_this) ∧ (pX6_best (r.2)) = (pX6_best b_this) ∧ (pX6_rentBy (r.2)) = (pX6_rentBy b_this) ∧ (pX6_bareBy (r.2)) = (pX6_bareBy b_this) ∧ (pX6_aheadBy (r.2)) = (pX6_aheadBy b_this) ∧ (pX6_isEdge (r.2)) = (pX6_isEdge b_this) ∧ (pX6_tried (r.2)) = (pX6_tried b_this) ∧ (pX6_stands (r.2)) = (pX6_stands b_this) ∧ (pX6_foundOn (r.2)) = (pX6_foundOn b_this) ∧ (pX6_moving (r.2)) = (pX6_moving b_this) ∧ (pX6_movingMany (r.2)) = (pX6_movingMany b_this) ∧ (pX6_foundIncome (r.2)) = (pX6_foundIncome b_this) ∧ (pX6_foundMoves (r.2)) = (pX6_foundMoves b_this) := by
  intro Ft1 Fx1 t1 x1 Fv_a Fv_thrown Fv_found b_this r h_t1 h_x1 h_v_a h_v_thrown h_v_found hg
  unfold g_X6_firstCome_14 at hg
  unfold f_X6_firstCome_14
  refine lI (LI_le h_t1 (LI_n (x := 0) rfl)) hg (fun hc hg => ?_) (fun hc hg => ?_)
  · obtain ⟨R, hR, c0, c1, c2, c3, c4, c5, c6, c7, c8, c9, c10, c11, c12, c13, c14, c15, c16, c17, c18, c19, c20, c21, c22, c23, c24, c25, c26, c27, c28⟩ := l_X6_firstCome_28 n _ _ _ _ _ _ _ _ _ h_x1 (LI_n (x := 0) rfl) h_v_a h_t1 h_v_found hg
    exact ⟨R, hR, c0, c1, c2, c3, c4, c5, c6, c7, c8, c9, c10, c11, c12, c13, c14, c15, c16, c17, c18, c19, c20, c21, c22, c23, c24, c25, c26, c27, c28⟩
  · cases hg
    exact ⟨_, rfl, (LI_n (x := 0) rfl), h_v_a, h_t1, h_v_found, rfl, rfl, rfl, rfl, rfl, rfl, rfl, rfl, rfl, rfl, rfl, rfl, rfl, rfl, rfl, rfl, rfl, rfl, rfl, rfl, rfl, rfl, rfl, rfl, rfl⟩
set_option maxHeartbeats 4000000 in
set_option maxRecDepth 100000 in
theorem l_X6_firstCome {n : Nat} : ∀ (Fx1 : Int64) (x1 : Int) (Fv_a : Nat → Int32) (Fv_thrown : Int32) (Fv_found : Nat → Int32) (b_this : BX6) (r : Int × BX6), LJ Fx1 x1 → LA Fv_a (pX6_a b_this) → LI Fv_thrown (pX6_thrown b_this) → LA Fv_found (pX6_found b_this) → g_X6_firstCome n b_this x1 = some r → ∃ R, f_X6_firstCome n Fv_a Fv_thrown Fv_found Fx1 = some R ∧ LI (R.1) (r.1) ∧ LA (R.2.1) (pX6_a (r.2)) ∧ LI (R.2.2.1) (pX6_thrown (r.2)) ∧ LA (R.2.2.2) (pX6_found (r.2)) ∧ (pX6_fresh (r.2)) = (pX6_fresh b_this) ∧ (pX6_kept (r.2)) = (pX6_kept b_this) ∧ (pX6_keptMany (r.2)) = (pX6_keptMany b_this) ∧ (pX6_buffer (r.2)) = (pX6_buffer b_this) ∧ (pX6_buffered (r.2)) = (pX6_buffered b_this) ∧ (pX6_size (r.2)) = (pX6_size b_this) ∧ (pX6_at (r.2)) = (pX6_at b_this) ∧ (pX6_behind (r.2)) = (pX6_behind b_this) ∧ (pX6_kind (r.2)) = (pX6_kind b_this) ∧ (pX6_wrong (r.2)) = (pX6_wrong b_this) ∧ (pX6_wrongAt (r.2)) = (pX6_wrongAt b_this) ∧ (pX6_errorAt (r.2)) = (pX6_errorAt b_this) ∧ (pX6_number (r.2)) = (pX6_number b_this) ∧ (pX6_best (r.2)) = (pX6_best b_this) ∧ (pX6_rentBy (r.2)) = (pX6_rentBy b_this) ∧ (pX6_bareBy (r.2)) = (pX6_bareBy b_this) ∧ (pX6_aheadBy (r.2)) = (pX6_aheadBy b_this) ∧ (pX6_isEdge (r.2)) = (pX6_isEdge b_this) ∧ (pX6_tried (r.2)) = (pX6_tried b_this) ∧ (pX6_stands (r.2)) = (pX6_stands b_this) ∧ (pX6_foundOn (r.2)) = (pX6_foundOn b_this) ∧ (pX6_moving (r.2)) = (pX6_moving b_this) ∧ (pX6_movingMany (r.2)) = (pX6_movingMany b_this) ∧ (pX6_foundIncome (r.2)) = (pX6_foundIncome b_this) ∧ (pX6_foundMoves (r.2)) = (pX6_foundMoves b_this) := by
  intro Fx1 x1 Fv_a Fv_thrown Fv_found b_this r h_x1 h_v_a h_v_thrown h_v_found hg
  unfold g_X6_firstCome at hg
  unfold f_X6_firstCome
  refine lB_1_1 (fun r hr => l_X6_isOrder  _ _ _ _ r h_x1 h_v_a hr) hg (fun Fr_19 r_19 hq hg => ?_)
  obtain ⟨q_22⟩ := hq
  refine lI (LI_eq q_22 (LI_n (x := 0) rfl)) hg (fun hc hg => ?_) (fun hc hg => ?_)
  · obtain ⟨R, hR, c0, c1, c2, c3, c4, c5, c6, c7, c8, c9, c10, c11, c12, c13, c14, c15, c16, c17, c18, c19, c20, c21, c22, c23, c24, c25, c26, c27, c28⟩ := l_X6_firstCome_14 _ _ _ _ _ _ _ _ _ (LI_n (x := 1) rfl) h_x1 h_v_a h_v_thrown h_v_found hg
    exact ⟨R, hR, c0, c1, c2, c3, c4, c5, c6, c7, c8, c9, c10, c11, c12, c13, c14, c15, c16, c17, c18, c19, c20, c21, c22, c23, c24, c25, c26, c27, c28⟩
  · obtain ⟨R, hR, c0, c1, c2, c3, c4, c5, c6, c7, c8, c9, c10, c11, c12, c13, c14, c15, c16, c17, c18, c19, c20, c21, c22, c23, c24, c25, c26, c27, c28⟩ := l_X6_firstCome_14 _ _ _ _ _ _ _ _ _ (LI_n (x := 0) rfl) h_x1 h_v_a h_v_thrown h_v_found hg
    exact ⟨R, hR, c0, c1, c2, c3, c4, c5, c6, c7, c8, c9, c10, c11, c12, c13, c14, c15, c16, c17, c18, c19, c20, c21, c22, c23, c24, c25, c26, c27, c28⟩
set_option maxHeartbeats 4000000 in
set_option maxRecDepth 100000 in
theorem l_X6_traderValue_14 : ∀ (Ft1 : Int32) (Fx1 : Int32) (Fx2 : Int32) (t1 : Int) (x1 : Int) (x2 : Int) (Fv_a : Nat → Int32) (Fv_thrown : Int32) (b_this : BX6) (r : Int × BX6), LI Ft1 t1 → LI Fx1 x1 → LI Fx2 x2 → LA Fv_a (pX6_a b_this) → LI Fv_thrown (pX6_thrown b_this) → g_X6_traderValue_14 t1 x1 x2 b_this = some r → ∃ R, f_X6_traderValue_14 Ft1 Fx1 Fx2 Fv_a Fv_thrown = some R ∧ LI (R.1) (r.1) ∧ LI (R.2) (pX6_thrown (r.2)) ∧ (pX6_a (r.2)) = (pX6_a b_this) ∧ (pX6_fresh (r.2)) = (pX6_fresh b_this) ∧ (pX6_kept (r.2)) = (pX6_kept b_this) ∧ (pX6_keptMany (r.2)) = (pX6_keptMany b_this) ∧ (pX6_buffer (r.2)) = (pX6_buffer b_this) ∧ (pX6_buffered (r.2)) = (pX6_buffered b_this) ∧ (pX6_size (r.2)) = (pX6_size b_this) ∧ (pX6_at (r.2)) = (pX6_at b_this) ∧ (pX6_behind (r.2)) = (pX6_behind b_this) ∧ (pX6_kind (r.2)) = (pX6_kind b_this) ∧ (pX6_wrong (r.2)) = (pX6_wrong b_this) ∧ (pX6_wrongAt (r.2)) = (pX6_wrongAt b_this) ∧ (pX6_errorAt (r.2)) = (pX6_errorAt b_this) ∧ (pX6_number (r.2)) = (pX6_number b_this) ∧ (pX6_best (r.2)) = (pX6_best b_this) ∧ (pX6_rentBy (r.2)) = (pX6_rentBy b_this) ∧ (pX6_bareBy (r.2)) = (pX6_bareBy b_this) ∧ (pX6_aheadBy (r.2)) = (pX6_aheadBy b_this) ∧ (pX6_isEdge (r.2)) = (pX6_isEdge b_this) ∧ (pX6_tried (r.2)) = (pX6_tried b_this) ∧ (pX6_stands (r.2)) = (pX6_stands b_this) ∧ (pX6_found (r.2)) = (pX6_found b_this) ∧ (pX6_foundOn (r.2)) = (pX6_foundOn b_this) ∧ (pX6_moving (r.2)) = (pX6_moving b_this) ∧ (pX6_movingMany (r.2)) = (pX6_movingMany b_this) ∧ (pX6_foundIncome (r.2)) = (pX6_foundIncome b_this) ∧ (pX6_foundMoves (r.2)) = (pX6_foundMoves b_this) := by
  intro Ft1 Fx1 Fx2 t1 x1 x2 Fv_a Fv_thrown b_this r h_t1 h_x1 h_x2 h_v_a h_v_thrown hg
  unfold g_X6_traderValue_14 at hg
  unfold f_X6_traderValue_14
  refine lI (LI_le h_t1 (LI_n (x := 0) rfl)) hg (fun hc hg => ?_) (fun hc hg => ?_)
  · refine lA (EI_add (EI_i h_x1) (EI_i h_x2)) rfl hg (fun ha_1 hg => ?_)
    cases hg
    exact ⟨_, rfl, (LA_at h_v_a (EI_add (EI_i h_x1) (EI_i h_x2)) ha_1), h_t1, rfl, rfl, rfl, rfl, rfl, rfl, rfl, rfl, rfl, rfl, rfl, rfl, rfl, rfl, rfl, rfl, rfl, rfl, rfl, rfl, rfl, rfl, rfl, rfl, rfl, rfl, rfl⟩
  · cases hg
    exact ⟨_, rfl, (LI_n (x := 0) rfl), h_t1, rfl, rfl, rfl, rfl, rfl, rfl, rfl, rfl, rfl, rfl, rfl, rfl, rfl, rfl, rfl, rfl, rfl, rfl, rfl, rfl, rfl, rfl, rfl, rfl, rfl, rfl, rfl⟩
set_option maxHeartbeats 4000000 in
set_option maxRecDepth 100000 in
theorem l_X6_traderValue : ∀ (Fx1 : Int32) (Fx2 : Int32) (x1 : Int) (x2 : Int) (Fv_a : Nat → Int32) (Fv_thrown : Int32) (b_this : BX6) (r : Int × BX6), LI Fx1 x1 → LI Fx2 x2 → LA Fv_a (pX6_a b_this) → LI Fv_thrown (pX6_thrown b_this) → g_X6_traderValue b_this x1 x2 = some r → ∃ R, f_X6_traderValue Fv_a Fv_thrown Fx1 Fx2 = some R ∧ LI (R.1) (r.1) ∧ LI (R.2) (pX6_thrown (r.2)) ∧ (pX6_a (r.2)) = (pX6_a b_this) ∧ (pX6_fresh (r.2)) = (pX6_fresh b_this) ∧ (pX6_kept (r.2)) = (pX6_kept b_this) ∧ (pX6_keptMany (r.2)) = (pX6_keptMany b_this) ∧ (pX6_buffer (r.2)) = (pX6_buffer b_this) ∧ (pX6_buffered (r.2)) = (pX6_buffered b_this) ∧ (pX6_size (r.2)) = (pX6_size b_this) ∧ (pX6_at (r.2)) = (pX6_at b_this) ∧ (pX6_behind (r.2)) = (pX6_behind b_this) ∧ (pX6_kind (r.2)) = (pX6_kind b_this) ∧ (pX6_wrong (r.2)) = (pX6_wrong b_this) ∧ (pX6_wrongAt (r.2)) = (pX6_wrongAt b_this) ∧ (pX6_errorAt (r.2)) = (pX6_errorAt b_this) ∧ (pX6_number (r.2)) = (pX6_number b_this) ∧ (pX6_best (r.2)) = (pX6_best b_this) ∧ (pX6_rentBy (r.2)) = (pX6_rentBy b_this) ∧ (pX6_bareBy (r.2)) = (pX6_bareBy b_this) ∧ (pX6_aheadBy (r.2)) = (pX6_aheadBy b_this) ∧ (pX6_isEdge (r.2)) = (pX6_isEdge b_this) ∧ (pX6_tried (r.2)) = (pX6_tried b_this) ∧ (pX6_stands (r.2)) = (pX6_stands b_this) ∧ (pX6_found (r.2)) = (pX6_found b_this) ∧ (pX6_foundOn (r.2)) = (pX6_foundOn b_this) ∧ (pX6_moving (r.2)) = (pX6_moving b_this) ∧ (pX6_movingMany (r.2)) = (pX6_movingMany b_this) ∧ (pX6_foundIncome (r.2)) = (pX6_foundIncome b_this) ∧ (pX6_foundMoves (r.2)) = (pX6_foundMoves b_this) := by
  intro Fx1 Fx2 x1 x2 Fv_a Fv_thrown b_this r h_x1 h_x2 h_v_a h_v_thrown hg
  unfold g_X6_traderValue at hg
  unfold f_X6_traderValue
  refine lB_1_1 (fun r hr => l_X6_isTrader  _ _ _ _ r h_x2 h_v_a hr) hg (fun Fr_2 r_2 hq hg => ?_)
  obtain ⟨q_2⟩ := hq
  refine lI (LI_eq q_2 (LI_n (x := 0) rfl)) hg (fun hc hg => ?_) (fun hc hg => ?_)
  · obtain ⟨R, hR, c0, c1, c2, c3, c4, c5, c6, c7, c8, c9, c10, c11, c12, c13, c14, c15, c16, c17, c18, c19, c20, c21, c22, c23, c24, c25, c26, c27, c28⟩ := l_X6_traderValue_14 _ _ _ _ _ _ _ _ _ _ (LI_n (x := 1) rfl) h_x1 h_x2 h_v_a h_v_thrown hg
    exact ⟨R, hR, c0, c1, c2, c3, c4, c5, c6, c7, c8, c9, c10, c11, c12, c13, c14, c15, c16, c17, c18, c19, c20, c21, c22, c23, c24, c25, c26, c27, c28⟩
  · obtain ⟨R, hR, c0, c1, c2, c3, c4, c5, c6, c7, c8, c9, c10, c11, c12, c13, c14, c15, c16, c17, c18, c19, c20, c21, c22, c23, c24, c25, c26, c27, c28⟩ := l_X6_traderValue_14 _ _ _ _ _ _ _ _ _ _ (LI_n (x := 0) rfl) h_x1 h_x2 h_v_a h_v_thrown hg
    exact ⟨R, hR, c0, c1, c2, c3, c4, c5, c6, c7, c8, c9, c10, c11, c12, c13, c14, c15, c16, c17, c18, c19, c20, c21, c22, c23, c24, c25, c26, c27, c28⟩
set_option maxHeartbeats 4000000 in
set_option maxRecDepth 100000 in
theorem l_X6_frontage : ∀ (Fx1 : Int32) (x1 : Int) (Fv_a : Nat → Int32) (Fv_thrown : Int32) (b_this : BX6) (r : Int × BX6), LI Fx1 x1 → LA Fv_a (pX6_a b_this) → LI Fv_thrown (pX6_thrown b_this) → g_X6_frontage b_this x1 = some r → ∃ R, f_X6_frontage Fv_a Fv_thrown Fx1 = some R ∧ LI (R.1) (r.1) ∧ LI (R.2) (pX6_thrown (r.2)) ∧ (pX6_a (r.2)) = (pX6_a b_this) ∧ (pX6_fresh (r.2)) = (pX6_fresh b_this) ∧ (pX6_kept (r.2)) = (pX6_kept b_this) ∧ (pX6_keptMany (r.2)) = (pX6_keptMany b_this) ∧ (pX6_buffer (r.2)) = (pX6_buffer b_this) ∧ (pX6_buffered (r.2)) = (pX6_buffered b_this) ∧ (pX6_size (r.2)) = (pX6_size b_this) ∧ (pX6_at (r.2)) = (pX6_at b_this) ∧ (pX6_behind (r.2)) = (pX6_behind b_this) ∧ (pX6_kind (r.2)) = (pX6_kind b_this) ∧ (pX6_wrong (r.2)) = (pX6_wrong b_this) ∧ (pX6_wrongAt (r.2)) = (pX6_wrongAt b_this) ∧ (pX6_errorAt (r.2)) = (pX6_errorAt b_this) ∧ (pX6_number (r.2)) = (pX6_number b_this) ∧ (pX6_best (r.2)) = (pX6_best b_this) ∧ (pX6_rentBy (r.2)) = (pX6_rentBy b_this) ∧ (pX6_bareBy (r.2)) = (pX6_bareBy b_this) ∧ (pX6_aheadBy (r.2)) = (pX6_aheadBy b_this) ∧ (pX6_isEdge (r.2)) = (pX6_isEdge b_this) ∧ (pX6_tried (r.2)) = (pX6_tried b_this) ∧ (pX6_stands (r.2)) = (pX6_stands b_this) ∧ (pX6_found (r.2)) = (pX6_found b_this) ∧ (pX6_foundOn (r.2)) = (pX6_foundOn b_this) ∧ (pX6_moving (r.2)) = (pX6_moving b_this) ∧ (pX6_movingMany (r.2)) = (pX6_movingMany b_this) ∧ (pX6_foundIncome (r.2)) = (pX6_foundIncome b_this) ∧ (pX6_foundMoves (r.2)) = (pX6_foundMoves b_this) := by
  intro Fx1 x1 Fv_a Fv_thrown b_this r h_x1 h_v_a h_v_thrown hg
  unfold g_X6_frontage at hg
  unfold f_X6_frontage
  refine lB_2_2 (fun r hr => l_X6_traderValue  _ _ _ _ _ _ _ r (LI_n (x := 83) rfl) h_x1 h_v_a h_v_thrown hr) hg (fun Fr_1 Fv_2 r_1 b_1 hq hg => ?_)
  obtain ⟨q_2, q_3, q_4, q_5, q_6, q_7, q_8, q_9, q_10, q_11, q_12, q_13, q_14, q_15, q_16, q_17, q_18, q_19, q_20, q_21, q_22, q_23, q_24, q_25, q_26, q_27, q_28, q_29, q_30⟩ := hq
  have hl_31 := (LA_cg q_4 h_v_a)
  cases hg
  exact ⟨_, rfl, q_2, q_3, q_4, q_5, q_6, q_7, q_8, q_9, q_10, q_11, q_12, q_13, q_14, q_15, q_16, q_17, q_18, q_19, q_20, q_21, q_22, q_23, q_24, q_25, q_26, q_27, q_28, q_29, q_30⟩
set_option maxHeartbeats 4000000 in
set_option maxRecDepth 100000 in
theorem l_X6_income {n : Nat} : ∀ (Fv_a : Nat → Int32) (Fv_thrown : Int32) (b_this : BX6) (r : Int × BX6), LA Fv_a (pX6_a b_this) → LI Fv_thrown (pX6_thrown b_this) → g_X6_income n b_this = some r → ∃ R, f_X6_income n Fv_a Fv_thrown = some R ∧ LI (R.1) (r.1) ∧ LI (R.2) (pX6_thrown (r.2)) ∧ (pX6_a (r.2)) = (pX6_a b_this) ∧ (pX6_fresh (r.2)) = (pX6_fresh b_this) ∧ (pX6_kept (r.2)) = (pX6_kept b_this) ∧ (pX6_keptMany (r.2)) = (pX6_keptMany b_this) ∧ (pX6_buffer (r.2)) = (pX6_buffer b_this) ∧ (pX6_buffered (r.2)) = (pX6_buffered b_this) ∧ (pX6_size (r.2)) = (pX6_size b_this) ∧ (pX6_at (r.2)) = (pX6_at b_this) ∧ (pX6_behind (r.2)) = (pX6_behind b_this) ∧ (pX6_kind (r.2)) = (pX6_kind b_this) ∧ (pX6_wrong (r.2)) = (pX6_wrong b_this) ∧ (pX6_wrongAt (r.2)) = (pX6_wrongAt b_this) ∧ (pX6_errorAt (r.2)) = (pX6_errorAt b_this) ∧ (pX6_number (r.2)) = (pX6_number b_this) ∧ (pX6_best (r.2)) = (pX6_best b_this) ∧ (pX6_rentBy (r.2)) = (pX6_rentBy b_this) ∧ (pX6_bareBy (r.2)) = (pX6_bareBy b_this) ∧ (pX6_aheadBy (r.2)) = (pX6_aheadBy b_this) ∧ (pX6_isEdge (r.2)) = (pX6_isEdge b_this) ∧ (pX6_tried (r.2)) = (pX6_tried b_this) ∧ (pX6_stands (r.2)) = (pX6_stands b_this) ∧ (pX6_found (r.2)) = (pX6_found b_this) ∧ (pX6_foundOn (r.2)) = (pX6_foundOn b_this) ∧ (pX6_moving (r.2)) = (pX6_moving b_this) ∧ (pX6_movingMany (r.2)) = (pX6_movingMany b_this) ∧ (pX6_foundIncome (r.2)) = (pX6_foundIncome b_this) ∧ (pX6_foundMoves (r.2)) = (pX6_foundMoves b_this) := by
  intro Fv_a Fv_thrown b_this r h_v_a h_v_thrown hg
  unfold g_X6_income at hg
  unfold f_X6_income
  refine lB_1_1 (fun r hr => l_X6_incomeNow  _ _ r h_v_a hr) hg (fun Fr_1 r_1 hq hg => ?_)
  obtain ⟨q_1⟩ := hq
  cases hg
  exact ⟨_, rfl, q_1, (LI_n (x := 0) rfl), rfl, rfl, rfl, rfl, rfl, rfl, rfl, rfl, rfl, rfl, rfl, rfl, rfl, rfl, rfl, rfl, rfl, rfl, rfl, rfl, rfl, rfl, rfl, rfl, rfl, rfl, rfl⟩
set_option maxHeartbeats 4000000 in
set_option maxRecDepth 100000 in
theorem l_X6_refusesInsertion : ∀ (Fx1 : Int32) (Fx2 : Int32) (x1 : Int) (x2 : Int) (Fv_a : Nat → Int32) (b_this : BX6) (r : Int), LI Fx1 x1 → LI Fx2 x2 → LA Fv_a (pX6_a b_this) → g_X6_refusesInsertion b_this x1 x2 = some r → ∃ R, f_X6_refusesInsertion Fv_a Fx1 Fx2 = some R ∧ LI R r := by
  intro Fx1 Fx2 x1 x2 Fv_a b_this r h_x1 h_x2 h_v_a hg
  unfold g_X6_refusesInsertion at hg
  unfold f_X6_refusesInsertion
  refine lB_1_1 (fun r hr => l_X6_isTrader  _ _ _ _ r h_x1 h_v_a hr) hg (fun Fr_1 r_1 hq hg => ?_)
  obtain ⟨q_1⟩ := hq
  refine lI (LI_eq q_1 (LI_n (x := 0) rfl)) hg (fun hc hg => ?_) (fun hc hg => ?_)
  · cases hg
    exact ⟨_, rfl, (LI_n (x := 1) rfl)⟩
  · refine lB_1_1 (fun r hr => l_X6_isIn  _ _ _ _ _ _ r (LJ_i h_x2) (LJ_n (x := 0) rfl) (LJ_n (x := 2) rfl) hr) hg (fun Fr_3 r_3 hq hg => ?_)
    obtain ⟨q_2⟩ := hq
    refine lI (LI_eq q_2 (LI_n (x := 0) rfl)) hg (fun hc hg => ?_) (fun hc hg => ?_)
    · cases hg
      exact ⟨_, rfl, (LI_n (x := 2) rfl)⟩
    · refine lA (EI_add (EI_i (LI_n (x := 107) rfl)) (EI_i h_x1)) rfl hg (fun ha_3 hg => ?_)
      refine lI (LI_eq (LA_at h_v_a (EI_add (EI_i (LI_n (x := 107) rfl)) (EI_i h_x1)) ha_3) (LI_n (x := -1) rfl)) hg (fun hc hg => ?_) (fun hc hg => ?_)
      · cases hg
        exact ⟨_, rfl, (LI_n (x := 0) rfl)⟩
      · cases hg
        exact ⟨_, rfl, (LI_n (x := 3) rfl)⟩
set_option maxHeartbeats 4000000 in
set_option maxRecDepth 100000 in
theorem l_X6_seeks_72 {n : Nat} {RC : (Nat → Int32) → (Nat → Int32) → (Nat → Int32) → (Nat → Int32) → (Nat → Int32) → (Nat → Int32) → Int32 → Int32 → Int32 → Int32 → Option ((Nat → Int32) × (Nat → Int32) × (Nat → Int32) × (Nat → Int32) × Int32 × Int32)} {rc : BX6 → Int → Option (BX6)} (hrc : ∀ (Fx1 : Int32) (x1 : Int) (Fv_a : Nat → Int32) (Fv_tried : Nat → Int32) (Fv_stands : Nat → Int32) (Fv_found : Nat → Int32) (Fv_foundOn : Nat → Int32) (Fv_moving : Nat → Int32) (Fv_movingMany : Int32) (Fv_foundIncome : Int32) (Fv_foundMoves : Int32) (b_this : BX6) (r : BX6), LI Fx1 x1 → LA Fv_a (pX6_a b_this) → LA Fv_tried (pX6_tried b_this) → LA Fv_stands (pX6_stands b_this) → LA Fv_found (pX6_found b_this) → LA Fv_foundOn (pX6_foundOn b_this) → LA Fv_moving (pX6_moving b_this) → LI Fv_movingMany (pX6_movingMany b_this) → LI Fv_foundIncome (pX6_foundIncome b_this) → LI Fv_foundMoves (pX6_foundMoves b_this) → rc b_this x1 = some r → ∃ R, RC Fv_a Fv_tried Fv_stands Fv_found Fv_foundOn Fv_moving Fv_movingMany Fv_foundIncome Fv_foundMoves Fx1 = some R ∧ LA (R.1) (pX6_tried r) ∧ LA (R.2.1) (pX6_stands r) ∧ LA (R.2.2.1) (pX6_found r) ∧ LA (R.2.2.2.1) (pX6_foundOn r) ∧ LI (R.2.2.2.2.1) (pX6_foundIncome r) ∧ LI (R.2.2.2.2.2) (pX6_foundMoves r) ∧ (pX6_a r) = (pX6_a b_this) ∧ (pX6_fresh r) = (pX6_fresh b_this) ∧ (pX6_kept r) = (pX6_kept b_this) ∧ (pX6_keptMany r) = (pX6_keptMany b_this) ∧ (pX6_thrown r) = (pX6_thrown b_this) ∧ (pX6_buffer r) = (pX6_buffer b_this) ∧ (pX6_buffered r) = (pX6_buffered b_this) ∧ (pX6_size r) = (pX6_size b_this) ∧ (pX6_at r) = (pX6_at b_this) ∧ (pX6_behind r) = (pX6_behind b_this) ∧ (pX6_kind r) = (pX6_kind b_this) ∧ (pX6_wrong r) = (pX6_wrong b_this) ∧ (pX6_wrongAt r) = (pX6_wrongAt b_this) ∧ (pX6_errorAt r) = (pX6_errorAt b_this) ∧ (pX6_number r) = (pX6_number b_this) ∧ (pX6_best r) = (pX6_best b_this) ∧ (pX6_rentBy r) = (pX6_rentBy b_this) ∧ (pX6_bareBy r) = (pX6_bareBy b_this) ∧ (pX6_aheadBy r) = (pX6_aheadBy b_this) ∧ (pX6_isEdge r) = (pX6_isEdge b_this) ∧ (pX6_moving r) = (pX6_moving b_this) ∧ (pX6_movingMany r) = (pX6_movingMany b_this)) {K22 : Int32 → Int32 → Int32 → (Nat → Int32) → (Nat → Int32) → (Nat → Int32) → (Nat → Int32) → (Nat → Int32) → (Nat → Int32) → Int32 → Int32 → Int32 → Option ((Nat → Int32) × (Nat → Int32) × (Nat → Int32) × (Nat → Int32) × Int32 × Int32)} {k22 : Int → Int → Int → BX6 → Option (BX6)} (hk22 : ∀ (Fx1 : Int32) (Fx2 : Int32) (Fx3 : Int32) (x1 : Int) (x2 : Int) (x3 : Int) (Fv_a : Nat → Int32) (Fv_tried : Nat → Int32) (Fv_stands : Nat → Int32) (Fv_found : Nat → Int32) (Fv_foundOn : Nat → Int32) (Fv_moving : Nat → Int32) (Fv_movingMany : Int32) (Fv_foundIncome : Int32) (Fv_foundMoves : Int32) (b_this : BX6) (r : BX6), LI Fx1 x1 → LI Fx2 x2 → LI Fx3 x3 → LA Fv_a (pX6_a b_this) → LA Fv_tried (pX6_tried b_this) → LA Fv_stands (pX6_stands b_this) → LA Fv_found (pX6_found b_this) → LA Fv_foundOn (pX6_foundOn b_this) → LA Fv_moving (pX6_moving b_this) → LI Fv_movingMany (pX6_movingMany b_this) → LI Fv_foundIncome (pX6_foundIncome b_this) → LI Fv_foundMoves (pX6_foundMoves b_this) → k22 x1 x2 x3 b_this = some r → ∃ R, K22 Fx1 Fx2 Fx3 Fv_a Fv_tried Fv_stands Fv_found Fv_foundOn Fv_moving Fv_movingMany Fv_foundIncome Fv_foundMoves = some R ∧ LA (R.1) (pX6_tried r) ∧ LA (R.2.1) (pX6_stands r) ∧ LA (R.2.2.1) (pX6_found r) ∧ LA (R.2.2.2.1) (pX6_foundOn r) ∧ LI (R.2.2.2.2.1) (pX6_foundIncome r) ∧ LI (R.2.2.2.2.2) (pX6_foundMoves r) ∧ (pX6_a r) = (pX6_a b_this) ∧ (pX6_fresh r) = (pX6_fresh b_this) ∧ (pX6_kept r) = (pX6_kept b_this) ∧ (pX6_keptMany r) = (pX6_keptMany b_this) ∧ (pX6_thrown r) = (pX6_thrown b_this) ∧ (pX6_buffer r) = (pX6_buffer b_this) ∧ (pX6_buffered r) = (pX6_buffered b_this) ∧ (pX6_size r) = (pX6_size b_this) ∧ (pX6_at r) = (pX6_at b_this) ∧ (pX6_behind r) = (pX6_behind b_this) ∧ (pX6_kind r) = (pX6_kind b_this) ∧ (pX6_wrong r) = (pX6_wrong b_this) ∧ (pX6_wrongAt r) = (pX6_wrongAt b_this) ∧ (pX6_errorAt r) = (pX6_errorAt b_this) ∧ (pX6_number r) = (pX6_number b_this) ∧ (pX6_best r) = (pX6_best b_this) ∧ (pX6_rentBy r) = (pX6_rentBy b_this) ∧ (pX6_bareBy r) = (pX6_bareBy b_this) ∧ (pX6_aheadBy r) = (pX6_aheadBy b_this) ∧ (pX6_isEdge r) = (pX6_isEdge b_this) ∧ (pX6_moving r) = (pX6_moving b_this) ∧ (pX6_movingMany r) = (pX6_movingMany b_this)) : ∀ (Fx1 : Int32) (Fx2 : Int32) (Fx3 : Int32) (x1 : Int) (x2 : Int) (x3 : Int) (Fv_a : Nat → Int32) (Fv_tried : Nat → Int32) (Fv_stands : Nat → Int32) (Fv_found : Nat → Int32) (Fv_foundOn : Nat → Int32) (Fv_moving : Nat → Int32) (Fv_movingMany : Int32) (Fv_foundIncome : Int32) (Fv_foundMoves : Int32) (b_this : BX6) (r : BX6), LI Fx1 x1 → LI Fx2 x2 → LI Fx3 x3 → LA Fv_a (pX6_a b_this) → LA Fv_tried (pX6_tried b_this) → LA Fv_stands (pX6_stands b_this) → LA Fv_found (pX6_found b_this) → LA Fv_foundOn (pX6_foundOn b_this) → LA Fv_moving (pX6_moving b_this) → LI Fv_movingMany (pX6_movingMany b_this) → LI Fv_foundIncome (pX6_foundIncome b_this) → LI Fv_foundMoves (pX6_foundMoves b_this) → g_X6_seeks_72 n rc k22 x1 x2 x3 b_this = some r → ∃ R, f_X6_seeks_72 n RC K22 Fx1 Fx2 Fx3 Fv_a Fv_tried Fv_stands Fv_found Fv_foundOn Fv_moving Fv_movingMany Fv_foundIncome Fv_foundMoves = some R ∧ LA (R.1) (pX6_tried r) ∧ LA (R.2.1) (pX6_stands r) ∧ LA (R.2.2.1) (pX6_found r) ∧ LA (R.2.2.2.1) (pX6_foundOn r) ∧ LI (R.2.2.2.2.1) (pX6_foundIncome r) ∧ LI (R.2.2.2.2.2) (pX6_foundMoves r) ∧ (pX6_a r) = (pX6_a b_this) ∧ (pX6_fresh r) = (pX6_fresh b_this) ∧ (pX6_kept r) = (pX6_kept b_this) ∧ (pX6_keptMany r) = (pX6_keptMany b_this) ∧ (pX6_thrown r) = (pX6_thrown b_this) ∧ (pX6_buffer r) = (pX6_buffer b_this) ∧ (pX6_buffered r) = (pX6_buffered b_this) ∧ (pX6_size r) = (pX6_size b_this) ∧ (pX6_at r) = (pX6_at b_this) ∧ (pX6_behind r) = (pX6_behind b_this) ∧ (pX6_kind r) = (pX6_kind b_this) ∧ (pX6_wrong r) = (pX6_wrong b_this) ∧ (pX6_wrongAt r) = (pX6_wrongAt b_this) ∧ (pX6_errorAt r) = (pX6_errorAt b_this) ∧ (pX6_number r) = (pX6_number b_this) ∧ (pX6_best r) = (pX6_best b_this) ∧ (pX6_rentBy r) = (pX6_rentBy b_this) ∧ (pX6_bareBy r) = (pX6_bareBy b_this) ∧ (pX6_aheadBy r) = (pX6_aheadBy b_this) ∧ (pX6_isEdge r) = (pX6_isEdge b_this) ∧ (pX6_moving r) = (pX6_moving b_this) ∧ (pX6_movingMany r) = (pX6_movingMany b_this) := by
  intro Fx1 Fx2 Fx3 x1 x2 x3 Fv_a Fv_tried Fv_stands Fv_found Fv_foundOn Fv_moving Fv_movingMany Fv_foundIncome Fv_foundMoves b_this r h_x1 h_x2 h_x3 h_v_a h_v_tried h_v_stands h_v_found h_v_foundOn h_v_moving h_v_movingMany h_v_foundIncome h_v_foundMoves hg
  unfold g_X6_seeks_72 at hg
  unfold f_X6_seeks_72
  refine lR hg (fun hr_1 hg => ?_)
  obtain ⟨R, hR, c0, c1, c2, c3, c4, c5, c6, c7, c8, c9, c10, c11, c12, c13, c14, c15, c16, c17, c18, c19, c20, c21, c22, c23, c24, c25, c26, c27⟩ := hk22 _ _ _ _ _ _ _ _ _ _ _ _ _ _ _ _ _ h_x1 h_x2 (LI_of (EI_add (EI_i h_x3) (EI_i (LI_n (x := 1) rfl))) hr_1) h_v_a h_v_tried h_v_stands h_v_found h_v_foundOn h_v_moving h_v_movingMany h_v_foundIncome h_v_foundMoves hg
  exact ⟨R, hR, c0, c1, c2, c3, c4, c5, c6, c7, c8, c9, c10, c11, c12, c13, c14, c15, c16, c17, c18, c19, c20, c21, c22, c23, c24, c25, c26, c27⟩
set_option maxHeartbeats 4000000 in
set_option maxRecDepth 100000 in
theorem l_X6_seeks_22 {n : Nat} {RC : (Nat → Int32) → (Nat → Int32) → (Nat → Int32) → (Nat → Int32) → (Nat → Int32) → (Nat → Int32) → Int32 → Int32 → Int32 → Int32 → Option ((Nat → Int32) × (Nat → Int32) × (Nat → Int32) × (Nat → Int32) × Int32 × Int32)} {rc : BX6 → Int → Option (BX6)} (hrc : ∀ (Fx1 : Int32) (x1 : Int) (Fv_a : Nat → Int32) (Fv_tried : Nat → Int32) (Fv_stands : Nat → Int32) (Fv_found : Nat → Int32) (Fv_foundOn : Nat → Int32) (Fv_moving : Nat → Int32) (Fv_movingMany : Int32) (Fv_foundIncome : Int32) (Fv_foundMoves : Int32) (b_this : BX6) (r : BX6), LI Fx1 x1 → LA Fv_a (pX6_a b_this) → LA Fv_tried (pX6_tried b_this) → LA Fv_stands (pX6_stands b_this) → LA Fv_found (pX6_found b_this) → LA Fv_foundOn (pX6_foundOn b_this) → LA Fv_moving (pX6_moving b_this) → LI Fv_movingMany (pX6_movingMany b_this) → LI Fv_foundIncome (pX6_foundIncome b_this) → LI Fv_foundMoves (pX6_foundMoves b_this) → rc b_this x1 = some r → ∃ R, RC Fv_a Fv_tried Fv_stands Fv_found Fv_foundOn Fv_moving Fv_movingMany Fv_foundIncome Fv_foundMoves Fx1 = some R ∧ LA (R.1) (pX6_tried r) ∧ LA (R.2.1) (pX6_stands r) ∧ LA (R.2.2.1) (pX6_found r) ∧ LA (R.2.2.2.1) (pX6_foundOn r) ∧ LI (R.2.2.2.2.1) (pX6_foundIncome r) ∧ LI (R.2.2.2.2.2) (pX6_foundMoves r) ∧ (pX6_a r) = (pX6_a b_this) ∧ (pX6_fresh r) = (pX6_fresh b_this) ∧ (pX6_kept r) = (pX6_kept b_this) ∧ (pX6_keptMany r) = (pX6_keptMany b_this) ∧ (pX6_thrown r) = (pX6_thrown b_this) ∧ (pX6_buffer r) = (pX6_buffer b_this) ∧ (pX6_buffered r) = (pX6_buffered b_this) ∧ (pX6_size r) = (pX6_size b_this) ∧ (pX6_at r) = (pX6_at b_this) ∧ (pX6_behind r) = (pX6_behind b_this) ∧ (pX6_kind r) = (pX6_kind b_this) ∧ (pX6_wrong r) = (pX6_wrong b_this) ∧ (pX6_wrongAt r) = (pX6_wrongAt b_this) ∧ (pX6_errorAt r) = (pX6_errorAt b_this) ∧ (pX6_number r) = (pX6_number b_this) ∧ (pX6_best r) = (pX6_best b_this) ∧ (pX6_rentBy r) = (pX6_rentBy b_this) ∧ (pX6_bareBy r) = (pX6_bareBy b_this) ∧ (pX6_aheadBy r) = (pX6_aheadBy b_this) ∧ (pX6_isEdge r) = (pX6_isEdge b_this) ∧ (pX6_moving r) = (pX6_moving b_this) ∧ (pX6_movingMany r) = (pX6_movingMany b_this)) : ∀ (fu : Nat), ∀ (Fx1 : Int32) (Fx2 : Int32) (Fx3 : Int32) (x1 : Int) (x2 : Int) (x3 : Int) (Fv_a : Nat → Int32) (Fv_tried : Nat → Int32) (Fv_stands : Nat → Int32) (Fv_found : Nat → Int32) (Fv_foundOn : Nat → Int32) (Fv_moving : Nat → Int32) (Fv_movingMany : Int32) (Fv_foundIncome : Int32) (Fv_foundMoves : Int32) (b_this : BX6) (r : BX6), LI Fx1 x1 → LI Fx2 x2 → LI Fx3 x3 → LA Fv_a (pX6_a b_this) → LA Fv_tried (pX6_tried b_this) → LA Fv_stands (pX6_stands b_this) → LA Fv_found (pX6_found b_this) → LA Fv_foundOn (pX6_foundOn b_this) → LA Fv_moving (pX6_moving b_this) → LI Fv_movingMany (pX6_movingMany b_this) → LI Fv_foundIncome (pX6_foundIncome b_this) → LI Fv_foundMoves (pX6_foundMoves b_this) → g_X6_seeks_22 n rc fu x1 x2 x3 b_this = some r → ∃ R, f_X6_seeks_22 n RC fu Fx1 Fx2 Fx3 Fv_a Fv_tried Fv_stands Fv_found Fv_foundOn Fv_moving Fv_movingMany Fv_foundIncome Fv_foundMoves = some R ∧ LA (R.1) (pX6_tried r) ∧ LA (R.2.1) (pX6_stands r) ∧ LA (R.2.2.1) (pX6_found r) ∧ LA (R.2.2.2.1) (pX6_foundOn r) ∧ LI (R.2.2.2.2.1) (pX6_foundIncome r) ∧ LI (R.2.2.2.2.2) (pX6_foundMoves r) ∧ (pX6_a r) = (pX6_a b_this) ∧ (pX6_fresh r) = (pX6_fresh b_this) ∧ (pX6_kept r) = (pX6_kept b_this) ∧ (pX6_keptMany r) = (pX6_keptMany b_this) ∧ (pX6_thrown r) = (pX6_thrown b_this) ∧ (pX6_buffer r) = (pX6_buffer b_this) ∧ (pX6_buffered r) = (pX6_buffered b_this) ∧ (pX6_size r) = (pX6_size b_this) ∧ (pX6_at r) = (pX6_at b_this) ∧ (pX6_behind r) = (pX6_behind b_this) ∧ (pX6_kind r) = (pX6_kind b_this) ∧ (pX6_wrong r) = (pX6_wrong b_this) ∧ (pX6_wrongAt r) = (pX6_wrongAt b_this) ∧ (pX6_errorAt r) = (pX6_errorAt b_this) ∧ (pX6_number r) = (pX6_number b_this) ∧ (pX6_best r) = (pX6_best b_this) ∧ (pX6_rentBy r) = (pX6_rentBy b_this) ∧ (pX6_bareBy r) = (pX6_bareBy b_this) ∧ (pX6_aheadBy r) = (pX6_aheadBy b_this) ∧ (pX6_isEdge r) = (pX6_isEdge b_this) ∧ (pX6_moving r) = (pX6_moving b_this) ∧ (pX6_movingMany r) = (pX6_movingMany b_this) := by
  intro fu
  induction fu with
  | zero => intro Fx1 Fx2 Fx3 x1 x2 x3 Fv_a Fv_tried Fv_stands Fv_found Fv_foundOn Fv_moving Fv_movingMany Fv_foundIncome Fv_foundMoves b_this r h_x1 h_x2 h_x3 h_v_a h_v_tried h_v_stands h_v_found h_v_foundOn h_v_moving h_v_movingMany h_v_foundIncome h_v_foundMoves hg; rw [g_X6_seeks_22.eq_1] at hg; cases hg
  | succ fu ih =>
    intro Fx1 Fx2 Fx3 x1 x2 x3 Fv_a Fv_tried Fv_stands Fv_found Fv_foundOn Fv_moving Fv_movingMany Fv_foundIncome Fv_foundMoves b_this r h_x1 h_x2 h_x3 h_v_a h_v_tried h_v_stands h_v_found h_v_foundOn h_v_moving h_v_movingMany h_v_foundIncome h_v_foundMoves hg
    rw [g_X6_seeks_22.eq_2] at hg
    rw [f_X6_seeks_22.eq_2]
    refine lA (EI_i (LI_n (x := 1) rfl)) rfl hg (fun ha_2 hg => ?_)
    refine lI (LI_le (LA_at h_v_a (EI_i (LI_n (x := 1) rfl)) ha_2) h_x3) hg (fun hc hg => ?_) (fun hc hg => ?_)
    · cases hg
      exact ⟨_, rfl, h_v_tried, h_v_stands, h_v_found, h_v_foundOn, h_v_foundIncome, h_v_foundMoves, rfl, rfl, rfl, rfl, rfl, rfl, rfl, rfl, rfl, rfl, rfl, rfl, rfl, rfl, rfl, rfl, rfl, rfl, rfl, rfl, rfl, rfl⟩
    · refine lB_1_1 (fun r hr => l_X6_fits  _ _ _ _ _ _ _ r h_x2 h_x3 h_v_a h_v_stands hr) hg (fun Fr_2 r_2 hq hg => ?_)
      obtain ⟨q_3⟩ := hq
      refine lI (LI_eq q_3 (LI_n (x := 0) rfl)) hg (fun hc hg => ?_) (fun hc hg => ?_)
      · obtain ⟨R, hR, c0, c1, c2, c3, c4, c5, c6, c7, c8, c9, c10, c11, c12, c13, c14, c15, c16, c17, c18, c19, c20, c21, c22, c23, c24, c25, c26, c27⟩ := l_X6_seeks_72 hrc ih _ _ _ _ _ _ _ _ _ _ _ _ _ _ _ _ _ h_x1 h_x2 h_x3 h_v_a h_v_tried h_v_stands h_v_found h_v_foundOn h_v_moving h_v_movingMany h_v_foundIncome h_v_foundMoves hg
        exact ⟨R, hR, c0, c1, c2, c3, c4, c5, c6, c7, c8, c9, c10, c11, c12, c13, c14, c15, c16, c17, c18, c19, c20, c21, c22, c23, c24, c25, c26, c27⟩
      · refine lB_1_1 (fun r hr => l_X6_lays  _ _ _ _ _ _ _ _ _ r h_x2 h_x3 h_x2 h_v_a h_v_stands hr) hg (fun Fv_4 b_4 hq hg => ?_)
        obtain ⟨q_5, q_6, q_7, q_8, q_9, q_10, q_11, q_12, q_13, q_14, q_15, q_16, q_17, q_18, q_19, q_20, q_21, q_22, q_23, q_24, q_25, q_26, q_27, q_28, q_29, q_30, q_31, q_32⟩ := hq
        have hl_33 := (LA_cg q_6 h_v_a)
        have hl_34 := (LA_cg q_26 h_v_tried)
        have hl_35 := (LA_cg q_27 h_v_found)
        have hl_36 := (LA_cg q_28 h_v_foundOn)
        have hl_37 := (LA_cg q_29 h_v_moving)
        have hl_38 := (LI_cg q_30 h_v_movingMany)
        have hl_39 := (LI_cg q_31 h_v_foundIncome)
        have hl_40 := (LI_cg q_32 h_v_foundMoves)
        refine lA (EI_i h_x2) rfl hg (fun ha_41 hg => ?_)
        refine lL (LA_upd hl_34 (EI_i h_x2) ha_41 h_x3) hg (fun Fv_7 v_7 h_v_7 hg => ?_)
        refine lR hg (fun hr_42 hg => ?_)
        refine lB_6_1 (fun r hr => hrc _ _ _ _ _ _ _ _ _ _ _ _ r (LI_of (EI_add (EI_i h_x1) (EI_i (LI_n (x := 1) rfl))) hr_42) hl_33 h_v_7 q_5 hl_35 hl_36 hl_37 hl_38 hl_39 hl_40 hr) hg (fun Fv_8 Fv_9 Fv_10 Fv_11 Fv_12 Fv_13 b_43 hq hg => ?_)
        obtain ⟨q_44, q_45, q_46, q_47, q_48, q_49, q_50, q_51, q_52, q_53, q_54, q_55, q_56, q_57, q_58, q_59, q_60, q_61, q_62, q_63, q_64, q_65, q_66, q_67, q_68, q_69, q_70, q_71⟩ := hq
        have hl_72 := (LA_cg q_50 hl_33)
        have hl_73 := (LA_cg q_70 hl_37)
        have hl_74 := (LI_cg q_71 hl_38)
        refine lB_1_1 (fun r hr => l_X6_lays  _ _ _ _ _ _ _ _ _ r h_x2 h_x3 (LI_n (x := -1) rfl) hl_72 q_45 hr) hg (fun Fv_15 b_75 hq hg => ?_)
        obtain ⟨q_76, q_77, q_78, q_79, q_80, q_81, q_82, q_83, q_84, q_85, q_86, q_87, q_88, q_89, q_90, q_91, q_92, q_93, q_94, q_95, q_96, q_97, q_98, q_99, q_100, q_101, q_102, q_103⟩ := hq
        have hl_104 := (LA_cg q_77 hl_72)
        have hl_105 := (LA_cg q_97 q_44)
        have hl_106 := (LA_cg q_98 q_46)
        have hl_107 := (LA_cg q_99 q_47)
        have hl_108 := (LA_cg q_100 hl_73)
        have hl_109 := (LI_cg q_101 hl_74)
        have hl_110 := (LI_cg q_102 q_48)
        have hl_111 := (LI_cg q_103 q_49)
        obtain ⟨R, hR, c0, c1, c2, c3, c4, c5, c6, c7, c8, c9, c10, c11, c12, c13, c14, c15, c16, c17, c18, c19, c20, c21, c22, c23, c24, c25, c26, c27⟩ := l_X6_seeks_72 hrc ih _ _ _ _ _ _ _ _ _ _ _ _ _ _ _ _ _ h_x1 h_x2 h_x3 hl_104 hl_105 q_76 hl_106 hl_107 hl_108 hl_109 hl_110 hl_111 hg
        exact ⟨R, hR, c0, c1, c2, c3, c4, c5, (c6).trans (Eq.trans q_77 (Eq.trans q_50 q_6)), (c7).trans (Eq.trans q_78 (Eq.trans q_51 q_7)), (c8).trans (Eq.trans q_79 (Eq.trans q_52 q_8)), (c9).trans (Eq.trans q_80 (Eq.trans q_53 q_9)), (c10).trans (Eq.trans q_81 (Eq.trans q_54 q_10)), (c11).trans (Eq.trans q_82 (Eq.trans q_55 q_11)), (c12).trans (Eq.trans q_83 (Eq.trans q_56 q_12)), (c13).trans (Eq.trans q_84 (Eq.trans q_57 q_13)), (c14).trans (Eq.trans q_85 (Eq.trans q_58 q_14)), (c15).trans (Eq.trans q_86 (Eq.trans q_59 q_15)), (c16).trans (Eq.trans q_87 (Eq.trans q_60 q_16)), (c17).trans (Eq.trans q_88 (Eq.trans q_61 q_17)), (c18).trans (Eq.trans q_89 (Eq.trans q_62 q_18)), (c19).trans (Eq.trans q_90 (Eq.trans q_63 q_19)), (c20).trans (Eq.trans q_91 (Eq.trans q_64 q_20)), (c21).trans (Eq.trans q_92 (Eq.trans q_65 q_21)), (c22).trans (Eq.trans q_93 (Eq.trans q_66 q_22)), (c23).trans (Eq.trans q_94 (Eq.trans q_67 q_23)), (c24).trans (Eq.trans q_95 (Eq.trans q_68 q_24)), (c25).trans (Eq.trans q_96 (Eq.trans q_69 q_25)), (c26).trans (Eq.trans q_100 (Eq.trans q_70 q_29)), (c27).trans (Eq.trans q_101 (Eq.trans q_71 q_30))⟩
set_option maxHeartbeats 4000000 in
set_option maxRecDepth 100000 in
theorem l_X6_seeks {n : Nat} : ∀ (d : Nat), ∀ (Fx1 : Int32) (x1 : Int) (Fv_a : Nat → Int32) (Fv_tried : Nat → Int32) (Fv_stands : Nat → Int32) (Fv_found : Nat → Int32) (Fv_foundOn : Nat → Int32) (Fv_moving : Nat → Int32) (Fv_movingMany : Int32) (Fv_foundIncome : Int32) (Fv_foundMoves : Int32) (b_this : BX6) (r : BX6), LI Fx1 x1 → LA Fv_a (pX6_a b_this) → LA Fv_tried (pX6_tried b_this) → LA Fv_stands (pX6_stands b_this) → LA Fv_found (pX6_found b_this) → LA Fv_foundOn (pX6_foundOn b_this) → LA Fv_moving (pX6_moving b_this) → LI Fv_movingMany (pX6_movingMany b_this) → LI Fv_foundIncome (pX6_foundIncome b_this) → LI Fv_foundMoves (pX6_foundMoves b_this) → g_X6_seeks n d b_this x1 = some r → ∃ R, f_X6_seeks n d Fv_a Fv_tried Fv_stands Fv_found Fv_foundOn Fv_moving Fv_movingMany Fv_foundIncome Fv_foundMoves Fx1 = some R ∧ LA (R.1) (pX6_tried r) ∧ LA (R.2.1) (pX6_stands r) ∧ LA (R.2.2.1) (pX6_found r) ∧ LA (R.2.2.2.1) (pX6_foundOn r) ∧ LI (R.2.2.2.2.1) (pX6_foundIncome r) ∧ LI (R.2.2.2.2.2) (pX6_foundMoves r) ∧ (pX6_a r) = (pX6_a b_this) ∧ (pX6_fresh r) = (pX6_fresh b_this) ∧ (pX6_kept r) = (pX6_kept b_this) ∧ (pX6_keptMany r) = (pX6_keptMany b_this) ∧ (pX6_thrown r) = (pX6_thrown b_this) ∧ (pX6_buffer r) = (pX6_buffer b_this) ∧ (pX6_buffered r) = (pX6_buffered b_this) ∧ (pX6_size r) = (pX6_size b_this) ∧ (pX6_at r) = (pX6_at b_this) ∧ (pX6_behind r) = (pX6_behind b_this) ∧ (pX6_kind r) = (pX6_kind b_this) ∧ (pX6_wrong r) = (pX6_wrong b_this) ∧ (pX6_wrongAt r) = (pX6_wrongAt b_this) ∧ (pX6_errorAt r) = (pX6_errorAt b_this) ∧ (pX6_number r) = (pX6_number b_this) ∧ (pX6_best r) = (pX6_best b_this) ∧ (pX6_rentBy r) = (pX6_rentBy b_this) ∧ (pX6_bareBy r) = (pX6_bareBy b_this) ∧ (pX6_aheadBy r) = (pX6_aheadBy b_this) ∧ (pX6_isEdge r) = (pX6_isEdge b_this) ∧ (pX6_moving r) = (pX6_moving b_this) ∧ (pX6_movingMany r) = (pX6_movingMany b_this) := by
  intro d
  induction d with
  | zero => intro Fx1 x1 Fv_a Fv_tried Fv_stands Fv_found Fv_foundOn Fv_moving Fv_movingMany Fv_foundIncome Fv_foundMoves b_this r h_x1 h_v_a h_v_tried h_v_stands h_v_found h_v_foundOn h_v_moving h_v_movingMany h_v_foundIncome h_v_foundMoves hg; rw [g_X6_seeks.eq_1] at hg; cases hg
  | succ d hrc =>
    intro Fx1 x1 Fv_a Fv_tried Fv_stands Fv_found Fv_foundOn Fv_moving Fv_movingMany Fv_foundIncome Fv_foundMoves b_this r h_x1 h_v_a h_v_tried h_v_stands h_v_found h_v_foundOn h_v_moving h_v_movingMany h_v_foundIncome h_v_foundMoves hg
    rw [g_X6_seeks.eq_2] at hg
    rw [f_X6_seeks.eq_2]
    refine lI (LI_eq h_x1 h_v_movingMany) hg (fun hc hg => ?_) (fun hc hg => ?_)
    · refine lB_4_1 (fun r hr => l_X6_compares  _ _ _ _ _ _ _ _ r h_v_a h_v_tried h_v_stands h_v_found h_v_foundOn h_v_foundIncome h_v_foundMoves hr) hg (fun Fv_19 Fv_20 Fv_21 Fv_22 b_112 hq hg => ?_)
      obtain ⟨q_113, q_114, q_115, q_116, q_117, q_118, q_119, q_120, q_121, q_122, q_123, q_124, q_125, q_126, q_127, q_128, q_129, q_130, q_131, q_132, q_133, q_134, q_135, q_136, q_137, q_138, q_139, q_140⟩ := hq
      have hl_141 := (LA_cg q_117 h_v_a)
      have hl_142 := (LA_cg q_137 h_v_tried)
      have hl_143 := (LA_cg q_138 h_v_stands)
      have hl_144 := (LA_cg q_139 h_v_moving)
      have hl_145 := (LI_cg q_140 h_v_movingMany)
      cases hg
      exact ⟨_, rfl, hl_142, hl_143, q_113, q_114, q_115, q_116, q_117, q_118, q_119, q_120, q_121, q_122, q_123, q_124, q_125, q_126, q_127, q_128, q_129, q_130, q_131, q_132, q_133, q_134, q_135, q_136, q_139, q_140⟩
    · refine lA (EI_i h_x1) rfl hg (fun ha_146 hg => ?_)
      refine lL (LA_at h_v_moving (EI_i h_x1) ha_146) hg (fun Fy_18 y_18 h_y_18 hg => ?_)
      obtain ⟨R, hR, c0, c1, c2, c3, c4, c5, c6, c7, c8, c9, c10, c11, c12, c13, c14, c15, c16, c17, c18, c19, c20, c21, c22, c23, c24, c25, c26, c27⟩ := l_X6_seeks_22 hrc n _ _ _ _ _ _ _ _ _ _ _ _ _ _ _ _ _ h_x1 h_y_18 (LI_n (x := 0) rfl) h_v_a h_v_tried h_v_stands h_v_found h_v_foundOn h_v_moving h_v_movingMany h_v_foundIncome h_v_foundMoves hg
      exact ⟨R, hR, c0, c1, c2, c3, c4, c5, c6, c7, c8, c9, c10, c11, c12, c13, c14, c15, c16, c17, c18, c19, c20, c21, c22, c23, c24, c25, c26, c27⟩
set_option maxHeartbeats 4000000 in
set_option maxRecDepth 100000 in
theorem l_X6_triesMoving_108 {n : Nat} {K23 : Int32 → (Nat → Int32) → (Nat → Int32) → (Nat → Int32) → (Nat → Int32) → (Nat → Int32) → (Nat → Int32) → Int32 → Int32 → Int32 → Option ((Nat → Int32) × (Nat → Int32) × (Nat → Int32) × (Nat → Int32) × Int32 × Int32)} {k23 : Int → BX6 → Option (BX6)} (hk23 : ∀ (Fx1 : Int32) (x1 : Int) (Fv_a : Nat → Int32) (Fv_tried : Nat → Int32) (Fv_stands : Nat → Int32) (Fv_found : Nat → Int32) (Fv_foundOn : Nat → Int32) (Fv_moving : Nat → Int32) (Fv_movingMany : Int32) (Fv_foundIncome : Int32) (Fv_foundMoves : Int32) (b_this : BX6) (r : BX6), LI Fx1 x1 → LA Fv_a (pX6_a b_this) → LA Fv_tried (pX6_tried b_this) → LA Fv_stands (pX6_stands b_this) → LA Fv_found (pX6_found b_this) → LA Fv_foundOn (pX6_foundOn b_this) → LA Fv_moving (pX6_moving b_this) → LI Fv_movingMany (pX6_movingMany b_this) → LI Fv_foundIncome (pX6_foundIncome b_this) → LI Fv_foundMoves (pX6_foundMoves b_this) → k23 x1 b_this = some r → ∃ R, K23 Fx1 Fv_a Fv_tried Fv_stands Fv_found Fv_foundOn Fv_moving Fv_movingMany Fv_foundIncome Fv_foundMoves = some R ∧ LA (R.1) (pX6_tried r) ∧ LA (R.2.1) (pX6_stands r) ∧ LA (R.2.2.1) (pX6_found r) ∧ LA (R.2.2.2.1) (pX6_foundOn r) ∧ LI (R.2.2.2.2.1) (pX6_foundIncome r) ∧ LI (R.2.2.2.2.2) (pX6_foundMoves r) ∧ (pX6_a r) = (pX6_a b_this) ∧ (pX6_fresh r) = (pX6_fresh b_this) ∧ (pX6_kept r) = (pX6_kept b_this) ∧ (pX6_keptMany r) = (pX6_keptMany b_this) ∧ (pX6_thrown r) = (pX6_thrown b_this) ∧ (pX6_buffer r) = (pX6_buffer b_this) ∧ (pX6_buffered r) = (pX6_buffered b_this) ∧ (pX6_size r) = (pX6_size b_this) ∧ (pX6_at r) = (pX6_at b_this) ∧ (pX6_behind r) = (pX6_behind b_this) ∧ (pX6_kind r) = (pX6_kind b_this) ∧ (pX6_wrong r) = (pX6_wrong b_this) ∧ (pX6_wrongAt r) = (pX6_wrongAt b_this) ∧ (pX6_errorAt r) = (pX6_errorAt b_this) ∧ (pX6_number r) = (pX6_number b_this) ∧ (pX6_best r) = (pX6_best b_this) ∧ (pX6_rentBy r) = (pX6_rentBy b_this) ∧ (pX6_bareBy r) = (pX6_bareBy b_this) ∧ (pX6_aheadBy r) = (pX6_aheadBy b_this) ∧ (pX6_isEdge r) = (pX6_isEdge b_this) ∧ (pX6_moving r) = (pX6_moving b_this) ∧ (pX6_movingMany r) = (pX6_movingMany b_this)) : ∀ (Fx1 : Int32) (x1 : Int) (Fv_a : Nat → Int32) (Fv_tried : Nat → Int32) (Fv_stands : Nat → Int32) (Fv_found : Nat → Int32) (Fv_foundOn : Nat → Int32) (Fv_moving : Nat → Int32) (Fv_movingMany : Int32) (Fv_foundIncome : Int32) (Fv_foundMoves : Int32) (b_this : BX6) (r : BX6), LI Fx1 x1 → LA Fv_a (pX6_a b_this) → LA Fv_tried (pX6_tried b_this) → LA Fv_stands (pX6_stands b_this) → LA Fv_found (pX6_found b_this) → LA Fv_foundOn (pX6_foundOn b_this) → LA Fv_moving (pX6_moving b_this) → LI Fv_movingMany (pX6_movingMany b_this) → LI Fv_foundIncome (pX6_foundIncome b_this) → LI Fv_foundMoves (pX6_foundMoves b_this) → g_X6_triesMoving_108 n k23 x1 b_this = some r → ∃ R, f_X6_triesMoving_108 n K23 Fx1 Fv_a Fv_tried Fv_stands Fv_found Fv_foundOn Fv_moving Fv_movingMany Fv_foundIncome Fv_foundMoves = some R ∧ LA (R.1) (pX6_tried r) ∧ LA (R.2.1) (pX6_stands r) ∧ LA (R.2.2.1) (pX6_found r) ∧ LA (R.2.2.2.1) (pX6_foundOn r) ∧ LI (R.2.2.2.2.1) (pX6_foundIncome r) ∧ LI (R.2.2.2.2.2) (pX6_foundMoves r) ∧ (pX6_a r) = (pX6_a b_this) ∧ (pX6_fresh r) = (pX6_fresh b_this) ∧ (pX6_kept r) = (pX6_kept b_this) ∧ (pX6_keptMany r) = (pX6_keptMany b_this) ∧ (pX6_thrown r) = (pX6_thrown b_this) ∧ (pX6_buffer r) = (pX6_buffer b_this) ∧ (pX6_buffered r) = (pX6_buffered b_this) ∧ (pX6_size r) = (pX6_size b_this) ∧ (pX6_at r) = (pX6_at b_this) ∧ (pX6_behind r) = (pX6_behind b_this) ∧ (pX6_kind r) = (pX6_kind b_this) ∧ (pX6_wrong r) = (pX6_wrong b_this) ∧ (pX6_wrongAt r) = (pX6_wrongAt b_this) ∧ (pX6_errorAt r) = (pX6_errorAt b_this) ∧ (pX6_number r) = (pX6_number b_this) ∧ (pX6_best r) = (pX6_best b_this) ∧ (pX6_rentBy r) = (pX6_rentBy b_this) ∧ (pX6_bareBy r) = (pX6_bareBy b_this) ∧ (pX6_aheadBy r) = (pX6_aheadBy b_this) ∧ (pX6_isEdge r) = (pX6_isEdge b_this) ∧ (pX6_moving r) = (pX6_moving b_this) ∧ (pX6_movingMany r) = (pX6_movingMany b_this) := by
  intro Fx1 x1 Fv_a Fv_tried Fv_stands Fv_found Fv_foundOn Fv_moving Fv_movingMany Fv_foundIncome Fv_foundMoves b_this r h_x1 h_v_a h_v_tried h_v_stands h_v_found h_v_foundOn h_v_moving h_v_movingMany h_v_foundIncome h_v_foundMoves hg
  unfold g_X6_triesMoving_108 at hg
  unfold f_X6_triesMoving_108
  refine lR hg (fun hr_1 hg => ?_)
  obtain ⟨R, hR, c0, c1, c2, c3, c4, c5, c6, c7, c8, c9, c10, c11, c12, c13, c14, c15, c16, c17, c18, c19, c20, c21, c22, c23, c24, c25, c26, c27⟩ := hk23 _ _ _ _ _ _ _ _ _ _ _ _ _ (LI_of (EI_add (EI_i h_x1) (EI_i (LI_n (x := 1) rfl))) hr_1) h_v_a h_v_tried h_v_stands h_v_found h_v_foundOn h_v_moving h_v_movingMany h_v_foundIncome h_v_foundMoves hg
  exact ⟨R, hR, c0, c1, c2, c3, c4, c5, c6, c7, c8, c9, c10, c11, c12, c13, c14, c15, c16, c17, c18, c19, c20, c21, c22, c23, c24, c25, c26, c27⟩
set_option maxHeartbeats 4000000 in
set_option maxRecDepth 100000 in
theorem l_X6_triesMoving_75 {n : Nat} {K23 : Int32 → (Nat → Int32) → (Nat → Int32) → (Nat → Int32) → (Nat → Int32) → (Nat → Int32) → (Nat → Int32) → Int32 → Int32 → Int32 → Option ((Nat → Int32) × (Nat → Int32) × (Nat → Int32) × (Nat → Int32) × Int32 × Int32)} {k23 : Int → BX6 → Option (BX6)} (hk23 : ∀ (Fx1 : Int32) (x1 : Int) (Fv_a : Nat → Int32) (Fv_tried : Nat → Int32) (Fv_stands : Nat → Int32) (Fv_found : Nat → Int32) (Fv_foundOn : Nat → Int32) (Fv_moving : Nat → Int32) (Fv_movingMany : Int32) (Fv_foundIncome : Int32) (Fv_foundMoves : Int32) (b_this : BX6) (r : BX6), LI Fx1 x1 → LA Fv_a (pX6_a b_this) → LA Fv_tried (pX6_tried b_this) → LA Fv_stands (pX6_stands b_this) → LA Fv_found (pX6_found b_this) → LA Fv_foundOn (pX6_foundOn b_this) → LA Fv_moving (pX6_moving b_this) → LI Fv_movingMany (pX6_movingMany b_this) → LI Fv_foundIncome (pX6_foundIncome b_this) → LI Fv_foundMoves (pX6_foundMoves b_this) → k23 x1 b_this = some r → ∃ R, K23 Fx1 Fv_a Fv_tried Fv_stands Fv_found Fv_foundOn Fv_moving Fv_movingMany Fv_foundIncome Fv_foundMoves = some R ∧ LA (R.1) (pX6_tried r) ∧ LA (R.2.1) (pX6_stands r) ∧ LA (R.2.2.1) (pX6_found r) ∧ LA (R.2.2.2.1) (pX6_foundOn r) ∧ LI (R.2.2.2.2.1) (pX6_foundIncome r) ∧ LI (R.2.2.2.2.2) (pX6_foundMoves r) ∧ (pX6_a r) = (pX6_a b_this) ∧ (pX6_fresh r) = (pX6_fresh b_this) ∧ (pX6_kept r) = (pX6_kept b_this) ∧ (pX6_keptMany r) = (pX6_keptMany b_this) ∧ (pX6_thrown r) = (pX6_thrown b_this) ∧ (pX6_buffer r) = (pX6_buffer b_this) ∧ (pX6_buffered r) = (pX6_buffered b_this) ∧ (pX6_size r) = (pX6_size b_this) ∧ (pX6_at r) = (pX6_at b_this) ∧ (pX6_behind r) = (pX6_behind b_this) ∧ (pX6_kind r) = (pX6_kind b_this) ∧ (pX6_wrong r) = (pX6_wrong b_this) ∧ (pX6_wrongAt r) = (pX6_wrongAt b_this) ∧ (pX6_errorAt r) = (pX6_errorAt b_this) ∧ (pX6_number r) = (pX6_number b_this) ∧ (pX6_best r) = (pX6_best b_this) ∧ (pX6_rentBy r) = (pX6_rentBy b_this) ∧ (pX6_bareBy r) = (pX6_bareBy b_this) ∧ (pX6_aheadBy r) = (pX6_aheadBy b_this) ∧ (pX6_isEdge r) = (pX6_isEdge b_this) ∧ (pX6_moving r) = (pX6_moving b_this) ∧ (pX6_movingMany r) = (pX6_movingMany b_this)) {K48 : Int32 → Int32 → Int32 → (Nat → Int32) → (Nat → Int32) → (Nat → Int32) → (Nat → Int32) → (Nat → Int32) → (Nat → Int32) → Int32 → Int32 → Int32 → Option ((Nat → Int32) × (Nat → Int32) × (Nat → Int32) × (Nat → Int32) × Int32 × Int32)} {k48 : Int → Int → Int → BX6 → Option (BX6)} (hk48 : ∀ (Fx1 : Int32) (Fx2 : Int32) (Fx3 : Int32) (x1 : Int) (x2 : Int) (x3 : Int) (Fv_a : Nat → Int32) (Fv_tried : Nat → Int32) (Fv_stands : Nat → Int32) (Fv_found : Nat → Int32) (Fv_foundOn : Nat → Int32) (Fv_moving : Nat → Int32) (Fv_movingMany : Int32) (Fv_foundIncome : Int32) (Fv_foundMoves : Int32) (b_this : BX6) (r : BX6), LI Fx1 x1 → LI Fx2 x2 → LI Fx3 x3 → LA Fv_a (pX6_a b_this) → LA Fv_tried (pX6_tried b_this) → LA Fv_stands (pX6_stands b_this) → LA Fv_found (pX6_found b_this) → LA Fv_foundOn (pX6_foundOn b_this) → LA Fv_moving (pX6_moving b_this) → LI Fv_movingMany (pX6_movingMany b_this) → LI Fv_foundIncome (pX6_foundIncome b_this) → LI Fv_foundMoves (pX6_foundMoves b_this) → k48 x1 x2 x3 b_this = some r → ∃ R, K48 Fx1 Fx2 Fx3 Fv_a Fv_tried Fv_stands Fv_found Fv_foundOn Fv_moving Fv_movingMany Fv_foundIncome Fv_foundMoves = some R ∧ LA (R.1) (pX6_tried r) ∧ LA (R.2.1) (pX6_stands r) ∧ LA (R.2.2.1) (pX6_found r) ∧ LA (R.2.2.2.1) (pX6_foundOn r) ∧ LI (R.2.2.2.2.1) (pX6_foundIncome r) ∧ LI (R.2.2.2.2.2) (pX6_foundMoves r) ∧ (pX6_a r) = (pX6_a b_this) ∧ (pX6_fresh r) = (pX6_fresh b_this) ∧ (pX6_kept r) = (pX6_kept b_this) ∧ (pX6_keptMany r) = (pX6_keptMany b_this) ∧ (pX6_thrown r) = (pX6_thrown b_this) ∧ (pX6_buffer r) = (pX6_buffer b_this) ∧ (pX6_buffered r) = (pX6_buffered b_this) ∧ (pX6_size r) = (pX6_size b_this) ∧ (pX6_at r) = (pX6_at b_this) ∧ (pX6_behind r) = (pX6_behind b_this) ∧ (pX6_kind r) = (pX6_kind b_this) ∧ (pX6_wrong r) = (pX6_wrong b_this) ∧ (pX6_wrongAt r) = (pX6_wrongAt b_this) ∧ (pX6_errorAt r) = (pX6_errorAt b_this) ∧ (pX6_number r) = (pX6_number b_this) ∧ (pX6_best r) = (pX6_best b_this) ∧ (pX6_rentBy r) = (pX6_rentBy b_this) ∧ (pX6_bareBy r) = (pX6_bareBy b_this) ∧ (pX6_aheadBy r) = (pX6_aheadBy b_this) ∧ (pX6_isEdge r) = (pX6_isEdge b_this) ∧ (pX6_moving r) = (pX6_moving b_this) ∧ (pX6_movingMany r) = (pX6_movingMany b_this)) : ∀ (Ft0 : Int32) (Fx1 : Int32) (Fx3 : Int32) (t0 : Int) (x1 : Int) (x3 : Int) (Fv_a : Nat → Int32) (Fv_tried : Nat → Int32) (Fv_stands : Nat → Int32) (Fv_found : Nat → Int32) (Fv_foundOn : Nat → Int32) (Fv_moving : Nat → Int32) (Fv_movingMany : Int32) (Fv_foundIncome : Int32) (Fv_foundMoves : Int32) (b_this : BX6) (r : BX6), LI Ft0 t0 → LI Fx1 x1 → LI Fx3 x3 → LA Fv_a (pX6_a b_this) → LA Fv_tried (pX6_tried b_this) → LA Fv_stands (pX6_stands b_this) → LA Fv_found (pX6_found b_this) → LA Fv_foundOn (pX6_foundOn b_this) → LA Fv_moving (pX6_moving b_this) → LI Fv_movingMany (pX6_movingMany b_this) → LI Fv_foundIncome (pX6_foundIncome b_this) → LI Fv_foundMoves (pX6_foundMoves b_this) → g_X6_triesMoving_75 n k23 k48 t0 x1 x3 b_this = some r → ∃ R, f_X6_triesMoving_75 n K23 K48 Ft0 Fx1 Fx3 Fv_a Fv_tried Fv_stands Fv_found Fv_foundOn Fv_moving Fv_movingMany Fv_foundIncome Fv_foundMoves = some R ∧ LA (R.1) (pX6_tried r) ∧ LA (R.2.1) (pX6_stands r) ∧ LA (R.2.2.1) (pX6_found r) ∧ LA (R.2.2.2.1) (pX6_foundOn r) ∧ LI (R.2.2.2.2.1) (pX6_foundIncome r) ∧ LI (R.2.2.2.2.2) (pX6_foundMoves r) ∧ (pX6_a r) = (pX6_a b_this) ∧ (pX6_fresh r) = (pX6_fresh b_this) ∧ (pX6_kept r) = (pX6_kept b_this) ∧ (pX6_keptMany r) = (pX6_keptMany b_this) ∧ (pX6_thrown r) = (pX6_thrown b_this) ∧ (pX6_buffer r) = (pX6_buffer b_this) ∧ (pX6_buffered r) = (pX6_buffered b_this) ∧ (pX6_size r) = (pX6_size b_this) ∧ (pX6_at r) = (pX6_at b_this) ∧ (pX6_behind r) = (pX6_behind b_this) ∧ (pX6_kind r) = (pX6_kind b_this) ∧ (pX6_wrong r) = (pX6_wrong b_this) ∧ (pX6_wrongAt r) = (pX6_wrongAt b_this) ∧ (pX6_errorAt r) = (pX6_errorAt b_this) ∧ (pX6_number r) = (pX6_number b_this) ∧ (pX6_best r) = (pX6_best b_this) ∧ (pX6_rentBy r) = (pX6_rentBy b_this) ∧ (pX6_bareBy r) = (pX6_bareBy b_this) ∧ (pX6_aheadBy r) = (pX6_aheadBy b_this) ∧ (pX6_isEdge r) = (pX6_isEdge b_this) ∧ (pX6_moving r) = (pX6_moving b_this) ∧ (pX6_movingMany r) = (pX6_movingMany b_this) := by
  intro Ft0 Fx1 Fx3 t0 x1 x3 Fv_a Fv_tried Fv_stands Fv_found Fv_foundOn Fv_moving Fv_movingMany Fv_foundIncome Fv_foundMoves b_this r h_t0 h_x1 h_x3 h_v_a h_v_tried h_v_stands h_v_found h_v_foundOn h_v_moving h_v_movingMany h_v_foundIncome h_v_foundMoves hg
  unfold g_X6_triesMoving_75 at hg
  unfold f_X6_triesMoving_75
  refine lR hg (fun hr_2 hg => ?_)
  obtain ⟨R, hR, c0, c1, c2, c3, c4, c5, c6, c7, c8, c9, c10, c11, c12, c13, c14, c15, c16, c17, c18, c19, c20, c21, c22, c23, c24, c25, c26, c27⟩ := hk48 _ _ _ _ _ _ _ _ _ _ _ _ _ _ _ _ _ h_x1 h_t0 (LI_of (EI_add (EI_i h_x3) (EI_i (LI_n (x := 1) rfl))) hr_2) h_v_a h_v_tried h_v_stands h_v_found h_v_foundOn h_v_moving h_v_movingMany h_v_foundIncome h_v_foundMoves hg
  exact ⟨R, hR, c0, c1, c2, c3, c4, c5, c6, c7, c8, c9, c10, c11, c12, c13, c14, c15, c16, c17, c18, c19, c20, c21, c22, c23, c24, c25, c26, c27⟩
set_option maxHeartbeats 4000000 in
set_option maxRecDepth 100000 in
theorem l_X6_triesMoving_70 {n : Nat} {K23 : Int32 → (Nat → Int32) → (Nat → Int32) → (Nat → Int32) → (Nat → Int32) → (Nat → Int32) → (Nat → Int32) → Int32 → Int32 → Int32 → Option ((Nat → Int32) × (Nat → Int32) × (Nat → Int32) × (Nat → Int32) × Int32 × Int32)} {k23 : Int → BX6 → Option (BX6)} (hk23 : ∀ (Fx1 : Int32) (x1 : Int) (Fv_a : Nat → Int32) (Fv_tried : Nat → Int32) (Fv_stands : Nat → Int32) (Fv_found : Nat → Int32) (Fv_foundOn : Nat → Int32) (Fv_moving : Nat → Int32) (Fv_movingMany : Int32) (Fv_foundIncome : Int32) (Fv_foundMoves : Int32) (b_this : BX6) (r : BX6), LI Fx1 x1 → LA Fv_a (pX6_a b_this) → LA Fv_tried (pX6_tried b_this) → LA Fv_stands (pX6_stands b_this) → LA Fv_found (pX6_found b_this) → LA Fv_foundOn (pX6_foundOn b_this) → LA Fv_moving (pX6_moving b_this) → LI Fv_movingMany (pX6_movingMany b_this) → LI Fv_foundIncome (pX6_foundIncome b_this) → LI Fv_foundMoves (pX6_foundMoves b_this) → k23 x1 b_this = some r → ∃ R, K23 Fx1 Fv_a Fv_tried Fv_stands Fv_found Fv_foundOn Fv_moving Fv_movingMany Fv_foundIncome Fv_foundMoves = some R ∧ LA (R.1) (pX6_tried r) ∧ LA (R.2.1) (pX6_stands r) ∧ LA (R.2.2.1) (pX6_found r) ∧ LA (R.2.2.2.1) (pX6_foundOn r) ∧ LI (R.2.2.2.2.1) (pX6_foundIncome r) ∧ LI (R.2.2.2.2.2) (pX6_foundMoves r) ∧ (pX6_a r) = (pX6_a b_this) ∧ (pX6_fresh r) = (pX6_fresh b_this) ∧ (pX6_kept r) = (pX6_kept b_this) ∧ (pX6_keptMany r) = (pX6_keptMany b_this) ∧ (pX6_thrown r) = (pX6_thrown b_this) ∧ (pX6_buffer r) = (pX6_buffer b_this) ∧ (pX6_buffered r) = (pX6_buffered b_this) ∧ (pX6_size r) = (pX6_size b_this) ∧ (pX6_at r) = (pX6_at b_this) ∧ (pX6_behind r) = (pX6_behind b_this) ∧ (pX6_kind r) = (pX6_kind b_this) ∧ (pX6_wrong r) = (pX6_wrong b_this) ∧ (pX6_wrongAt r) = (pX6_wrongAt b_this) ∧ (pX6_errorAt r) = (pX6_errorAt b_this) ∧ (pX6_number r) = (pX6_number b_this) ∧ (pX6_best r) = (pX6_best b_this) ∧ (pX6_rentBy r) = (pX6_rentBy b_this) ∧ (pX6_bareBy r) = (pX6_bareBy b_this) ∧ (pX6_aheadBy r) = (pX6_aheadBy b_this) ∧ (pX6_isEdge r) = (pX6_isEdge b_this) ∧ (pX6_moving r) = (pX6_moving b_this) ∧ (pX6_movingMany r) = (pX6_movingMany b_this)) {K48 : Int32 → Int32 → Int32 → (Nat → Int32) → (Nat → Int32) → (Nat → Int32) → (Nat → Int32) → (Nat → Int32) → (Nat → Int32) → Int32 → Int32 → Int32 → Option ((Nat → Int32) × (Nat → Int32) × (Nat → Int32) × (Nat → Int32) × Int32 × Int32)} {k48 : Int → Int → Int → BX6 → Option (BX6)} (hk48 : ∀ (Fx1 : Int32) (Fx2 : Int32) (Fx3 : Int32) (x1 : Int) (x2 : Int) (x3 : Int) (Fv_a : Nat → Int32) (Fv_tried : Nat → Int32) (Fv_stands : Nat → Int32) (Fv_found : Nat → Int32) (Fv_foundOn : Nat → Int32) (Fv_moving : Nat → Int32) (Fv_movingMany : Int32) (Fv_foundIncome : Int32) (Fv_foundMoves : Int32) (b_this : BX6) (r : BX6), LI Fx1 x1 → LI Fx2 x2 → LI Fx3 x3 → LA Fv_a (pX6_a b_this) → LA Fv_tried (pX6_tried b_this) → LA Fv_stands (pX6_stands b_this) → LA Fv_found (pX6_found b_this) → LA Fv_foundOn (pX6_foundOn b_this) → LA Fv_moving (pX6_moving b_this) → LI Fv_movingMany (pX6_movingMany b_this) → LI Fv_foundIncome (pX6_foundIncome b_this) → LI Fv_foundMoves (pX6_foundMoves b_this) → k48 x1 x2 x3 b_this = some r → ∃ R, K48 Fx1 Fx2 Fx3 Fv_a Fv_tried Fv_stands Fv_found Fv_foundOn Fv_moving Fv_movingMany Fv_foundIncome Fv_foundMoves = some R ∧ LA (R.1) (pX6_tried r) ∧ LA (R.2.1) (pX6_stands r) ∧ LA (R.2.2.1) (pX6_found r) ∧ LA (R.2.2.2.1) (pX6_foundOn r) ∧ LI (R.2.2.2.2.1) (pX6_foundIncome r) ∧ LI (R.2.2.2.2.2) (pX6_foundMoves r) ∧ (pX6_a r) = (pX6_a b_this) ∧ (pX6_fresh r) = (pX6_fresh b_this) ∧ (pX6_kept r) = (pX6_kept b_this) ∧ (pX6_keptMany r) = (pX6_keptMany b_this) ∧ (pX6_thrown r) = (pX6_thrown b_this) ∧ (pX6_buffer r) = (pX6_buffer b_this) ∧ (pX6_buffered r) = (pX6_buffered b_this) ∧ (pX6_size r) = (pX6_size b_this) ∧ (pX6_at r) = (pX6_at b_this) ∧ (pX6_behind r) = (pX6_behind b_this) ∧ (pX6_kind r) = (pX6_kind b_this) ∧ (pX6_wrong r) = (pX6_wrong b_this) ∧ (pX6_wrongAt r) = (pX6_wrongAt b_this) ∧ (pX6_errorAt r) = (pX6_errorAt b_this) ∧ (pX6_number r) = (pX6_number b_this) ∧ (pX6_best r) = (pX6_best b_this) ∧ (pX6_rentBy r) = (pX6_rentBy b_this) ∧ (pX6_bareBy r) = (pX6_bareBy b_this) ∧ (pX6_aheadBy r) = (pX6_aheadBy b_this) ∧ (pX6_isEdge r) = (pX6_isEdge b_this) ∧ (pX6_moving r) = (pX6_moving b_this) ∧ (pX6_movingMany r) = (pX6_movingMany b_this)) : ∀ (Fx1 : Int32) (Fx3 : Int32) (x1 : Int) (x3 : Int) (Fv_a : Nat → Int32) (Fv_tried : Nat → Int32) (Fv_stands : Nat → Int32) (Fv_found : Nat → Int32) (Fv_foundOn : Nat → Int32) (Fv_moving : Nat → Int32) (Fv_movingMany : Int32) (Fv_foundIncome : Int32) (Fv_foundMoves : Int32) (b_this : BX6) (r : BX6), LI Fx1 x1 → LI Fx3 x3 → LA Fv_a (pX6_a b_this) → LA Fv_tried (pX6_tried b_this) → LA Fv_stands (pX6_stands b_this) → LA Fv_found (pX6_found b_this) → LA Fv_foundOn (pX6_foundOn b_this) → LA Fv_moving (pX6_moving b_this) → LI Fv_movingMany (pX6_movingMany b_this) → LI Fv_foundIncome (pX6_foundIncome b_this) → LI Fv_foundMoves (pX6_foundMoves b_this) → g_X6_triesMoving_70 n k23 k48 x1 x3 b_this = some r → ∃ R, f_X6_triesMoving_70 n K23 K48 Fx1 Fx3 Fv_a Fv_tried Fv_stands Fv_found Fv_foundOn Fv_moving Fv_movingMany Fv_foundIncome Fv_foundMoves = some R ∧ LA (R.1) (pX6_tried r) ∧ LA (R.2.1) (pX6_stands r) ∧ LA (R.2.2.1) (pX6_found r) ∧ LA (R.2.2.2.1) (pX6_foundOn r) ∧ LI (R.2.2.2.2.1) (pX6_foundIncome r) ∧ LI (R.2.2.2.2.2) (pX6_foundMoves r) ∧ (pX6_a r) = (pX6_a b_this) ∧ (pX6_fresh r) = (pX6_fresh b_this) ∧ (pX6_kept r) = (pX6_kept b_this) ∧ (pX6_keptMany r) = (pX6_keptMany b_this) ∧ (pX6_thrown r) = (pX6_thrown b_this) ∧ (pX6_buffer r) = (pX6_buffer b_this) ∧ (pX6_buffered r) = (pX6_buffered b_this) ∧ (pX6_size r) = (pX6_size b_this) ∧ (pX6_at r) = (pX6_at b_this) ∧ (pX6_behind r) = (pX6_behind b_this) ∧ (pX6_kind r) = (pX6_kind b_this) ∧ (pX6_wrong r) = (pX6_wrong b_this) ∧ (pX6_wrongAt r) = (pX6_wrongAt b_this) ∧ (pX6_errorAt r) = (pX6_errorAt b_this) ∧ (pX6_number r) = (pX6_number b_this) ∧ (pX6_best r) = (pX6_best b_this) ∧ (pX6_rentBy r) = (pX6_rentBy b_this) ∧ (pX6_bareBy r) = (pX6_bareBy b_this) ∧ (pX6_aheadBy r) = (pX6_aheadBy b_this) ∧ (pX6_isEdge r) = (pX6_isEdge b_this) ∧ (pX6_moving r) = (pX6_moving b_this) ∧ (pX6_movingMany r) = (pX6_movingMany b_this) := by
  intro Fx1 Fx3 x1 x3 Fv_a Fv_tried Fv_stands Fv_found Fv_foundOn Fv_moving Fv_movingMany Fv_foundIncome Fv_foundMoves b_this r h_x1 h_x3 h_v_a h_v_tried h_v_stands h_v_found h_v_foundOn h_v_moving h_v_movingMany h_v_foundIncome h_v_foundMoves hg
  unfold g_X6_triesMoving_70 at hg
  unfold f_X6_triesMoving_70
  obtain ⟨R, hR, c0, c1, c2, c3, c4, c5, c6, c7, c8, c9, c10, c11, c12, c13, c14, c15, c16, c17, c18, c19, c20, c21, c22, c23, c24, c25, c26, c27⟩ := l_X6_triesMoving_75 hk23 hk48 _ _ _ _ _ _ _ _ _ _ _ _ _ _ _ _ _ (LI_n (x := 1) rfl) h_x1 h_x3 h_v_a h_v_tried h_v_stands h_v_found h_v_foundOn h_v_moving h_v_movingMany h_v_foundIncome h_v_foundMoves hg
  exact ⟨R, hR, c0, c1, c2, c3, c4, c5, c6, c7, c8, c9, c10, c11, c12, c13, c14, c15, c16, c17, c18, c19, c20, c21, c22, c23, c24, c25, c26, c27⟩
set_option maxHeartbeats 4000000 in
set_option maxRecDepth 100000 in
theorem l_X6_triesMoving_48 {n : Nat} {K23 : Int32 → (Nat → Int32) → (Nat → Int32) → (Nat → Int32) → (Nat → Int32) → (Nat → Int32) → (Nat → Int32) → Int32 → Int32 → Int32 → Option ((Nat → Int32) × (Nat → Int32) × (Nat → Int32) × (Nat → Int32) × Int32 × Int32)} {k23 : Int → BX6 → Option (BX6)} (hk23 : ∀ (Fx1 : Int32) (x1 : Int) (Fv_a : Nat → Int32) (Fv_tried : Nat → Int32) (Fv_stands : Nat → Int32) (Fv_found : Nat → Int32) (Fv_foundOn : Nat → Int32) (Fv_moving : Nat → Int32) (Fv_movingMany : Int32) (Fv_foundIncome : Int32) (Fv_foundMoves : Int32) (b_this : BX6) (r : BX6), LI Fx1 x1 → LA Fv_a (pX6_a b_this) → LA Fv_tried (pX6_tried b_this) → LA Fv_stands (pX6_stands b_this) → LA Fv_found (pX6_found b_this) → LA Fv_foundOn (pX6_foundOn b_this) → LA Fv_moving (pX6_moving b_this) → LI Fv_movingMany (pX6_movingMany b_this) → LI Fv_foundIncome (pX6_foundIncome b_this) → LI Fv_foundMoves (pX6_foundMoves b_this) → k23 x1 b_this = some r → ∃ R, K23 Fx1 Fv_a Fv_tried Fv_stands Fv_found Fv_foundOn Fv_moving Fv_movingMany Fv_foundIncome Fv_foundMoves = some R ∧ LA (R.1) (pX6_tried r) ∧ LA (R.2.1) (pX6_stands r) ∧ LA (R.2.2.1) (pX6_found r) ∧ LA (R.2.2.2.1) (pX6_foundOn r) ∧ LI (R.2.2.2.2.1) (pX6_foundIncome r) ∧ LI (R.2.2.2.2.2) (pX6_foundMoves r) ∧ (pX6_a r) = (pX6_a b_this) ∧ (pX6_fresh r) = (pX6_fresh b_this) ∧ (pX6_kept r) = (pX6_kept b_this) ∧ (pX6_keptMany r) = (pX6_keptMany b_this) ∧ (pX6_thrown r) = (pX6_thrown b_this) ∧ (pX6_buffer r) = (pX6_buffer b_this) ∧ (pX6_buffered r) = (pX6_buffered b_this) ∧ (pX6_size r) = (pX6_size b_this) ∧ (pX6_at r) = (pX6_at b_this) ∧ (pX6_behind r) = (pX6_behind b_this) ∧ (pX6_kind r) = (pX6_kind b_this) ∧ (pX6_wrong r) = (pX6_wrong b_this) ∧ (pX6_wrongAt r) = (pX6_wrongAt b_this) ∧ (pX6_errorAt r) = (pX6_errorAt b_this) ∧ (pX6_number r) = (pX6_number b_this) ∧ (pX6_best r) = (pX6_best b_this) ∧ (pX6_rentBy r) = (pX6_rentBy b_this) ∧ (pX6_bareBy r) = (pX6_bareBy b_this) ∧ (pX6_aheadBy r) = (pX6_aheadBy b_this) ∧ (pX6_isEdge r) = (pX6_isEdge b_this) ∧ (pX6_moving r) = (pX6_moving b_this) ∧ (pX6_movingMany r) = (pX6_movingMany b_this)) : ∀ (fu : Nat), ∀ (Fx1 : Int32) (Fx2 : Int32) (Fx3 : Int32) (x1 : Int) (x2 : Int) (x3 : Int) (Fv_a : Nat → Int32) (Fv_tried : Nat → Int32) (Fv_stands : Nat → Int32) (Fv_found : Nat → Int32) (Fv_foundOn : Nat → Int32) (Fv_moving : Nat → Int32) (Fv_movingMany : Int32) (Fv_foundIncome : Int32) (Fv_foundMoves : Int32) (b_this : BX6) (r : BX6), LI Fx1 x1 → LI Fx2 x2 → LI Fx3 x3 → LA Fv_a (pX6_a b_this) → LA Fv_tried (pX6_tried b_this) → LA Fv_stands (pX6_stands b_this) → LA Fv_found (pX6_found b_this) → LA Fv_foundOn (pX6_foundOn b_this) → LA Fv_moving (pX6_moving b_this) → LI Fv_movingMany (pX6_movingMany b_this) → LI Fv_foundIncome (pX6_foundIncome b_this) → LI Fv_foundMoves (pX6_foundMoves b_this) → g_X6_triesMoving_48 n k23 fu x1 x2 x3 b_this = some r → ∃ R, f_X6_triesMoving_48 n K23 fu Fx1 Fx2 Fx3 Fv_a Fv_tried Fv_stands Fv_found Fv_foundOn Fv_moving Fv_movingMany Fv_foundIncome Fv_foundMoves = some R ∧ LA (R.1) (pX6_tried r) ∧ LA (R.2.1) (pX6_stands r) ∧ LA (R.2.2.1) (pX6_found r) ∧ LA (R.2.2.2.1) (pX6_foundOn r) ∧ LI (R.2.2.2.2.1) (pX6_foundIncome r) ∧ LI (R.2.2.2.2.2) (pX6_foundMoves r) ∧ (pX6_a r) = (pX6_a b_this) ∧ (pX6_fresh r) = (pX6_fresh b_this) ∧ (pX6_kept r) = (pX6_kept b_this) ∧ (pX6_keptMany r) = (pX6_keptMany b_this) ∧ (pX6_thrown r) = (pX6_thrown b_this) ∧ (pX6_buffer r) = (pX6_buffer b_this) ∧ (pX6_buffered r) = (pX6_buffered b_this) ∧ (pX6_size r) = (pX6_size b_this) ∧ (pX6_at r) = (pX6_at b_this) ∧ (pX6_behind r) = (pX6_behind b_this) ∧ (pX6_kind r) = (pX6_kind b_this) ∧ (pX6_wrong r) = (pX6_wrong b_this) ∧ (pX6_wrongAt r) = (pX6_wrongAt b_this) ∧ (pX6_errorAt r) = (pX6_errorAt b_this) ∧ (pX6_number r) = (pX6_number b_this) ∧ (pX6_best r) = (pX6_best b_this) ∧ (pX6_rentBy r) = (pX6_rentBy b_this) ∧ (pX6_bareBy r) = (pX6_bareBy b_this) ∧ (pX6_aheadBy r) = (pX6_aheadBy b_this) ∧ (pX6_isEdge r) = (pX6_isEdge b_this) ∧ (pX6_moving r) = (pX6_moving b_this) ∧ (pX6_movingMany r) = (pX6_movingMany b_this) := by
  intro fu
  induction fu with
  | zero => intro Fx1 Fx2 Fx3 x1 x2 x3 Fv_a Fv_tried Fv_stands Fv_found Fv_foundOn Fv_moving Fv_movingMany Fv_foundIncome Fv_foundMoves b_this r h_x1 h_x2 h_x3 h_v_a h_v_tried h_v_stands h_v_found h_v_foundOn h_v_moving h_v_movingMany h_v_foundIncome h_v_foundMoves hg; rw [g_X6_triesMoving_48.eq_1] at hg; cases hg
  | succ fu ih =>
    intro Fx1 Fx2 Fx3 x1 x2 x3 Fv_a Fv_tried Fv_stands Fv_found Fv_foundOn Fv_moving Fv_movingMany Fv_foundIncome Fv_foundMoves b_this r h_x1 h_x2 h_x3 h_v_a h_v_tried h_v_stands h_v_found h_v_foundOn h_v_moving h_v_movingMany h_v_foundIncome h_v_foundMoves hg
    rw [g_X6_triesMoving_48.eq_2] at hg
    rw [f_X6_triesMoving_48.eq_2]
    refine lI (LI_le h_v_movingMany h_x3) hg (fun hc hg => ?_) (fun hc hg => ?_)
    · refine lA (EI_i h_x1) rfl hg (fun ha_3 hg => ?_)
      refine lI (LI_eq (LA_at h_v_tried (EI_i h_x1) ha_3) (LI_n (x := -1) rfl)) hg (fun hc hg => ?_) (fun hc hg => ?_)
      · obtain ⟨R, hR, c0, c1, c2, c3, c4, c5, c6, c7, c8, c9, c10, c11, c12, c13, c14, c15, c16, c17, c18, c19, c20, c21, c22, c23, c24, c25, c26, c27⟩ := l_X6_triesMoving_108 hk23 _ _ _ _ _ _ _ _ _ _ _ _ _ h_x1 h_v_a h_v_tried h_v_stands h_v_found h_v_foundOn h_v_moving h_v_movingMany h_v_foundIncome h_v_foundMoves hg
        exact ⟨R, hR, c0, c1, c2, c3, c4, c5, c6, c7, c8, c9, c10, c11, c12, c13, c14, c15, c16, c17, c18, c19, c20, c21, c22, c23, c24, c25, c26, c27⟩
      · refine lI (LI_eq h_x2 (LI_n (x := 0) rfl)) hg (fun hc hg => ?_) (fun hc hg => ?_)
        · refine lA (EI_i h_x1) rfl hg (fun ha_4 hg => ?_)
          refine lB_1_1 (fun r hr => l_X6_lays  _ _ _ _ _ _ _ _ _ r h_x1 (LA_at h_v_tried (EI_i h_x1) ha_4) h_x1 h_v_a h_v_stands hr) hg (fun Fv_3 b_5 hq hg => ?_)
          obtain ⟨q_6, q_7, q_8, q_9, q_10, q_11, q_12, q_13, q_14, q_15, q_16, q_17, q_18, q_19, q_20, q_21, q_22, q_23, q_24, q_25, q_26, q_27, q_28, q_29, q_30, q_31, q_32, q_33⟩ := hq
          have hl_34 := (LA_cg q_7 h_v_a)
          have hl_35 := (LA_cg q_27 h_v_tried)
          have hl_36 := (LA_cg q_28 h_v_found)
          have hl_37 := (LA_cg q_29 h_v_foundOn)
          have hl_38 := (LA_cg q_30 h_v_moving)
          have hl_39 := (LI_cg q_31 h_v_movingMany)
          have hl_40 := (LI_cg q_32 h_v_foundIncome)
          have hl_41 := (LI_cg q_33 h_v_foundMoves)
          obtain ⟨R, hR, c0, c1, c2, c3, c4, c5, c6, c7, c8, c9, c10, c11, c12, c13, c14, c15, c16, c17, c18, c19, c20, c21, c22, c23, c24, c25, c26, c27⟩ := l_X6_triesMoving_108 hk23 _ _ _ _ _ _ _ _ _ _ _ _ _ h_x1 hl_34 hl_35 q_6 hl_36 hl_37 hl_38 hl_39 hl_40 hl_41 hg
          exact ⟨R, hR, c0, c1, c2, c3, c4, c5, (c6).trans q_7, (c7).trans q_8, (c8).trans q_9, (c9).trans q_10, (c10).trans q_11, (c11).trans q_12, (c12).trans q_13, (c13).trans q_14, (c14).trans q_15, (c15).trans q_16, (c16).trans q_17, (c17).trans q_18, (c18).trans q_19, (c19).trans q_20, (c20).trans q_21, (c21).trans q_22, (c22).trans q_23, (c23).trans q_24, (c24).trans q_25, (c25).trans q_26, (c26).trans q_30, (c27).trans q_31⟩
        · obtain ⟨R, hR, c0, c1, c2, c3, c4, c5, c6, c7, c8, c9, c10, c11, c12, c13, c14, c15, c16, c17, c18, c19, c20, c21, c22, c23, c24, c25, c26, c27⟩ := l_X6_triesMoving_108 hk23 _ _ _ _ _ _ _ _ _ _ _ _ _ h_x1 h_v_a h_v_tried h_v_stands h_v_found h_v_foundOn h_v_moving h_v_movingMany h_v_foundIncome h_v_foundMoves hg
          exact ⟨R, hR, c0, c1, c2, c3, c4, c5, c6, c7, c8, c9, c10, c11, c12, c13, c14, c15, c16, c17, c18, c19, c20, c21, c22, c23, c24, c25, c26, c27⟩
    · refine lI (LI_eq h_x2 (LI_n (x := 0) rfl)) hg (fun hc hg => ?_) (fun hc hg => ?_)
      · refine lA (EI_i h_x3) rfl hg (fun ha_42 hg => ?_)
        refine lI (LI_eq (LA_at h_v_moving (EI_i h_x3) ha_42) h_x1) hg (fun hc hg => ?_) (fun hc hg => ?_)
        · obtain ⟨R, hR, c0, c1, c2, c3, c4, c5, c6, c7, c8, c9, c10, c11, c12, c13, c14, c15, c16, c17, c18, c19, c20, c21, c22, c23, c24, c25, c26, c27⟩ := l_X6_triesMoving_70 hk23 ih _ _ _ _ _ _ _ _ _ _ _ _ _ _ _ h_x1 h_x3 h_v_a h_v_tried h_v_stands h_v_found h_v_foundOn h_v_moving h_v_movingMany h_v_foundIncome h_v_foundMoves hg
          exact ⟨R, hR, c0, c1, c2, c3, c4, c5, c6, c7, c8, c9, c10, c11, c12, c13, c14, c15, c16, c17, c18, c19, c20, c21, c22, c23, c24, c25, c26, c27⟩
        · obtain ⟨R, hR, c0, c1, c2, c3, c4, c5, c6, c7, c8, c9, c10, c11, c12, c13, c14, c15, c16, c17, c18, c19, c20, c21, c22, c23, c24, c25, c26, c27⟩ := l_X6_triesMoving_75 hk23 ih _ _ _ _ _ _ _ _ _ _ _ _ _ _ _ _ _ (LI_n (x := 0) rfl) h_x1 h_x3 h_v_a h_v_tried h_v_stands h_v_found h_v_foundOn h_v_moving h_v_movingMany h_v_foundIncome h_v_foundMoves hg
          exact ⟨R, hR, c0, c1, c2, c3, c4, c5, c6, c7, c8, c9, c10, c11, c12, c13, c14, c15, c16, c17, c18, c19, c20, c21, c22, c23, c24, c25, c26, c27⟩
      · obtain ⟨R, hR, c0, c1, c2, c3, c4, c5, c6, c7, c8, c9, c10, c11, c12, c13, c14, c15, c16, c17, c18, c19, c20, c21, c22, c23, c24, c25, c26, c27⟩ := l_X6_triesMoving_70 hk23 ih _ _ _ _ _ _ _ _ _ _ _ _ _ _ _ h_x1 h_x3 h_v_a h_v_tried h_v_stands h_v_found h_v_foundOn h_v_moving h_v_movingMany h_v_foundIncome h_v_foundMoves hg
        exact ⟨R, hR, c0, c1, c2, c3, c4, c5, c6, c7, c8, c9, c10, c11, c12, c13, c14, c15, c16, c17, c18, c19, c20, c21, c22, c23, c24, c25, c26, c27⟩
set_option maxHeartbeats 4000000 in
set_option maxRecDepth 100000 in
theorem l_X6_triesMoving_23 {n : Nat} : ∀ (fu : Nat), ∀ (Fx1 : Int32) (x1 : Int) (Fv_a : Nat → Int32) (Fv_tried : Nat → Int32) (Fv_stands : Nat → Int32) (Fv_found : Nat → Int32) (Fv_foundOn : Nat → Int32) (Fv_moving : Nat → Int32) (Fv_movingMany : Int32) (Fv_foundIncome : Int32) (Fv_foundMoves : Int32) (b_this : BX6) (r : BX6), LI Fx1 x1 → LA Fv_a (pX6_a b_this) → LA Fv_tried (pX6_tried b_this) → LA Fv_stands (pX6_stands b_this) → LA Fv_found (pX6_found b_this) → LA Fv_foundOn (pX6_foundOn b_this) → LA Fv_moving (pX6_moving b_this) → LI Fv_movingMany (pX6_movingMany b_this) → LI Fv_foundIncome (pX6_foundIncome b_this) → LI Fv_foundMoves (pX6_foundMoves b_this) → g_X6_triesMoving_23 n fu x1 b_this = some r → ∃ R, f_X6_triesMoving_23 n fu Fx1 Fv_a Fv_tried Fv_stands Fv_found Fv_foundOn Fv_moving Fv_movingMany Fv_foundIncome Fv_foundMoves = some R ∧ LA (R.1) (pX6_tried r) ∧ LA (R.2.1) (pX6_stands r) ∧ LA (R.2.2.1) (pX6_found r) ∧ LA (R.2.2.2.1) (pX6_foundOn r) ∧ LI (R.2.2.2.2.1) (pX6_foundIncome r) ∧ LI (R.2.2.2.2.2) (pX6_foundMoves r) ∧ (pX6_a r) = (pX6_a b_this) ∧ (pX6_fresh r) = (pX6_fresh b_this) ∧ (pX6_kept r) = (pX6_kept b_this) ∧ (pX6_keptMany r) = (pX6_keptMany b_this) ∧ (pX6_thrown r) = (pX6_thrown b_this) ∧ (pX6_buffer r) = (pX6_buffer b_this) ∧ (pX6_buffered r) = (pX6_buffered b_this) ∧ (pX6_size r) = (pX6_size b_this) ∧ (pX6_at r) = (pX6_at b_this) ∧ (pX6_behind r) = (pX6_behind b_this) ∧ (pX6_kind r) = (pX6_kind b_this) ∧ (pX6_wrong r) = (pX6_wrong b_this) ∧ (pX6_wrongAt r) = (pX6_wrongAt b_this) ∧ (pX6_errorAt r) = (pX6_errorAt b_this) ∧ (pX6_number r) = (pX6_number b_this) ∧ (pX6_best r) = (pX6_best b_this) ∧ (pX6_rentBy r) = (pX6_rentBy b_this) ∧ (pX6_bareBy r) = (pX6_bareBy b_this) ∧ (pX6_aheadBy r) = (pX6_aheadBy b_this) ∧ (pX6_isEdge r) = (pX6_isEdge b_this) ∧ (pX6_moving r) = (pX6_moving b_this) ∧ (pX6_movingMany r) = (pX6_movingMany b_this) := by
  intro fu
  induction fu with
  | zero => intro Fx1 x1 Fv_a Fv_tried Fv_stands Fv_found Fv_foundOn Fv_moving Fv_movingMany Fv_foundIncome Fv_foundMoves b_this r h_x1 h_v_a h_v_tried h_v_stands h_v_found h_v_foundOn h_v_moving h_v_movingMany h_v_foundIncome h_v_foundMoves hg; rw [g_X6_triesMoving_23.eq_1] at hg; cases hg
  | succ fu ih =>
    intro Fx1 x1 Fv_a Fv_tried Fv_stands Fv_found Fv_foundOn Fv_moving Fv_movingMany Fv_foundIncome Fv_foundMoves b_this r h_x1 h_v_a h_v_tried h_v_stands h_v_found h_v_foundOn h_v_moving h_v_movingMany h_v_foundIncome h_v_foundMoves hg
    rw [g_X6_triesMoving_23.eq_2] at hg
    rw [f_X6_triesMoving_23.eq_2]
    refine lI (LI_le (LI_n (x := 8) rfl) h_x1) hg (fun hc hg => ?_) (fun hc hg => ?_)
    · refine lB_6_1 (fun r hr => l_X6_seeks 5 _ _ _ _ _ _ _ _ _ _ _ _ r (LI_n (x := 0) rfl) h_v_a h_v_tried h_v_stands h_v_found h_v_foundOn h_v_moving h_v_movingMany h_v_foundIncome h_v_foundMoves hr) hg (fun Fv_6 Fv_7 Fv_8 Fv_9 Fv_10 Fv_11 b_43 hq hg => ?_)
      obtain ⟨q_44, q_45, q_46, q_47, q_48, q_49, q_50, q_51, q_52, q_53, q_54, q_55, q_56, q_57, q_58, q_59, q_60, q_61, q_62, q_63, q_64, q_65, q_66, q_67, q_68, q_69, q_70, q_71⟩ := hq
      have hl_72 := (LA_cg q_50 h_v_a)
      have hl_73 := (LA_cg q_70 h_v_moving)
      have hl_74 := (LI_cg q_71 h_v_movingMany)
      cases hg
      exact ⟨_, rfl, q_44, q_45, q_46, q_47, q_48, q_49, q_50, q_51, q_52, q_53, q_54, q_55, q_56, q_57, q_58, q_59, q_60, q_61, q_62, q_63, q_64, q_65, q_66, q_67, q_68, q_69, q_70, q_71⟩
    · refine lA (EI_add (EI_i (LI_n (x := 107) rfl)) (EI_i h_x1)) rfl hg (fun ha_75 hg => ?_)
      refine lA (EI_i h_x1) rfl hg (fun ha_76 hg => ?_)
      refine lL (LA_upd h_v_tried (EI_i h_x1) ha_76 (LA_at h_v_a (EI_add (EI_i (LI_n (x := 107) rfl)) (EI_i h_x1)) ha_75)) hg (fun Fv_15 v_15 h_v_15 hg => ?_)
      obtain ⟨R, hR, c0, c1, c2, c3, c4, c5, c6, c7, c8, c9, c10, c11, c12, c13, c14, c15, c16, c17, c18, c19, c20, c21, c22, c23, c24, c25, c26, c27⟩ := l_X6_triesMoving_48 ih n _ _ _ _ _ _ _ _ _ _ _ _ _ _ _ _ _ h_x1 (LI_n (x := 0) rfl) (LI_n (x := 0) rfl) h_v_a h_v_15 h_v_stands h_v_found h_v_foundOn h_v_moving h_v_movingMany h_v_foundIncome h_v_foundMoves hg
      exact ⟨R, hR, c0, c1, c2, c3, c4, c5, c6, c7, c8, c9, c10, c11, c12, c13, c14, c15, c16, c17, c18, c19, c20, c21, c22, c23, c24, c25, c26, c27⟩
set_option maxHeartbeats 4000000 in
set_option maxRecDepth 100000 in
theorem l_X6_triesMoving_2 {n : Nat} : ∀ (fu : Nat), ∀ (Fx1 : Int32) (x1 : Int) (Fv_a : Nat → Int32) (Fv_tried : Nat → Int32) (Fv_stands : Nat → Int32) (Fv_found : Nat → Int32) (Fv_foundOn : Nat → Int32) (Fv_moving : Nat → Int32) (Fv_movingMany : Int32) (Fv_foundIncome : Int32) (Fv_foundMoves : Int32) (b_this : BX6) (r : BX6), LI Fx1 x1 → LA Fv_a (pX6_a b_this) → LA Fv_tried (pX6_tried b_this) → LA Fv_stands (pX6_stands b_this) → LA Fv_found (pX6_found b_this) → LA Fv_foundOn (pX6_foundOn b_this) → LA Fv_moving (pX6_moving b_this) → LI Fv_movingMany (pX6_movingMany b_this) → LI Fv_foundIncome (pX6_foundIncome b_this) → LI Fv_foundMoves (pX6_foundMoves b_this) → g_X6_triesMoving_2 n fu x1 b_this = some r → ∃ R, f_X6_triesMoving_2 n fu Fx1 Fv_a Fv_tried Fv_stands Fv_found Fv_foundOn Fv_moving Fv_movingMany Fv_foundIncome Fv_foundMoves = some R ∧ LA (R.1) (pX6_tried r) ∧ LA (R.2.1) (pX6_stands r) ∧ LA (R.2.2.1) (pX6_found r) ∧ LA (R.2.2.2.1) (pX6_foundOn r) ∧ LI (R.2.2.2.2.1) (pX6_foundIncome r) ∧ LI (R.2.2.2.2.2) (pX6_foundMoves r) ∧ (pX6_a r) = (pX6_a b_this) ∧ (pX6_fresh r) = (pX6_fresh b_this) ∧ (pX6_kept r) = (pX6_kept b_this) ∧ (pX6_keptMany r) = (pX6_keptMany b_this) ∧ (pX6_thrown r) = (pX6_thrown b_this) ∧ (pX6_buffer r) = (pX6_buffer b_this) ∧ (pX6_buffered r) = (pX6_buffered b_this) ∧ (pX6_size r) = (pX6_size b_this) ∧ (pX6_at r) = (pX6_at b_this) ∧ (pX6_behind r) = (pX6_behind b_this) ∧ (pX6_kind r) = (pX6_kind b_this) ∧ (pX6_wrong r) = (pX6_wrong b_this) ∧ (pX6_wrongAt r) = (pX6_wrongAt b_this) ∧ (pX6_errorAt r) = (pX6_errorAt b_this) ∧ (pX6_number r) = (pX6_number b_this) ∧ (pX6_best r) = (pX6_best b_this) ∧ (pX6_rentBy r) = (pX6_rentBy b_this) ∧ (pX6_bareBy r) = (pX6_bareBy b_this) ∧ (pX6_aheadBy r) = (pX6_aheadBy b_this) ∧ (pX6_isEdge r) = (pX6_isEdge b_this) ∧ (pX6_moving r) = (pX6_moving b_this) ∧ (pX6_movingMany r) = (pX6_movingMany b_this) := by
  intro fu
  induction fu with
  | zero => intro Fx1 x1 Fv_a Fv_tried Fv_stands Fv_found Fv_foundOn Fv_moving Fv_movingMany Fv_foundIncome Fv_foundMoves b_this r h_x1 h_v_a h_v_tried h_v_stands h_v_found h_v_foundOn h_v_moving h_v_movingMany h_v_foundIncome h_v_foundMoves hg; rw [g_X6_triesMoving_2.eq_1] at hg; cases hg
  | succ fu ih =>
    intro Fx1 x1 Fv_a Fv_tried Fv_stands Fv_found Fv_foundOn Fv_moving Fv_movingMany Fv_foundIncome Fv_foundMoves b_this r h_x1 h_v_a h_v_tried h_v_stands h_v_found h_v_foundOn h_v_moving h_v_movingMany h_v_foundIncome h_v_foundMoves hg
    rw [g_X6_triesMoving_2.eq_2] at hg
    rw [f_X6_triesMoving_2.eq_2]
    refine lI (LI_le (LI_n (x := 24) rfl) h_x1) hg (fun hc hg => ?_) (fun hc hg => ?_)
    · obtain ⟨R, hR, c0, c1, c2, c3, c4, c5, c6, c7, c8, c9, c10, c11, c12, c13, c14, c15, c16, c17, c18, c19, c20, c21, c22, c23, c24, c25, c26, c27⟩ := l_X6_triesMoving_23 n _ _ _ _ _ _ _ _ _ _ _ _ _ (LI_n (x := 0) rfl) h_v_a h_v_tried h_v_stands h_v_found h_v_foundOn h_v_moving h_v_movingMany h_v_foundIncome h_v_foundMoves hg
      exact ⟨R, hR, c0, c1, c2, c3, c4, c5, c6, c7, c8, c9, c10, c11, c12, c13, c14, c15, c16, c17, c18, c19, c20, c21, c22, c23, c24, c25, c26, c27⟩
    · refine lA (EI_i h_x1) rfl hg (fun ha_77 hg => ?_)
      refine lL (LA_upd h_v_stands (EI_i h_x1) ha_77 (LI_n (x := -1) rfl)) hg (fun Fv_17 v_17 h_v_17 hg => ?_)
      refine lR hg (fun hr_78 hg => ?_)
      obtain ⟨R, hR, c0, c1, c2, c3, c4, c5, c6, c7, c8, c9, c10, c11, c12, c13, c14, c15, c16, c17, c18, c19, c20, c21, c22, c23, c24, c25, c26, c27⟩ := ih _ _ _ _ _ _ _ _ _ _ _ _ _ (LI_of (EI_add (EI_i h_x1) (EI_i (LI_n (x := 1) rfl))) hr_78) h_v_a h_v_tried h_v_17 h_v_found h_v_foundOn h_v_moving h_v_movingMany h_v_foundIncome h_v_foundMoves hg
      exact ⟨R, hR, c0, c1, c2, c3, c4, c5, c6, c7, c8, c9, c10, c11, c12, c13, c14, c15, c16, c17, c18, c19, c20, c21, c22, c23, c24, c25, c26, c27⟩
set_option maxHeartbeats 4000000 in
set_option maxRecDepth 100000 in
theorem l_X6_triesMoving {n : Nat} : ∀ (Fv_a : Nat → Int32) (Fv_tried : Nat → Int32) (Fv_stands : Nat → Int32) (Fv_found : Nat → Int32) (Fv_foundOn : Nat → Int32) (Fv_moving : Nat → Int32) (Fv_movingMany : Int32) (Fv_foundIncome : Int32) (Fv_foundMoves : Int32) (b_this : BX6) (r : BX6), LA Fv_a (pX6_a b_this) → LA Fv_tried (pX6_tried b_this) → LA Fv_stands (pX6_stands b_this) → LA Fv_found (pX6_found b_this) → LA Fv_foundOn (pX6_foundOn b_this) → LA Fv_moving (pX6_moving b_this) → LI Fv_movingMany (pX6_movingMany b_this) → LI Fv_foundIncome (pX6_foundIncome b_this) → LI Fv_foundMoves (pX6_foundMoves b_this) → g_X6_triesMoving n b_this = some r → ∃ R, f_X6_triesMoving n Fv_a Fv_tried Fv_stands Fv_found Fv_foundOn Fv_moving Fv_movingMany Fv_foundIncome Fv_foundMoves = some R ∧ LA (R.1) (pX6_tried r) ∧ LA (R.2.1) (pX6_stands r) ∧ LA (R.2.2.1) (pX6_found r) ∧ LA (R.2.2.2.1) (pX6_foundOn r) ∧ LI (R.2.2.2.2.1) (pX6_foundIncome r) ∧ LI (R.2.2.2.2.2) (pX6_foundMoves r) ∧ (pX6_a r) = (pX6_a b_this) ∧ (pX6_fresh r) = (pX6_fresh b_this) ∧ (pX6_kept r) = (pX6_kept b_this) ∧ (pX6_keptMany r) = (pX6_keptMany b_this) ∧ (pX6_thrown r) = (pX6_thrown b_this) ∧ (pX6_buffer r) = (pX6_buffer b_this) ∧ (pX6_buffered r) = (pX6_buffered b_this) ∧ (pX6_size r) = (pX6_size b_this) ∧ (pX6_at r) = (pX6_at b_this) ∧ (pX6_behind r) = (pX6_behind b_this) ∧ (pX6_kind r) = (pX6_kind b_this) ∧ (pX6_wrong r) = (pX6_wrong b_this) ∧ (pX6_wrongAt r) = (pX6_wrongAt b_this) ∧ (pX6_errorAt r) = (pX6_errorAt b_this) ∧ (pX6_number r) = (pX6_number b_this) ∧ (pX6_best r) = (pX6_best b_this) ∧ (pX6_rentBy r) = (pX6_rentBy b_this) ∧ (pX6_bareBy r) = (pX6_bareBy b_this) ∧ (pX6_aheadBy r) = (pX6_aheadBy b_this) ∧ (pX6_isEdge r) = (pX6_isEdge b_this) ∧ (pX6_moving r) = (pX6_moving b_this) ∧ (pX6_movingMany r) = (pX6_movingMany b_this) := by
  intro Fv_a Fv_tried Fv_stands Fv_found Fv_foundOn Fv_moving Fv_movingMany Fv_foundIncome Fv_foundMoves b_this r h_v_a h_v_tried h_v_stands h_v_found h_v_foundOn h_v_moving h_v_movingMany h_v_foundIncome h_v_foundMoves hg
  unfold g_X6_triesMoving at hg
  unfold f_X6_triesMoving
  obtain ⟨R, hR, c0, c1, c2, c3, c4, c5, c6, c7, c8, c9, c10, c11, c12, c13, c14, c15, c16, c17, c18, c19, c20, c21, c22, c23, c24, c25, c26, c27⟩ := l_X6_triesMoving_2 n _ _ _ _ _ _ _ _ _ _ _ _ _ (LI_n (x := 0) rfl) h_v_a h_v_tried h_v_stands h_v_found h_v_foundOn h_v_moving h_v_movingMany h_v_foundIncome h_v_foundMoves hg
  exact ⟨R, hR, c0, c1, c2, c3, c4, c5, c6, c7, c8, c9, c10, c11, c12, c13, c14, c15, c16, c17, c18, c19, c20, c21, c22, c23, c24, c25, c26, c27⟩
