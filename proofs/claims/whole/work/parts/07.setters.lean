/-! setters: a later one wins; each pair in one order -/
theorem uX0_kept (b : BX0) (v w : (Nat → BX2)) : sX0_kept (sX0_kept b v) w = sX0_kept b w := by simp only [sX0_kept]
theorem iX0_kept (b : BX0) : sX0_kept b (pX0_kept b) = b := by unfold sX0_kept pX0_kept; rfl
theorem uX0_newest (b : BX0) (v w : Int) : sX0_newest (sX0_newest b v) w = sX0_newest b w := by simp only [sX0_newest]
theorem iX0_newest (b : BX0) : sX0_newest b (pX0_newest b) = b := by unfold sX0_newest pX0_newest; rfl
theorem uX0_count (b : BX0) (v w : Int) : sX0_count (sX0_count b v) w = sX0_count b w := by simp only [sX0_count]
theorem iX0_count (b : BX0) : sX0_count b (pX0_count b) = b := by unfold sX0_count pX0_count; rfl
theorem uX1_street (b : BX1) (v w : BX2) : sX1_street (sX1_street b v) w = sX1_street b w := by simp only [sX1_street]
theorem iX1_street (b : BX1) : sX1_street b (pX1_street b) = b := by unfold sX1_street pX1_street; rfl
theorem uX1_found (b : BX1) (v w : BX2) : sX1_found (sX1_found b v) w = sX1_found b w := by simp only [sX1_found]
theorem iX1_found (b : BX1) : sX1_found b (pX1_found b) = b := by unfold sX1_found pX1_found; rfl
theorem uX1_mostIncome (b : BX1) (v w : Int) : sX1_mostIncome (sX1_mostIncome b v) w = sX1_mostIncome b w := by simp only [sX1_mostIncome]
theorem iX1_mostIncome (b : BX1) : sX1_mostIncome b (pX1_mostIncome b) = b := by unfold sX1_mostIncome pX1_mostIncome; rfl
theorem uX1_fewestMoved (b : BX1) (v w : Int) : sX1_fewestMoved (sX1_fewestMoved b v) w = sX1_fewestMoved b w := by simp only [sX1_fewestMoved]
theorem iX1_fewestMoved (b : BX1) : sX1_fewestMoved b (pX1_fewestMoved b) = b := by unfold sX1_fewestMoved pX1_fewestMoved; rfl
theorem uX1_oldStarts (b : BX1) (v w : (Int → Int)) : sX1_oldStarts (sX1_oldStarts b v) w = sX1_oldStarts b w := by simp only [sX1_oldStarts]
theorem iX1_oldStarts (b : BX1) : sX1_oldStarts b (pX1_oldStarts b) = b := by unfold sX1_oldStarts pX1_oldStarts; rfl
theorem uX1_walkers (b : BX1) (v w : (Int → Int)) : sX1_walkers (sX1_walkers b v) w = sX1_walkers b w := by simp only [sX1_walkers]
theorem iX1_walkers (b : BX1) : sX1_walkers b (pX1_walkers b) = b := by unfold sX1_walkers pX1_walkers; rfl
theorem uX1_hopes (b : BX1) (v w : (Int → Int)) : sX1_hopes (sX1_hopes b v) w = sX1_hopes b w := by simp only [sX1_hopes]
theorem iX1_hopes (b : BX1) : sX1_hopes b (pX1_hopes b) = b := by unfold sX1_hopes pX1_hopes; rfl
theorem uX2_pitches (b : BX2) (v w : Int) : sX2_pitches (sX2_pitches b v) w = sX2_pitches b w := by simp only [sX2_pitches]
theorem iX2_pitches (b : BX2) : sX2_pitches b (pX2_pitches b) = b := by unfold sX2_pitches pX2_pitches; rfl
theorem uX2_rows (b : BX2) (v w : (Int → Int)) : sX2_rows (sX2_rows b v) w = sX2_rows b w := by simp only [sX2_rows]
theorem iX2_rows (b : BX2) : sX2_rows b (pX2_rows b) = b := by unfold sX2_rows pX2_rows; rfl
theorem uX2_rents (b : BX2) (v w : (Int → Int)) : sX2_rents (sX2_rents b v) w = sX2_rents b w := by simp only [sX2_rents]
theorem iX2_rents (b : BX2) : sX2_rents b (pX2_rents b) = b := by unfold sX2_rents pX2_rents; rfl
theorem uX2_roofs (b : BX2) (v w : (Int → Int)) : sX2_roofs (sX2_roofs b v) w = sX2_roofs b w := by simp only [sX2_roofs]
theorem iX2_roofs (b : BX2) : sX2_roofs b (pX2_roofs b) = b := by unfold sX2_roofs pX2_roofs; rfl
theorem uX2_traders (b : BX2) (v w : Int) : sX2_traders (sX2_traders b v) w = sX2_traders b w := by simp only [sX2_traders]
theorem iX2_traders (b : BX2) : sX2_traders b (pX2_traders b) = b := by unfold sX2_traders pX2_traders; rfl
theorem uX2_trades (b : BX2) (v w : (Int → Int)) : sX2_trades (sX2_trades b v) w = sX2_trades b w := by simp only [sX2_trades]
theorem iX2_trades (b : BX2) : sX2_trades b (pX2_trades b) = b := by unfold sX2_trades pX2_trades; rfl
theorem uX2_fronts (b : BX2) (v w : (Int → Int)) : sX2_fronts (sX2_fronts b v) w = sX2_fronts b w := by simp only [sX2_fronts]
theorem iX2_fronts (b : BX2) : sX2_fronts b (pX2_fronts b) = b := by unfold sX2_fronts pX2_fronts; rfl
theorem uX2_limits (b : BX2) (v w : (Int → Int)) : sX2_limits (sX2_limits b v) w = sX2_limits b w := by simp only [sX2_limits]
theorem iX2_limits (b : BX2) : sX2_limits b (pX2_limits b) = b := by unfold sX2_limits pX2_limits; rfl
theorem uX2_needy (b : BX2) (v w : (Int → Int)) : sX2_needy (sX2_needy b v) w = sX2_needy b w := by simp only [sX2_needy]
theorem iX2_needy (b : BX2) : sX2_needy b (pX2_needy b) = b := by unfold sX2_needy pX2_needy; rfl
theorem uX2_clashes (b : BX2) (v w : (Int → Int)) : sX2_clashes (sX2_clashes b v) w = sX2_clashes b w := by simp only [sX2_clashes]
theorem iX2_clashes (b : BX2) : sX2_clashes b (pX2_clashes b) = b := by unfold sX2_clashes pX2_clashes; rfl
theorem uX2_covers (b : BX2) (v w : Int) : sX2_covers (sX2_covers b v) w = sX2_covers b w := by simp only [sX2_covers]
theorem iX2_covers (b : BX2) : sX2_covers b (pX2_covers b) = b := by unfold sX2_covers pX2_covers; rfl
theorem uX2_starts (b : BX2) (v w : (Int → Int)) : sX2_starts (sX2_starts b v) w = sX2_starts b w := by simp only [sX2_starts]
theorem iX2_starts (b : BX2) : sX2_starts b (pX2_starts b) = b := by unfold sX2_starts pX2_starts; rfl
theorem uX2_standing (b : BX2) (v w : (Int → Int)) : sX2_standing (sX2_standing b v) w = sX2_standing b w := by simp only [sX2_standing]
theorem iX2_standing (b : BX2) : sX2_standing b (pX2_standing b) = b := by unfold sX2_standing pX2_standing; rfl
theorem uX2_coversBusy (b : BX2) (v w : Int) : sX2_coversBusy (sX2_coversBusy b v) w = sX2_coversBusy b w := by simp only [sX2_coversBusy]
theorem iX2_coversBusy (b : BX2) : sX2_coversBusy b (pX2_coversBusy b) = b := by unfold sX2_coversBusy pX2_coversBusy; rfl
theorem uX3_street (b : BX3) (v w : BX2) : sX3_street (sX3_street b v) w = sX3_street b w := by simp only [sX3_street]
theorem iX3_street (b : BX3) : sX3_street b (pX3_street b) = b := by unfold sX3_street pX3_street; rfl
theorem uX3_table (b : BX3) (v w : (Int → Int)) : sX3_table (sX3_table b v) w = sX3_table b w := by simp only [sX3_table]
theorem iX3_table (b : BX3) : sX3_table b (pX3_table b) = b := by unfold sX3_table pX3_table; rfl
theorem uX3_tableN (b : BX3) (v w : Int) : sX3_tableN (sX3_tableN b v) w = sX3_tableN b w := by simp only [sX3_tableN]
theorem iX3_tableN (b : BX3) : sX3_tableN b (pX3_tableN b) = b := by unfold sX3_tableN pX3_tableN; rfl
theorem uX3_sets (b : BX3) (v w : Int) : sX3_sets (sX3_sets b v) w = sX3_sets b w := by simp only [sX3_sets]
theorem iX3_sets (b : BX3) : sX3_sets b (pX3_sets b) = b := by unfold sX3_sets pX3_sets; rfl
theorem uX3_kinds (b : BX3) (v w : Int) : sX3_kinds (sX3_kinds b v) w = sX3_kinds b w := by simp only [sX3_kinds]
theorem iX3_kinds (b : BX3) : sX3_kinds b (pX3_kinds b) = b := by unfold sX3_kinds pX3_kinds; rfl
theorem uX3_levels (b : BX3) (v w : Int) : sX3_levels (sX3_levels b v) w = sX3_levels b w := by simp only [sX3_levels]
theorem iX3_levels (b : BX3) : sX3_levels b (pX3_levels b) = b := by unfold sX3_levels pX3_levels; rfl
theorem uX3_worths (b : BX3) (v w : (Int → Int)) : sX3_worths (sX3_worths b v) w = sX3_worths b w := by simp only [sX3_worths]
theorem iX3_worths (b : BX3) : sX3_worths b (pX3_worths b) = b := by unfold sX3_worths pX3_worths; rfl
theorem uX3_needs (b : BX3) (v w : (Int → Int)) : sX3_needs (sX3_needs b v) w = sX3_needs b w := by simp only [sX3_needs]
theorem iX3_needs (b : BX3) : sX3_needs b (pX3_needs b) = b := by unfold sX3_needs pX3_needs; rfl
theorem uX3_kindsBehind (b : BX3) (v w : (Int → Int)) : sX3_kindsBehind (sX3_kindsBehind b v) w = sX3_kindsBehind b w := by simp only [sX3_kindsBehind]
theorem iX3_kindsBehind (b : BX3) : sX3_kindsBehind b (pX3_kindsBehind b) = b := by unfold sX3_kindsBehind pX3_kindsBehind; rfl
theorem uX3_kindOf (b : BX3) (v w : (Int → Int)) : sX3_kindOf (sX3_kindOf b v) w = sX3_kindOf b w := by simp only [sX3_kindOf]
theorem iX3_kindOf (b : BX3) : sX3_kindOf b (pX3_kindOf b) = b := by unfold sX3_kindOf pX3_kindOf; rfl
theorem uX3_barred (b : BX3) (v w : (Int → Int)) : sX3_barred (sX3_barred b v) w = sX3_barred b w := by simp only [sX3_barred]
theorem iX3_barred (b : BX3) : sX3_barred b (pX3_barred b) = b := by unfold sX3_barred pX3_barred; rfl
theorem uX4_text (b : BX4) (v w : (Int → Int)) : sX4_text (sX4_text b v) w = sX4_text b w := by simp only [sX4_text]
theorem iX4_text (b : BX4) : sX4_text b (pX4_text b) = b := by unfold sX4_text pX4_text; rfl
theorem uX4_length (b : BX4) (v w : Int) : sX4_length (sX4_length b v) w = sX4_length b w := by simp only [sX4_length]
theorem iX4_length (b : BX4) : sX4_length b (pX4_length b) = b := by unfold sX4_length pX4_length; rfl
theorem uX4_position (b : BX4) (v w : Int) : sX4_position (sX4_position b v) w = sX4_position b w := by simp only [sX4_position]
theorem iX4_position (b : BX4) : sX4_position b (pX4_position b) = b := by unfold sX4_position pX4_position; rfl
theorem uX4_rowsRead (b : BX4) (v w : Int) : sX4_rowsRead (sX4_rowsRead b v) w = sX4_rowsRead b w := by simp only [sX4_rowsRead]
theorem iX4_rowsRead (b : BX4) : sX4_rowsRead b (pX4_rowsRead b) = b := by unfold sX4_rowsRead pX4_rowsRead; rfl
theorem uX4_error (b : BX4) (v w : Int) : sX4_error (sX4_error b v) w = sX4_error b w := by simp only [sX4_error]
theorem iX4_error (b : BX4) : sX4_error b (pX4_error b) = b := by unfold sX4_error pX4_error; rfl
theorem uX4_errorAt (b : BX4) (v w : Int) : sX4_errorAt (sX4_errorAt b v) w = sX4_errorAt b w := by simp only [sX4_errorAt]
theorem iX4_errorAt (b : BX4) : sX4_errorAt b (pX4_errorAt b) = b := by unfold sX4_errorAt pX4_errorAt; rfl
theorem uX5_text (b : BX5) (v w : (Int → Int)) : sX5_text (sX5_text b v) w = sX5_text b w := by simp only [sX5_text]
theorem iX5_text (b : BX5) : sX5_text b (pX5_text b) = b := by unfold sX5_text pX5_text; rfl
theorem uX5_textLength (b : BX5) (v w : Int) : sX5_textLength (sX5_textLength b v) w = sX5_textLength b w := by simp only [sX5_textLength]
theorem iX5_textLength (b : BX5) : sX5_textLength b (pX5_textLength b) = b := by unfold sX5_textLength pX5_textLength; rfl
theorem uX5_errorAt (b : BX5) (v w : Int) : sX5_errorAt (sX5_errorAt b v) w = sX5_errorAt b w := by simp only [sX5_errorAt]
theorem iX5_errorAt (b : BX5) : sX5_errorAt b (pX5_errorAt b) = b := by unfold sX5_errorAt pX5_errorAt; rfl
theorem uX5_reader (b : BX5) (v w : BX4) : sX5_reader (sX5_reader b v) w = sX5_reader b w := by simp only [sX5_reader]
theorem iX5_reader (b : BX5) : sX5_reader b (pX5_reader b) = b := by unfold sX5_reader pX5_reader; rfl
theorem uX5_market (b : BX5) (v w : BX2) : sX5_market (sX5_market b v) w = sX5_market b w := by simp only [sX5_market]
theorem iX5_market (b : BX5) : sX5_market b (pX5_market b) = b := by unfold sX5_market pX5_market; rfl
theorem uX5_draft (b : BX5) (v w : BX2) : sX5_draft (sX5_draft b v) w = sX5_draft b w := by simp only [sX5_draft]
theorem iX5_draft (b : BX5) : sX5_draft b (pX5_draft b) = b := by unfold sX5_draft pX5_draft; rfl
theorem uX5_history (b : BX5) (v w : BX0) : sX5_history (sX5_history b v) w = sX5_history b w := by simp only [sX5_history]
theorem iX5_history (b : BX5) : sX5_history b (pX5_history b) = b := by unfold sX5_history pX5_history; rfl
theorem uX5_planner (b : BX5) (v w : BX3) : sX5_planner (sX5_planner b v) w = sX5_planner b w := by simp only [sX5_planner]
theorem iX5_planner (b : BX5) : sX5_planner b (pX5_planner b) = b := by unfold sX5_planner pX5_planner; rfl
theorem uX5_trialPlanner (b : BX5) (v w : BX3) : sX5_trialPlanner (sX5_trialPlanner b v) w = sX5_trialPlanner b w := by simp only [sX5_trialPlanner]
theorem iX5_trialPlanner (b : BX5) : sX5_trialPlanner b (pX5_trialPlanner b) = b := by unfold sX5_trialPlanner pX5_trialPlanner; rfl
theorem uX5_insertion (b : BX5) (v w : BX1) : sX5_insertion (sX5_insertion b v) w = sX5_insertion b w := by simp only [sX5_insertion]
theorem iX5_insertion (b : BX5) : sX5_insertion b (pX5_insertion b) = b := by unfold sX5_insertion pX5_insertion; rfl
theorem uX5_queue (b : BX5) (v w : (Int → Int)) : sX5_queue (sX5_queue b v) w = sX5_queue b w := by simp only [sX5_queue]
theorem iX5_queue (b : BX5) : sX5_queue b (pX5_queue b) = b := by unfold sX5_queue pX5_queue; rfl
theorem uX5_planned (b : BX5) (v w : Int) : sX5_planned (sX5_planned b v) w = sX5_planned b w := by simp only [sX5_planned]
theorem iX5_planned (b : BX5) : sX5_planned b (pX5_planned b) = b := by unfold sX5_planned pX5_planned; rfl
theorem uX6_a (b : BX6) (v w : (Int → Int)) : sX6_a (sX6_a b v) w = sX6_a b w := by simp only [sX6_a]
theorem iX6_a (b : BX6) : sX6_a b (pX6_a b) = b := by unfold sX6_a pX6_a; rfl
theorem uX6_fresh (b : BX6) (v w : (Int → Int)) : sX6_fresh (sX6_fresh b v) w = sX6_fresh b w := by simp only [sX6_fresh]
theorem iX6_fresh (b : BX6) : sX6_fresh b (pX6_fresh b) = b := by unfold sX6_fresh pX6_fresh; rfl
theorem uX6_kept (b : BX6) (v w : (Int → Int)) : sX6_kept (sX6_kept b v) w = sX6_kept b w := by simp only [sX6_kept]
theorem iX6_kept (b : BX6) : sX6_kept b (pX6_kept b) = b := by unfold sX6_kept pX6_kept; rfl
theorem uX6_keptMany (b : BX6) (v w : Int) : sX6_keptMany (sX6_keptMany b v) w = sX6_keptMany b w := by simp only [sX6_keptMany]
theorem iX6_keptMany (b : BX6) : sX6_keptMany b (pX6_keptMany b) = b := by unfold sX6_keptMany pX6_keptMany; rfl
theorem uX6_thrown (b : BX6) (v w : Int) : sX6_thrown (sX6_thrown b v) w = sX6_thrown b w := by simp only [sX6_thrown]
theorem iX6_thrown (b : BX6) : sX6_thrown b (pX6_thrown b) = b := by unfold sX6_thrown pX6_thrown; rfl
theorem uX6_buffer (b : BX6) (v w : (Int → Int)) : sX6_buffer (sX6_buffer b v) w = sX6_buffer b w := by simp only [sX6_buffer]
theorem iX6_buffer (b : BX6) : sX6_buffer b (pX6_buffer b) = b := by unfold sX6_buffer pX6_buffer; rfl
theorem uX6_buffered (b : BX6) (v w : Int) : sX6_buffered (sX6_buffered b v) w = sX6_buffered b w := by simp only [sX6_buffered]
theorem iX6_buffered (b : BX6) : sX6_buffered b (pX6_buffered b) = b := by unfold sX6_buffered pX6_buffered; rfl
theorem uX6_size (b : BX6) (v w : Int) : sX6_size (sX6_size b v) w = sX6_size b w := by simp only [sX6_size]
theorem iX6_size (b : BX6) : sX6_size b (pX6_size b) = b := by unfold sX6_size pX6_size; rfl
theorem uX6_at (b : BX6) (v w : Int) : sX6_at (sX6_at b v) w = sX6_at b w := by simp only [sX6_at]
theorem iX6_at (b : BX6) : sX6_at b (pX6_at b) = b := by unfold sX6_at pX6_at; rfl
theorem uX6_behind (b : BX6) (v w : Int) : sX6_behind (sX6_behind b v) w = sX6_behind b w := by simp only [sX6_behind]
theorem iX6_behind (b : BX6) : sX6_behind b (pX6_behind b) = b := by unfold sX6_behind pX6_behind; rfl
theorem uX6_kind (b : BX6) (v w : Int) : sX6_kind (sX6_kind b v) w = sX6_kind b w := by simp only [sX6_kind]
theorem iX6_kind (b : BX6) : sX6_kind b (pX6_kind b) = b := by unfold sX6_kind pX6_kind; rfl
theorem uX6_wrong (b : BX6) (v w : Int) : sX6_wrong (sX6_wrong b v) w = sX6_wrong b w := by simp only [sX6_wrong]
theorem iX6_wrong (b : BX6) : sX6_wrong b (pX6_wrong b) = b := by unfold sX6_wrong pX6_wrong; rfl
theorem uX6_wrongAt (b : BX6) (v w : Int) : sX6_wrongAt (sX6_wrongAt b v) w = sX6_wrongAt b w := by simp only [sX6_wrongAt]
theorem iX6_wrongAt (b : BX6) : sX6_wrongAt b (pX6_wrongAt b) = b := by unfold sX6_wrongAt pX6_wrongAt; rfl
theorem uX6_errorAt (b : BX6) (v w : Int) : sX6_errorAt (sX6_errorAt b v) w = sX6_errorAt b w := by simp only [sX6_errorAt]
theorem iX6_errorAt (b : BX6) : sX6_errorAt b (pX6_errorAt b) = b := by unfold sX6_errorAt pX6_errorAt; rfl
theorem uX6_number (b : BX6) (v w : Int) : sX6_number (sX6_number b v) w = sX6_number b w := by simp only [sX6_number]
theorem iX6_number (b : BX6) : sX6_number b (pX6_number b) = b := by unfold sX6_number pX6_number; rfl
theorem uX6_best (b : BX6) (v w : (Int → Int)) : sX6_best (sX6_best b v) w = sX6_best b w := by simp only [sX6_best]
theorem iX6_best (b : BX6) : sX6_best b (pX6_best b) = b := by unfold sX6_best pX6_best; rfl
theorem uX6_rentBy (b : BX6) (v w : (Int → Int)) : sX6_rentBy (sX6_rentBy b v) w = sX6_rentBy b w := by simp only [sX6_rentBy]
theorem iX6_rentBy (b : BX6) : sX6_rentBy b (pX6_rentBy b) = b := by unfold sX6_rentBy pX6_rentBy; rfl
theorem uX6_bareBy (b : BX6) (v w : (Int → Int)) : sX6_bareBy (sX6_bareBy b v) w = sX6_bareBy b w := by simp only [sX6_bareBy]
theorem iX6_bareBy (b : BX6) : sX6_bareBy b (pX6_bareBy b) = b := by unfold sX6_bareBy pX6_bareBy; rfl
theorem uX6_aheadBy (b : BX6) (v w : (Int → Int)) : sX6_aheadBy (sX6_aheadBy b v) w = sX6_aheadBy b w := by simp only [sX6_aheadBy]
theorem iX6_aheadBy (b : BX6) : sX6_aheadBy b (pX6_aheadBy b) = b := by unfold sX6_aheadBy pX6_aheadBy; rfl
theorem uX6_isEdge (b : BX6) (v w : (Int → Int)) : sX6_isEdge (sX6_isEdge b v) w = sX6_isEdge b w := by simp only [sX6_isEdge]
theorem iX6_isEdge (b : BX6) : sX6_isEdge b (pX6_isEdge b) = b := by unfold sX6_isEdge pX6_isEdge; rfl
theorem uX6_tried (b : BX6) (v w : (Int → Int)) : sX6_tried (sX6_tried b v) w = sX6_tried b w := by simp only [sX6_tried]
theorem iX6_tried (b : BX6) : sX6_tried b (pX6_tried b) = b := by unfold sX6_tried pX6_tried; rfl
theorem uX6_stands (b : BX6) (v w : (Int → Int)) : sX6_stands (sX6_stands b v) w = sX6_stands b w := by simp only [sX6_stands]
theorem iX6_stands (b : BX6) : sX6_stands b (pX6_stands b) = b := by unfold sX6_stands pX6_stands; rfl
theorem uX6_found (b : BX6) (v w : (Int → Int)) : sX6_found (sX6_found b v) w = sX6_found b w := by simp only [sX6_found]
theorem iX6_found (b : BX6) : sX6_found b (pX6_found b) = b := by unfold sX6_found pX6_found; rfl
theorem uX6_foundOn (b : BX6) (v w : (Int → Int)) : sX6_foundOn (sX6_foundOn b v) w = sX6_foundOn b w := by simp only [sX6_foundOn]
theorem iX6_foundOn (b : BX6) : sX6_foundOn b (pX6_foundOn b) = b := by unfold sX6_foundOn pX6_foundOn; rfl
theorem uX6_moving (b : BX6) (v w : (Int → Int)) : sX6_moving (sX6_moving b v) w = sX6_moving b w := by simp only [sX6_moving]
theorem iX6_moving (b : BX6) : sX6_moving b (pX6_moving b) = b := by unfold sX6_moving pX6_moving; rfl
theorem uX6_movingMany (b : BX6) (v w : Int) : sX6_movingMany (sX6_movingMany b v) w = sX6_movingMany b w := by simp only [sX6_movingMany]
theorem iX6_movingMany (b : BX6) : sX6_movingMany b (pX6_movingMany b) = b := by unfold sX6_movingMany pX6_movingMany; rfl
theorem uX6_foundIncome (b : BX6) (v w : Int) : sX6_foundIncome (sX6_foundIncome b v) w = sX6_foundIncome b w := by simp only [sX6_foundIncome]
theorem iX6_foundIncome (b : BX6) : sX6_foundIncome b (pX6_foundIncome b) = b := by unfold sX6_foundIncome pX6_foundIncome; rfl
theorem uX6_foundMoves (b : BX6) (v w : Int) : sX6_foundMoves (sX6_foundMoves b v) w = sX6_foundMoves b w := by simp only [sX6_foundMoves]
theorem iX6_foundMoves (b : BX6) : sX6_foundMoves b (pX6_foundMoves b) = b := by unfold sX6_foundMoves pX6_foundMoves; rfl
