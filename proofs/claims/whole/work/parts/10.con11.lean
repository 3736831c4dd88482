/-! X5_pitchCount -/
section
variable {p : Program} {l : Launch} {e : Env} {s : State} {m : MethodId} {args : Array Value} {below : List Frame} {meth : Method} {c : Code} {D : va_G} {A : Nat → Prop} {cI cZ cM : ClassId} {a_this a_text a_reader a_market a_draft a_history a_planner a_trialPlanner a_insertion a_queue a_market_rows a_market_rents a_market_roofs a_market_trades a_market_fronts a_market_limits a_market_needy a_market_clashes a_market_starts a_market_standing : Nat} {v_textLength : Int32} {v_errorAt : Int32} {v_planned : Int32} {v_market_traders : Int32} {v_market_covers : Int32} {v_market_coversBusy : Int32} {res : Int32}
def rmX5_pitchCount : Room := { frames := 0, cells := 0, slots := 0, locals := 0 }
abbrev zwX5_pitchCount : List Cond := Cond.code yX5_pitchCount cX5_pitchCount 1 (some .int) :: wsAll
set_option maxHeartbeats 4000000 in
set_option maxRecDepth 100000 in
theorem c_X5_pitchCount {l : Launch} {D : va_G} {cI cZ cM : ClassId} {a_this a_text a_reader a_market a_draft a_history a_planner a_trialPlanner a_insertion a_queue a_market_rows a_market_rents a_market_roofs a_market_trades a_market_fronts a_market_limits a_market_needy a_market_clashes a_market_starts a_market_standing : Nat} {v_textLength : Int32} {v_errorAt : Int32} {v_planned : Int32} {v_market_traders : Int32} {v_market_covers : Int32} {v_market_coversBusy : Int32} {res : Int32} {sz : Nat} {v_market_pitches : Int32} (hf : f_X5_pitchCount v_market_pitches = some res) : Met l yX5_pitchCount zwX5_pitchCount rmX5_pitchCount (zPc D (zT cI cZ cM) [.ref a_this] [(a_this, .inr (5, [.ref a_text, .int v_textLength, .int v_errorAt, .ref a_reader, .ref a_market, .ref a_draft, .ref a_history, .ref a_planner, .ref a_trialPlanner, .ref a_insertion, .ref a_queue, .int v_planned])), (a_market, .inr (2, [.int v_market_pitches, .ref a_market_rows, .ref a_market_rents, .ref a_market_roofs, .int v_market_traders, .ref a_market_trades, .ref a_market_fronts, .ref a_market_limits, .ref a_market_needy, .ref a_market_clashes, .int v_market_covers, .ref a_market_starts, .ref a_market_standing, .int v_market_coversBusy]))] sz) (zQi D (zT cI cZ cM) res [(a_this, .inr (5, [.ref a_text, .int v_textLength, .int v_errorAt, .ref a_reader, .ref a_market, .ref a_draft, .ref a_history, .ref a_planner, .ref a_trialPlanner, .ref a_insertion, .ref a_queue, .int v_planned])), (a_market, .inr (2, [.int v_market_pitches, .ref a_market_rows, .ref a_market_rents, .ref a_market_roofs, .int v_market_traders, .ref a_market_trades, .ref a_market_fronts, .ref a_market_limits, .ref a_market_needy, .ref a_market_clashes, .int v_market_covers, .ref a_market_starts, .ref a_market_standing, .int v_market_coversBusy]))] (va_A [(a_this, .inr (5, [.ref a_text, .int v_textLength, .int v_errorAt, .ref a_reader, .ref a_market, .ref a_draft, .ref a_history, .ref a_planner, .ref a_trialPlanner, .ref a_insertion, .ref a_queue, .int v_planned])), (a_market, .inr (2, [.int v_market_pitches, .ref a_market_rows, .ref a_market_rents, .ref a_market_roofs, .int v_market_traders, .ref a_market_trades, .ref a_market_fronts, .ref a_market_limits, .ref a_market_needy, .ref a_market_clashes, .int v_market_covers, .ref a_market_starts, .ref a_market_standing, .int v_market_coversBusy]))] sz)) 0 0 (va_A [(a_this, .inr (5, [.ref a_text, .int v_textLength, .int v_errorAt, .ref a_reader, .ref a_market, .ref a_draft, .ref a_history, .ref a_planner, .ref a_trialPlanner, .ref a_insertion, .ref a_queue, .int v_planned])), (a_market, .inr (2, [.int v_market_pitches, .ref a_market_rows, .ref a_market_rents, .ref a_market_roofs, .int v_market_traders, .ref a_market_trades, .ref a_market_fronts, .ref a_market_limits, .ref a_market_needy, .ref a_market_clashes, .int v_market_covers, .ref a_market_starts, .ref a_market_standing, .int v_market_coversBusy]))] sz) := by
  refine z_met (cc := cX5_pitchCount) (maxL := 1) (ret := (some .int)) (by decide) rfl (Nat.le_of_ble_eq_true rfl) ?_
  intro p e s m below meth c ls E hsz hw hl
  obtain ⟨⟨hx, hb, hml, hown, hts⟩, hr, hlocks⟩ := id E
  have hl : lv_has ls 1 [(0, .ref a_this)] := hl
  unfold f_X5_pitchCount at hf
  refine lv_aload_n hx hb dX5_pitchCount_0 rfl (lv_at hl 0 rfl) ?_
  refine z_get E.1 hw in_wsX50 0 rfl rfl 4 (z_lt rfl) mw_411 (v := .ref a_market) rfl dX5_pitchCount_1 ?_
  refine z_get E.1 hw in_wsX20 1 rfl rfl 0 (z_lt rfl) mw_560 (v := .int v_market_pitches) rfl dX5_pitchCount_4 ?_
  cases hf
  exact z_iret E rfl hw dX5_pitchCount_7
end
/-! X5_rent -/
section
variable {p : Program} {l : Launch} {e : Env} {s : State} {m : MethodId} {args : Array Value} {below : List Frame} {meth : Method} {c : Code} {D : va_G} {A : Nat → Prop} {cI cZ cM : ClassId} {a_this a_text a_reader a_market a_draft a_history a_planner a_trialPlanner a_insertion a_queue a_market_rows a_market_rents a_market_roofs a_market_trades a_market_fronts a_market_limits a_market_needy a_market_clashes a_market_starts a_market_standing : Nat} {v_textLength : Int32} {v_errorAt : Int32} {v_planned : Int32} {v_market_traders : Int32} {v_market_covers : Int32} {v_market_coversBusy : Int32} {res : Nat × Int32}
def rmX5_rent : Room := { frames := 7, cells := 1, slots := 6, locals := 111 }
abbrev zwX5_rent : List Cond := Cond.code yX5_rent cX5_rent 2 (some .int) :: wsAll
set_option maxHeartbeats 4000000 in
set_option maxRecDepth 100000 in
theorem c_X5_rent {l : Launch} {D : va_G} {cI cZ cM : ClassId} {a_this a_text a_reader a_market a_draft a_history a_planner a_trialPlanner a_insertion a_queue a_market_rows a_market_rents a_market_roofs a_market_trades a_market_fronts a_market_limits a_market_needy a_market_clashes a_market_starts a_market_standing : Nat} {v_textLength : Int32} {v_errorAt : Int32} {v_planned : Int32} {v_market_traders : Int32} {v_market_covers : Int32} {v_market_coversBusy : Int32} {res : Nat × Int32} {sz : Nat} {v_market_pitches : Int32} {v_market_rents : Nat → Int32} {x1 : Int32} (hst : l.stackTraces = false) (hf : f_X5_rent v_market_pitches v_market_rents x1 = some res) : vx_Met l yX5_rent zwX5_rent rmX5_rent (zPcX D (zT cI cZ cM) [.ref a_this, .int x1] [(a_this, .inr (5, [.ref a_text, .int v_textLength, .int v_errorAt, .ref a_reader, .ref a_market, .ref a_draft, .ref a_history, .ref a_planner, .ref a_trialPlanner, .ref a_insertion, .ref a_queue, .int v_planned])), (a_market, .inr (2, [.int v_market_pitches, .ref a_market_rows, .ref a_market_rents, .ref a_market_roofs, .int v_market_traders, .ref a_market_trades, .ref a_market_fronts, .ref a_market_limits, .ref a_market_needy, .ref a_market_clashes, .int v_market_covers, .ref a_market_starts, .ref a_market_standing, .int v_market_coversBusy])), (a_market_rents, .inl (cI, 24, .inl v_market_rents))] sz) (zQiX D (zT cI cZ cM) res.1 res.2 (fun u : Unit => [(a_this, .inr (5, [.ref a_text, .int v_textLength, .int v_errorAt, .ref a_reader, .ref a_market, .ref a_draft, .ref a_history, .ref a_planner, .ref a_trialPlanner, .ref a_insertion, .ref a_queue, .int v_planned])), (a_market, .inr (2, [.int v_market_pitches, .ref a_market_rows, .ref a_market_rents, .ref a_market_roofs, .int v_market_traders, .ref a_market_trades, .ref a_market_fronts, .ref a_market_limits, .ref a_market_needy, .ref a_market_clashes, .int v_market_covers, .ref a_market_starts, .ref a_market_standing, .int v_market_coversBusy])), (a_market_rents, .inl (cI, 24, .inl v_market_rents))]) (va_A [(a_this, .inr (5, [.ref a_text, .int v_textLength, .int v_errorAt, .ref a_reader, .ref a_market, .ref a_draft, .ref a_history, .ref a_planner, .ref a_trialPlanner, .ref a_insertion, .ref a_queue, .int v_planned])), (a_market, .inr (2, [.int v_market_pitches, .ref a_market_rows, .ref a_market_rents, .ref a_market_roofs, .int v_market_traders, .ref a_market_trades, .ref a_market_fronts, .ref a_market_limits, .ref a_market_needy, .ref a_market_clashes, .int v_market_covers, .ref a_market_starts, .ref a_market_standing, .int v_market_coversBusy])), (a_market_rents, .inl (cI, 24, .inl v_market_rents))] sz)) (zXC D (zT cI cZ cM) res.1 (fun u : Unit => [(a_this, .inr (5, [.ref a_text, .int v_textLength, .int v_errorAt, .ref a_reader, .ref a_market, .ref a_draft, .ref a_history, .ref a_planner, .ref a_trialPlanner, .ref a_insertion, .ref a_queue, .int v_planned])), (a_market, .inr (2, [.int v_market_pitches, .ref a_market_rows, .ref a_market_rents, .ref a_market_roofs, .int v_market_traders, .ref a_market_trades, .ref a_market_fronts, .ref a_market_limits, .ref a_market_needy, .ref a_market_clashes, .int v_market_covers, .ref a_market_starts, .ref a_market_standing, .int v_market_coversBusy])), (a_market_rents, .inl (cI, 24, .inl v_market_rents))]) (va_A [(a_this, .inr (5, [.ref a_text, .int v_textLength, .int v_errorAt, .ref a_reader, .ref a_market, .ref a_draft, .ref a_history, .ref a_planner, .ref a_trialPlanner, .ref a_insertion, .ref a_queue, .int v_planned])), (a_market, .inr (2, [.int v_market_pitches, .ref a_market_rows, .ref a_market_rents, .ref a_market_roofs, .int v_market_traders, .ref a_market_trades, .ref a_market_fronts, .ref a_market_limits, .ref a_market_needy, .ref a_market_clashes, .int v_market_covers, .ref a_market_starts, .ref a_market_standing, .int v_market_coversBusy])), (a_market_rents, .inl (cI, 24, .inl v_market_rents))] sz)) 1 6 (va_A [(a_this, .inr (5, [.ref a_text, .int v_textLength, .int v_errorAt, .ref a_reader, .ref a_market, .ref a_draft, .ref a_history, .ref a_planner, .ref a_trialPlanner, .ref a_insertion, .ref a_queue, .int v_planned])), (a_market, .inr (2, [.int v_market_pitches, .ref a_market_rows, .ref a_market_rents, .ref a_market_roofs, .int v_market_traders, .ref a_market_trades, .ref a_market_fronts, .ref a_market_limits, .ref a_market_needy, .ref a_market_clashes, .int v_market_covers, .ref a_market_starts, .ref a_market_standing, .int v_market_coversBusy])), (a_market_rents, .inl (cI, 24, .inl v_market_rents))] sz) := by
  refine z_metX (cc := cX5_rent) (maxL := 2) (ret := (some .int)) hst (by decide) rfl (Nat.le_of_ble_eq_true rfl) ?_
  intro p e s m below meth c ls E hsz hw hl
  obtain ⟨⟨hx, hb, hml, hown, hts⟩, hr, hlocks, htab, hst, hTh, hSt⟩ := id E
  have hl : lv_has ls 2 [(0, .ref a_this), (1, .int x1)] := hl
  unfold f_X5_rent at hf
  refine lv_aload_n hx hb dX5_rent_0 rfl (lv_at hl 0 rfl) ?_
  refine lv_iload_n hx hb dX5_rent_1 rfl (lv_at hl 1 rfl) ?_
  obtain ⟨cd_1, h_2, hf⟩ := oB_elim hf
  refine z_callXVv (ws' := (fun u : Unit => [(a_this, .inr (5, [.ref a_text, .int v_textLength, .int v_errorAt, .ref a_reader, .ref a_market, .ref a_draft, .ref a_history, .ref a_planner, .ref a_trialPlanner, .ref a_insertion, .ref a_queue, .int v_planned])), (a_market, .inr (2, [.int v_market_pitches, .ref a_market_rows, .ref a_market_rents, .ref a_market_roofs, .int v_market_traders, .ref a_market_trades, .ref a_market_fronts, .ref a_market_limits, .ref a_market_needy, .ref a_market_clashes, .int v_market_covers, .ref a_market_starts, .ref a_market_standing, .int v_market_coversBusy])), (a_market_rents, .inl (cI, 24, .inl v_market_rents))])) (wr := [(a_market_rents, .inl (cI, 24, .inl v_market_rents))]) (As := [.int x1]) (rest := []) E hl hw (c_X5_requirePitch hst h_2) (cwV 1 hts (z_gV mw_447 mw_448 mw_449 mw_378 mw_450) rfl rfl rfl (by decide +kernel) ⟨(Nat.le_of_ble_eq_true rfl), (Nat.le_of_ble_eq_true rfl)⟩) [0, 1] [2] rfl (fun u => rfl) rfl (fun u => rfl) (fun u => rfl) rfl rfl (q0 := 0) rfl rfl rfl (Nat.le_of_ble_eq_true rfl) dX5_rent_2 ⟨(by simp only [rmX5_rent]; omega), (by simp only [rmX5_rent]; omega)⟩ (fun hcd u H locs q ce hw hce hcv hcl => ?_) (fun hcd u H locs hw => ?_)
  · have hf := oI_neg hcd hf
    have hw : zW D (zT cI cZ cM) _ s [(a_this, .inr (5, [.ref a_text, .int v_textLength, .int v_errorAt, .ref a_reader, .ref a_market, .ref a_draft, .ref a_history, .ref a_planner, .ref a_trialPlanner, .ref a_insertion, .ref a_queue, .int v_planned])), (a_market, .inr (2, [.int v_market_pitches, .ref a_market_rows, .ref a_market_rents, .ref a_market_roofs, .int v_market_traders, .ref a_market_trades, .ref a_market_fronts, .ref a_market_limits, .ref a_market_needy, .ref a_market_clashes, .int v_market_covers, .ref a_market_starts, .ref a_market_standing, .int v_market_coversBusy])), (a_market_rents, .inl (cI, 24, .inl v_market_rents))] H locs := hw
    cases hf
    exact z_outX E hw () rfl hcd hce hcv hcl (by omega) (by omega)
  have hf := oI_pos hcd hf
  have hw : zW D (zT cI cZ cM) _ s [(a_this, .inr (5, [.ref a_text, .int v_textLength, .int v_errorAt, .ref a_reader, .ref a_market, .ref a_draft, .ref a_history, .ref a_planner, .ref a_trialPlanner, .ref a_insertion, .ref a_queue, .int v_planned])), (a_market, .inr (2, [.int v_market_pitches, .ref a_market_rows, .ref a_market_rents, .ref a_market_roofs, .int v_market_traders, .ref a_market_trades, .ref a_market_fronts, .ref a_market_limits, .ref a_market_needy, .ref a_market_clashes, .int v_market_covers, .ref a_market_starts, .ref a_market_standing, .int v_market_coversBusy])), (a_market_rents, .inl (cI, 24, .inl v_market_rents))] H locs := hw
  refine lv_aload_n hx hb dX5_rent_5 rfl (lv_at hl 0 rfl) ?_
  refine z_get E.1 hw in_wsX50 0 rfl rfl 4 (z_lt rfl) mw_411 (v := .ref a_market) rfl dX5_rent_6 ?_
  refine z_get E.1 hw in_wsX20 1 rfl rfl 2 (z_lt rfl) mw_565 (v := .ref a_market_rents) rfl dX5_rent_9 ?_
  refine lv_iload_n hx hb dX5_rent_12 rfl (lv_at hl 1 rfl) ?_
  obtain ⟨h_3, hf⟩ := oA_elim hf
  refine z_iald E.1 hw 2 0 rfl rfl h_3 dX5_rent_13 ?_
  cases hf
  exact z_iretX E rfl hw () rfl (by omega) (by omega) dX5_rent_14
end
/-! X5_row -/
section
variable {p : Program} {l : Launch} {e : Env} {s : State} {m : MethodId} {args : Array Value} {below : List Frame} {meth : Method} {c : Code} {D : va_G} {A : Nat → Prop} {cI cZ cM : ClassId} {a_this a_text a_reader a_market a_draft a_history a_planner a_trialPlanner a_insertion a_queue a_market_rows a_market_rents a_market_roofs a_market_trades a_market_fronts a_market_limits a_market_needy a_market_clashes a_market_starts a_market_standing : Nat} {v_textLength : Int32} {v_errorAt : Int32} {v_planned : Int32} {v_market_traders : Int32} {v_market_covers : Int32} {v_market_coversBusy : Int32} {res : Nat × Int32}
def rmX5_row : Room := { frames := 7, cells := 1, slots := 6, locals := 111 }
abbrev zwX5_row : List Cond := Cond.code yX5_row cX5_row 2 (some .int) :: wsAll
set_option maxHeartbeats 4000000 in
set_option maxRecDepth 100000 in
theorem c_X5_row {l : Launch} {D : va_G} {cI cZ cM : ClassId} {a_this a_text a_reader a_market a_draft a_history a_planner a_trialPlanner a_insertion a_queue a_market_rows a_market_rents a_market_roofs a_market_trades a_market_fronts a_market_limits a_market_needy a_market_clashes a_market_starts a_market_standing : Nat} {v_textLength : Int32} {v_errorAt : Int32} {v_planned : Int32} {v_market_traders : Int32} {v_market_covers : Int32} {v_market_coversBusy : Int32} {res : Nat × Int32} {sz : Nat} {v_market_pitches : Int32} {v_market_rows : Nat → Int32} {x1 : Int32} (hst : l.stackTraces = false) (hf : f_X5_row v_market_pitches v_market_rows x1 = some res) : vx_Met l yX5_row zwX5_row rmX5_row (zPcX D (zT cI cZ cM) [.ref a_this, .int x1] [(a_this, .inr (5, [.ref a_text, .int v_textLength, .int v_errorAt, .ref a_reader, .ref a_market, .ref a_draft, .ref a_history, .ref a_planner, .ref a_trialPlanner, .ref a_insertion, .ref a_queue, .int v_planned])), (a_market, .inr (2, [.int v_market_pitches, .ref a_market_rows, .ref a_market_rents, .ref a_market_roofs, .int v_market_traders, .ref a_market_trades, .ref a_market_fronts, .ref a_market_limits, .ref a_market_needy, .ref a_market_clashes, .int v_market_covers, .ref a_market_starts, .ref a_market_standing, .int v_market_coversBusy])), (a_market_rows, .inl (cI, 24, .inl v_market_rows))] sz) (zQiX D (zT cI cZ cM) res.1 res.2 (fun u : Unit => [(a_this, .inr (5, [.ref a_text, .int v_textLength, .int v_errorAt, .ref a_reader, .ref a_market, .ref a_draft, .ref a_history, .ref a_planner, .ref a_trialPlanner, .ref a_insertion, .ref a_queue, .int v_planned])), (a_market, .inr (2, [.int v_market_pitches, .ref a_market_rows, .ref a_market_rents, .ref a_market_roofs, .int v_market_traders, .ref a_market_trades, .ref a_market_fronts, .ref a_market_limits, .ref a_market_needy, .ref a_market_clashes, .int v_market_covers, .ref a_market_starts, .ref a_market_standing, .int v_market_coversBusy])), (a_market_rows, .inl (cI, 24, .inl v_market_rows))]) (va_A [(a_this, .inr (5, [.ref a_text, .int v_textLength, .int v_errorAt, .ref a_reader, .ref a_market, .ref a_draft, .ref a_history, .ref a_planner, .ref a_trialPlanner, .ref a_insertion, .ref a_queue, .int v_planned])), (a_market, .inr (2, [.int v_market_pitches, .ref a_market_rows, .ref a_market_rents, .ref a_market_roofs, .int v_market_traders, .ref a_market_trades, .ref a_market_fronts, .ref a_market_limits, .ref a_market_needy, .ref a_market_clashes, .int v_market_covers, .ref a_market_starts, .ref a_market_standing, .int v_market_coversBusy])), (a_market_rows, .inl (cI, 24, .inl v_market_rows))] sz)) (zXC D (zT cI cZ cM) res.1 (fun u : Unit => [(a_this, .inr (5, [.ref a_text, .int v_textLength, .int v_errorAt, .ref a_reader, .ref a_market, .ref a_draft, .ref a_history, .ref a_planner, .ref a_trialPlanner, .ref a_insertion, .ref a_queue, .int v_planned])), (a_market, .inr (2, [.int v_market_pitches, .ref a_market_rows, .ref a_market_rents, .ref a_market_roofs, .int v_market_traders, .ref a_market_trades, .ref a_market_fronts, .ref a_market_limits, .ref a_market_needy, .ref a_market_clashes, .int v_market_covers, .ref a_market_starts, .ref a_market_standing, .int v_market_coversBusy])), (a_market_rows, .inl (cI, 24, .inl v_market_rows))]) (va_A [(a_this, .inr (5, [.ref a_text, .int v_textLength, .int v_errorAt, .ref a_reader, .ref a_market, .ref a_draft, .ref a_history, .ref a_planner, .ref a_trialPlanner, .ref a_insertion, .ref a_queue, .int v_planned])), (a_market, .inr (2, [.int v_market_pitches, .ref a_market_rows, .ref a_market_rents, .ref a_market_roofs, .int v_market_traders, .ref a_market_trades, .ref a_market_fronts, .ref a_market_limits, .ref a_market_needy, .ref a_market_clashes, .int v_market_covers, .ref a_market_starts, .ref a_market_standing, .int v_market_coversBusy])), (a_market_rows, .inl (cI, 24, .inl v_market_rows))] sz)) 1 6 (va_A [(a_this, .inr (5, [.ref a_text, .int v_textLength, .int v_errorAt, .ref a_reader, .ref a_market, .ref a_draft, .ref a_history, .ref a_planner, .ref a_trialPlanner, .ref a_insertion, .ref a_queue, .int v_planned])), (a_market, .inr (2, [.int v_market_pitches, .ref a_market_rows, .ref a_market_rents, .ref a_market_roofs, .int v_market_traders, .ref a_market_trades, .ref a_market_fronts, .ref a_market_limits, .ref a_market_needy, .ref a_market_clashes, .int v_market_covers, .ref a_market_starts, .ref a_market_standing, .int v_market_coversBusy])), (a_market_rows, .inl (cI, 24, .inl v_market_rows))] sz) := by
  refine z_metX (cc := cX5_row) (maxL := 2) (ret := (some .int)) hst (by decide) rfl (Nat.le_of_ble_eq_true rfl) ?_
  intro p e s m below meth c ls E hsz hw hl
  obtain ⟨⟨hx, hb, hml, hown, hts⟩, hr, hlocks, htab, hst, hTh, hSt⟩ := id E
  have hl : lv_has ls 2 [(0, .ref a_this), (1, .int x1)] := hl
  unfold f_X5_row at hf
  refine lv_aload_n hx hb dX5_row_0 rfl (lv_at hl 0 rfl) ?_
  refine lv_iload_n hx hb dX5_row_1 rfl (lv_at hl 1 rfl) ?_
  obtain ⟨cd_1, h_2, hf⟩ := oB_elim hf
  refine z_callXVv (ws' := (fun u : Unit => [(a_this, .inr (5, [.ref a_text, .int v_textLength, .int v_errorAt, .ref a_reader, .ref a_market, .ref a_draft, .ref a_history, .ref a_planner, .ref a_trialPlanner, .ref a_insertion, .ref a_queue, .int v_planned])), (a_market, .inr (2, [.int v_market_pitches, .ref a_market_rows, .ref a_market_rents, .ref a_market_roofs, .int v_market_traders, .ref a_market_trades, .ref a_market_fronts, .ref a_market_limits, .ref a_market_needy, .ref a_market_clashes, .int v_market_covers, .ref a_market_starts, .ref a_market_standing, .int v_market_coversBusy])), (a_market_rows, .inl (cI, 24, .inl v_market_rows))])) (wr := [(a_market_rows, .inl (cI, 24, .inl v_market_rows))]) (As := [.int x1]) (rest := []) E hl hw (c_X5_requirePitch hst h_2) (cwV 1 hts (z_gV mw_447 mw_448 mw_449 mw_378 mw_450) rfl rfl rfl (by decide +kernel) ⟨(Nat.le_of_ble_eq_true rfl), (Nat.le_of_ble_eq_true rfl)⟩) [0, 1] [2] rfl (fun u => rfl) rfl (fun u => rfl) (fun u => rfl) rfl rfl (q0 := 0) rfl rfl rfl (Nat.le_of_ble_eq_true rfl) dX5_row_2 ⟨(by simp only [rmX5_row]; omega), (by simp only [rmX5_row]; omega)⟩ (fun hcd u H locs q ce hw hce hcv hcl => ?_) (fun hcd u H locs hw => ?_)
  · have hf := oI_neg hcd hf
    have hw : zW D (zT cI cZ cM) _ s [(a_this, .inr (5, [.ref a_text, .int v_textLength, .int v_errorAt, .ref a_reader, .ref a_market, .ref a_draft, .ref a_history, .ref a_planner, .ref a_trialPlanner, .ref a_insertion, .ref a_queue, .int v_planned])), (a_market, .inr (2, [.int v_market_pitches, .ref a_market_rows, .ref a_market_rents, .ref a_market_roofs, .int v_market_traders, .ref a_market_trades, .ref a_market_fronts, .ref a_market_limits, .ref a_market_needy, .ref a_market_clashes, .int v_market_covers, .ref a_market_starts, .ref a_market_standing, .int v_market_coversBusy])), (a_market_rows, .inl (cI, 24, .inl v_market_rows))] H locs := hw
    cases hf
    exact z_outX E hw () rfl hcd hce hcv hcl (by omega) (by omega)
  have hf := oI_pos hcd hf
  have hw : zW D (zT cI cZ cM) _ s [(a_this, .inr (5, [.ref a_text, .int v_textLength, .int v_errorAt, .ref a_reader, .ref a_market, .ref a_draft, .ref a_history, .ref a_planner, .ref a_trialPlanner, .ref a_insertion, .ref a_queue, .int v_planned])), (a_market, .inr (2, [.int v_market_pitches, .ref a_market_rows, .ref a_market_rents, .ref a_market_roofs, .int v_market_traders, .ref a_market_trades, .ref a_market_fronts, .ref a_market_limits, .ref a_market_needy, .ref a_market_clashes, .int v_market_covers, .ref a_market_starts, .ref a_market_standing, .int v_market_coversBusy])), (a_market_rows, .inl (cI, 24, .inl v_market_rows))] H locs := hw
  refine lv_aload_n hx hb dX5_row_5 rfl (lv_at hl 0 rfl) ?_
  refine z_get E.1 hw in_wsX50 0 rfl rfl 4 (z_lt rfl) mw_411 (v := .ref a_market) rfl dX5_row_6 ?_
  refine z_get E.1 hw in_wsX20 1 rfl rfl 1 (z_lt rfl) mw_567 (v := .ref a_market_rows) rfl dX5_row_9 ?_
  refine lv_iload_n hx hb dX5_row_12 rfl (lv_at hl 1 rfl) ?_
  obtain ⟨h_3, hf⟩ := oA_elim hf
  refine z_iald E.1 hw 2 0 rfl rfl h_3 dX5_row_13 ?_
  cases hf
  exact z_iretX E rfl hw () rfl (by omega) (by omega) dX5_row_14
end
/-! X5_start -/
section
variable {p : Program} {l : Launch} {e : Env} {s : State} {m : MethodId} {args : Array Value} {below : List Frame} {meth : Method} {c : Code} {D : va_G} {A : Nat → Prop} {cI cZ cM : ClassId} {a_this a_text a_reader a_market a_draft a_history a_planner a_trialPlanner a_insertion a_queue a_market_rows a_market_rents a_market_roofs a_market_trades a_market_fronts a_market_limits a_market_needy a_market_clashes a_market_starts a_market_standing : Nat} {v_textLength : Int32} {v_errorAt : Int32} {v_planned : Int32} {v_market_pitches : Int32} {v_market_covers : Int32} {v_market_coversBusy : Int32} {res : Nat × Int32}
def rmX5_start : Room := { frames := 7, cells := 1, slots := 6, locals := 111 }
abbrev zwX5_start : List Cond := Cond.code yX5_start cX5_start 2 (some .int) :: wsAll
set_option maxHeartbeats 4000000 in
set_option maxRecDepth 100000 in
theorem c_X5_start {l : Launch} {D : va_G} {cI cZ cM : ClassId} {a_this a_text a_reader a_market a_draft a_history a_planner a_trialPlanner a_insertion a_queue a_market_rows a_market_rents a_market_roofs a_market_trades a_market_fronts a_market_limits a_market_needy a_market_clashes a_market_starts a_market_standing : Nat} {v_textLength : Int32} {v_errorAt : Int32} {v_planned : Int32} {v_market_pitches : Int32} {v_market_covers : Int32} {v_market_coversBusy : Int32} {res : Nat × Int32} {sz : Nat} {v_market_traders : Int32} {v_market_starts : Nat → Int32} {x1 : Int32} (hst : l.stackTraces = false) (hf : f_X5_start v_market_traders v_market_starts x1 = some res) : vx_Met l yX5_start zwX5_start rmX5_start (zPcX D (zT cI cZ cM) [.ref a_this, .int x1] [(a_this, .inr (5, [.ref a_text, .int v_textLength, .int v_errorAt, .ref a_reader, .ref a_market, .ref a_draft, .ref a_history, .ref a_planner, .ref a_trialPlanner, .ref a_insertion, .ref a_queue, .int v_planned])), (a_market, .inr (2, [.int v_market_pitches, .ref a_market_rows, .ref a_market_rents, .ref a_market_roofs, .int v_market_traders, .ref a_market_trades, .ref a_market_fronts, .ref a_market_limits, .ref a_market_needy, .ref a_market_clashes, .int v_market_covers, .ref a_market_starts, .ref a_market_standing, .int v_market_coversBusy])), (a_market_starts, .inl (cI, 8, .inl v_market_starts))] sz) (zQiX D (zT cI cZ cM) res.1 res.2 (fun u : Unit => [(a_this, .inr (5, [.ref a_text, .int v_textLength, .int v_errorAt, .ref a_reader, .ref a_market, .ref a_draft, .ref a_history, .ref a_planner, .ref a_trialPlanner, .ref a_insertion, .ref a_queue, .int v_planned])), (a_market, .inr (2, [.int v_market_pitches, .ref a_market_rows, .ref a_market_rents, .ref a_market_roofs, .int v_market_traders, .ref a_market_trades, .ref a_market_fronts, .ref a_market_limits, .ref a_market_needy, .ref a_market_clashes, .int v_market_covers, .ref a_market_starts, .ref a_market_standing, .int v_market_coversBusy])), (a_market_starts, .inl (cI, 8, .inl v_market_starts))]) (va_A [(a_this, .inr (5, [.ref a_text, .int v_textLength, .int v_errorAt, .ref a_reader, .ref a_market, .ref a_draft, .ref a_history, .ref a_planner, .ref a_trialPlanner, .ref a_insertion, .ref a_queue, .int v_planned])), (a_market, .inr (2, [.int v_market_pitches, .ref a_market_rows, .ref a_market_rents, .ref a_market_roofs, .int v_market_traders, .ref a_market_trades, .ref a_market_fronts, .ref a_market_limits, .ref a_market_needy, .ref a_market_clashes, .int v_market_covers, .ref a_market_starts, .ref a_market_standing, .int v_market_coversBusy])), (a_market_starts, .inl (cI, 8, .inl v_market_starts))] sz)) (zXC D (zT cI cZ cM) res.1 (fun u : Unit => [(a_this, .inr (5, [.ref a_text, .int v_textLength, .int v_errorAt, .ref a_reader, .ref a_market, .ref a_draft, .ref a_history, .ref a_planner, .ref a_trialPlanner, .ref a_insertion, .ref a_queue, .int v_planned])), (a_market, .inr (2, [.int v_market_pitches, .ref a_market_rows, .ref a_market_rents, .ref a_market_roofs, .int v_market_traders, .ref a_market_trades, .ref a_market_fronts, .ref a_market_limits, .ref a_market_needy, .ref a_market_clashes, .int v_market_covers, .ref a_market_starts, .ref a_market_standing, .int v_market_coversBusy])), (a_market_starts, .inl (cI, 8, .inl v_market_starts))]) (va_A [(a_this, .inr (5, [.ref a_text, .int v_textLength, .int v_errorAt, .ref a_reader, .ref a_market, .ref a_draft, .ref a_history, .ref a_planner, .ref a_trialPlanner, .ref a_insertion, .ref a_queue, .int v_planned])), (a_market, .inr (2, [.int v_market_pitches, .ref a_market_rows, .ref a_market_rents, .ref a_market_roofs, .int v_market_traders, .ref a_market_trades, .ref a_market_fronts, .ref a_market_limits, .ref a_market_needy, .ref a_market_clashes, .int v_market_covers, .ref a_market_starts, .ref a_market_standing, .int v_market_coversBusy])), (a_market_starts, .inl (cI, 8, .inl v_market_starts))] sz)) 1 6 (va_A [(a_this, .inr (5, [.ref a_text, .int v_textLength, .int v_errorAt, .ref a_reader, .ref a_market, .ref a_draft, .ref a_history, .ref a_planner, .ref a_trialPlanner, .ref a_insertion, .ref a_queue, .int v_planned])), (a_market, .inr (2, [.int v_market_pitches, .ref a_market_rows, .ref a_market_rents, .ref a_market_roofs, .int v_market_traders, .ref a_market_trades, .ref a_market_fronts, .ref a_market_limits, .ref a_market_needy, .ref a_market_clashes, .int v_market_covers, .ref a_market_starts, .ref a_market_standing, .int v_market_coversBusy])), (a_market_starts, .inl (cI, 8, .inl v_market_starts))] sz) := by
  refine z_metX (cc := cX5_start) (maxL := 2) (ret := (some .int)) hst (by decide) rfl (Nat.le_of_ble_eq_true rfl) ?_
  intro p e s m below meth c ls E hsz hw hl
  obtain ⟨⟨hx, hb, hml, hown, hts⟩, hr, hlocks, htab, hst, hTh, hSt⟩ := id E
  have hl : lv_has ls 2 [(0, .ref a_this), (1, .int x1)] := hl
  unfold f_X5_start at hf
  refine lv_aload_n hx hb dX5_start_0 rfl (lv_at hl 0 rfl) ?_
  refine lv_iload_n hx hb dX5_start_1 rfl (lv_at hl 1 rfl) ?_
  obtain ⟨cd_1, h_2, hf⟩ := oB_elim hf
  refine z_callXVv (ws' := (fun u : Unit => [(a_this, .inr (5, [.ref a_text, .int v_textLength, .int v_errorAt, .ref a_reader, .ref a_market, .ref a_draft, .ref a_history, .ref a_planner, .ref a_trialPlanner, .ref a_insertion, .ref a_queue, .int v_planned])), (a_market, .inr (2, [.int v_market_pitches, .ref a_market_rows, .ref a_market_rents, .ref a_market_roofs, .int v_market_traders, .ref a_market_trades, .ref a_market_fronts, .ref a_market_limits, .ref a_market_needy, .ref a_market_clashes, .int v_market_covers, .ref a_market_starts, .ref a_market_standing, .int v_market_coversBusy])), (a_market_starts, .inl (cI, 8, .inl v_market_starts))])) (wr := [(a_market_starts, .inl (cI, 8, .inl v_market_starts))]) (As := [.int x1]) (rest := []) E hl hw (c_X5_requireTrader hst h_2) (cwV 1 hts (z_gV mw_478 mw_479 mw_480 mw_378 mw_481) rfl rfl rfl (by decide +kernel) ⟨(Nat.le_of_ble_eq_true rfl), (Nat.le_of_ble_eq_true rfl)⟩) [0, 1] [2] rfl (fun u => rfl) rfl (fun u => rfl) (fun u => rfl) rfl rfl (q0 := 0) rfl rfl rfl (Nat.le_of_ble_eq_true rfl) dX5_start_2 ⟨(by simp only [rmX5_start]; omega), (by simp only [rmX5_start]; omega)⟩ (fun hcd u H locs q ce hw hce hcv hcl => ?_) (fun hcd u H locs hw => ?_)
  · have hf := oI_neg hcd hf
    have hw : zW D (zT cI cZ cM) _ s [(a_this, .inr (5, [.ref a_text, .int v_textLength, .int v_errorAt, .ref a_reader, .ref a_market, .ref a_draft, .ref a_history, .ref a_planner, .ref a_trialPlanner, .ref a_insertion, .ref a_queue, .int v_planned])), (a_market, .inr (2, [.int v_market_pitches, .ref a_market_rows, .ref a_market_rents, .ref a_market_roofs, .int v_market_traders, .ref a_market_trades, .ref a_market_fronts, .ref a_market_limits, .ref a_market_needy, .ref a_market_clashes, .int v_market_covers, .ref a_market_starts, .ref a_market_standing, .int v_market_coversBusy])), (a_market_starts, .inl (cI, 8, .inl v_market_starts))] H locs := hw
    cases hf
    exact z_outX E hw () rfl hcd hce hcv hcl (by omega) (by omega)
  have hf := oI_pos hcd hf
  have hw : zW D (zT cI cZ cM) _ s [(a_this, .inr (5, [.ref a_text, .int v_textLength, .int v_errorAt, .ref a_reader, .ref a_market, .ref a_draft, .ref a_history, .ref a_planner, .ref a_trialPlanner, .ref a_insertion, .ref a_queue, .int v_planned])), (a_market, .inr (2, [.int v_market_pitches, .ref a_market_rows, .ref a_market_rents, .ref a_market_roofs, .int v_market_traders, .ref a_market_trades, .ref a_market_fronts, .ref a_market_limits, .ref a_market_needy, .ref a_market_clashes, .int v_market_covers, .ref a_market_starts, .ref a_market_standing, .int v_market_coversBusy])), (a_market_starts, .inl (cI, 8, .inl v_market_starts))] H locs := hw
  refine lv_aload_n hx hb dX5_start_5 rfl (lv_at hl 0 rfl) ?_
  refine z_get E.1 hw in_wsX50 0 rfl rfl 4 (z_lt rfl) mw_411 (v := .ref a_market) rfl dX5_start_6 ?_
  refine z_get E.1 hw in_wsX20 1 rfl rfl 11 (z_lt rfl) mw_489 (v := .ref a_market_starts) rfl dX5_start_9 ?_
  refine lv_iload_n hx hb dX5_start_12 rfl (lv_at hl 1 rfl) ?_
  obtain ⟨h_3, hf⟩ := oA_elim hf
  refine z_iald E.1 hw 2 0 rfl rfl h_3 dX5_start_13 ?_
  cases hf
  exact z_iretX E rfl hw () rfl (by omega) (by omega) dX5_start_14
end
/-! X5_trade -/
section
variable {p : Program} {l : Launch} {e : Env} {s : State} {m : MethodId} {args : Array Value} {below : List Frame} {meth : Method} {c : Code} {D : va_G} {A : Nat → Prop} {cI cZ cM : ClassId} {a_this a_text a_reader a_market a_draft a_history a_planner a_trialPlanner a_insertion a_queue a_market_rows a_market_rents a_market_roofs a_market_trades a_market_fronts a_market_limits a_market_needy a_market_clashes a_market_starts a_market_standing : Nat} {v_textLength : Int32} {v_errorAt : Int32} {v_planned : Int32} {v_market_pitches : Int32} {v_market_covers : Int32} {v_market_coversBusy : Int32} {res : Nat × Int32}
def rmX5_trade : Room := { frames := 7, cells := 1, slots := 6, locals := 111 }
abbrev zwX5_trade : List Cond := Cond.code yX5_trade cX5_trade 2 (some .int) :: wsAll
set_option maxHeartbeats 4000000 in
set_option maxRecDepth 100000 in
theorem c_X5_trade {l : Launch} {D : va_G} {cI cZ cM : ClassId} {a_this a_text a_reader a_market a_draft a_history a_planner a_trialPlanner a_insertion a_queue a_market_rows a_market_rents a_market_roofs a_market_trades a_market_fronts a_market_limits a_market_needy a_market_clashes a_market_starts a_market_standing : Nat} {v_textLength : Int32} {v_errorAt : Int32} {v_planned : Int32} {v_market_pitches : Int32} {v_market_covers : Int32} {v_market_coversBusy : Int32} {res : Nat × Int32} {sz : Nat} {v_market_traders : Int32} {v_market_trades : Nat → Int32} {x1 : Int32} (hst : l.stackTraces = false) (hf : f_X5_trade v_market_traders v_market_trades x1 = some res) : vx_Met l yX5_trade zwX5_trade rmX5_trade (zPcX D (zT cI cZ cM) [.ref a_this, .int x1] [(a_this, .inr (5, [.ref a_text, .int v_textLength, .int v_errorAt, .ref a_reader, .ref a_market, .ref a_draft, .ref a_history, .ref a_planner, .ref a_trialPlanner, .ref a_insertion, .ref a_queue, .int v_planned])), (a_market, .inr (2, [.int v_market_pitches, .ref a_market_rows, .ref a_market_rents, .ref a_market_roofs, .int v_market_traders, .ref a_market_trades, .ref a_market_fronts, .ref a_market_limits, .ref a_market_needy, .ref a_market_clashes, .int v_market_covers, .ref a_market_starts, .ref a_market_standing, .int v_market_coversBusy])), (a_market_trades, .inl (cI, 8, .inl v_market_trades))] sz) (zQiX D (zT cI cZ cM) res.1 res.2 (fun u : Unit => [(a_this, .inr (5, [.ref a_text, .int v_textLength, .int v_errorAt, .ref a_reader, .ref a_market, .ref a_draft, .ref a_history, .ref a_planner, .ref a_trialPlanner, .ref a_insertion, .ref a_queue, .int v_planned])), (a_market, .inr (2, [.int v_market_pitches, .ref a_market_rows, .ref a_market_rents, .ref a_market_roofs, .int v_market_traders, .ref a_market_trades, .ref a_market_fronts, .ref a_market_limits, .ref a_market_needy, .ref a_market_clashes, .int v_market_covers, .ref a_market_starts, .ref a_market_standing, .int v_market_coversBusy])), (a_market_trades, .inl (cI, 8, .inl v_market_trades))]) (va_A [(a_this, .inr (5, [.ref a_text, .int v_textLength, .int v_errorAt, .ref a_reader, .ref a_market, .ref a_draft, .ref a_history, .ref a_planner, .ref a_trialPlanner, .ref a_insertion, .ref a_queue, .int v_planned])), (a_market, .inr (2, [.int v_market_pitches, .ref a_market_rows, .ref a_market_rents, .ref a_market_roofs, .int v_market_traders, .ref a_market_trades, .ref a_market_fronts, .ref a_market_limits, .ref a_market_needy, .ref a_market_clashes, .int v_market_covers, .ref a_market_starts, .ref a_market_standing, .int v_market_coversBusy])), (a_market_trades, .inl (cI, 8, .inl v_market_trades))] sz)) (zXC D (zT cI cZ cM) res.1 (fun u : Unit => [(a_this, .inr (5, [.ref a_text, .int v_textLength, .int v_errorAt, .ref a_reader, .ref a_market, .ref a_draft, .ref a_history, .ref a_planner, .ref a_trialPlanner, .ref a_insertion, .ref a_queue, .int v_planned])), (a_market, .inr (2, [.int v_market_pitches, .ref a_market_rows, .ref a_market_rents, .ref a_market_roofs, .int v_market_traders, .ref a_market_trades, .ref a_market_fronts, .ref a_market_limits, .ref a_market_needy, .ref a_market_clashes, .int v_market_covers, .ref a_market_starts, .ref a_market_standing, .int v_market_coversBusy])), (a_market_trades, .inl (cI, 8, .inl v_market_trades))]) (va_A [(a_this, .inr (5, [.ref a_text, .int v_textLength, .int v_errorAt, .ref a_reader, .ref a_market, .ref a_draft, .ref a_history, .ref a_planner, .ref a_trialPlanner, .ref a_insertion, .ref a_queue, .int v_planned])), (a_market, .inr (2, [.int v_market_pitches, .ref a_market_rows, .ref a_market_rents, .ref a_market_roofs, .int v_market_traders, .ref a_market_trades, .ref a_market_fronts, .ref a_market_limits, .ref a_market_needy, .ref a_market_clashes, .int v_market_covers, .ref a_market_starts, .ref a_market_standing, .int v_market_coversBusy])), (a_market_trades, .inl (cI, 8, .inl v_market_trades))] sz)) 1 6 (va_A [(a_this, .inr (5, [.ref a_text, .int v_textLength, .int v_errorAt, .ref a_reader, .ref a_market, .ref a_draft, .ref a_history, .ref a_planner, .ref a_trialPlanner, .ref a_insertion, .ref a_queue, .int v_planned])), (a_market, .inr (2, [.int v_market_pitches, .ref a_market_rows, .ref a_market_rents, .ref a_market_roofs, .int v_market_traders, .ref a_market_trades, .ref a_market_fronts, .ref a_market_limits, .ref a_market_needy, .ref a_market_clashes, .int v_market_covers, .ref a_market_starts, .ref a_market_standing, .int v_market_coversBusy])), (a_market_trades, .inl (cI, 8, .inl v_market_trades))] sz) := by
  refine z_metX (cc := cX5_trade) (maxL := 2) (ret := (some .int)) hst (by decide) rfl (Nat.le_of_ble_eq_true rfl) ?_
  intro p e s m below meth c ls E hsz hw hl
  obtain ⟨⟨hx, hb, hml, hown, hts⟩, hr, hlocks, htab, hst, hTh, hSt⟩ := id E
  have hl : lv_has ls 2 [(0, .ref a_this), (1, .int x1)] := hl
  unfold f_X5_trade at hf
  refine lv_aload_n hx hb dX5_trade_0 rfl (lv_at hl 0 rfl) ?_
  refine lv_iload_n hx hb dX5_trade_1 rfl (lv_at hl 1 rfl) ?_
  obtain ⟨cd_1, h_2, hf⟩ := oB_elim hf
  refine z_callXVv (ws' := (fun u : Unit => [(a_this, .inr (5, [.ref a_text, .int v_textLength, .int v_errorAt, .ref a_reader, .ref a_market, .ref a_draft, .ref a_history, .ref a_planner, .ref a_trialPlanner, .ref a_insertion, .ref a_queue, .int v_planned])), (a_market, .inr (2, [.int v_market_pitches, .ref a_market_rows, .ref a_market_rents, .ref a_market_roofs, .int v_market_traders, .ref a_market_trades, .ref a_market_fronts, .ref a_market_limits, .ref a_market_needy, .ref a_market_clashes, .int v_market_covers, .ref a_market_starts, .ref a_market_standing, .int v_market_coversBusy])), (a_market_trades, .inl (cI, 8, .inl v_market_trades))])) (wr := [(a_market_trades, .inl (cI, 8, .inl v_market_trades))]) (As := [.int x1]) (rest := []) E hl hw (c_X5_requireTrader hst h_2) (cwV 1 hts (z_gV mw_478 mw_479 mw_480 mw_378 mw_481) rfl rfl rfl (by decide +kernel) ⟨(Nat.le_of_ble_eq_true rfl), (Nat.le_of_ble_eq_true rfl)⟩) [0, 1] [2] rfl (fun u => rfl) rfl (fun u => rfl) (fun u => rfl) rfl rfl (q0 := 0) rfl rfl rfl (Nat.le_of_ble_eq_true rfl) dX5_trade_2 ⟨(by simp only [rmX5_trade]; omega), (by simp only [rmX5_trade]; omega)⟩ (fun hcd u H locs q ce hw hce hcv hcl => ?_) (fun hcd u H locs hw => ?_)
  · have hf := oI_neg hcd hf
    have hw : zW D (zT cI cZ cM) _ s [(a_this, .inr (5, [.ref a_text, .int v_textLength, .int v_errorAt, .ref a_reader, .ref a_market, .ref a_draft, .ref a_history, .ref a_planner, .ref a_trialPlanner, .ref a_insertion, .ref a_queue, .int v_planned])), (a_market, .inr (2, [.int v_market_pitches, .ref a_market_rows, .ref a_market_rents, .ref a_market_roofs, .int v_market_traders, .ref a_market_trades, .ref a_market_fronts, .ref a_market_limits, .ref a_market_needy, .ref a_market_clashes, .int v_market_covers, .ref a_market_starts, .ref a_market_standing, .int v_market_coversBusy])), (a_market_trades, .inl (cI, 8, .inl v_market_trades))] H locs := hw
    cases hf
    exact z_outX E hw () rfl hcd hce hcv hcl (by omega) (by omega)
  have hf := oI_pos hcd hf
  have hw : zW D (zT cI cZ cM) _ s [(a_this, .inr (5, [.ref a_text, .int v_textLength, .int v_errorAt, .ref a_reader, .ref a_market, .ref a_draft, .ref a_history, .ref a_planner, .ref a_trialPlanner, .ref a_insertion, .ref a_queue, .int v_planned])), (a_market, .inr (2, [.int v_market_pitches, .ref a_market_rows, .ref a_market_rents, .ref a_market_roofs, .int v_market_traders, .ref a_market_trades, .ref a_market_fronts, .ref a_market_limits, .ref a_market_needy, .ref a_market_clashes, .int v_market_covers, .ref a_market_starts, .ref a_market_standing, .int v_market_coversBusy])), (a_market_trades, .inl (cI, 8, .inl v_market_trades))] H locs := hw
  refine lv_aload_n hx hb dX5_trade_5 rfl (lv_at hl 0 rfl) ?_
  refine z_get E.1 hw in_wsX50 0 rfl rfl 4 (z_lt rfl) mw_411 (v := .ref a_market) rfl dX5_trade_6 ?_
  refine z_get E.1 hw in_wsX20 1 rfl rfl 5 (z_lt rfl) mw_582 (v := .ref a_market_trades) rfl dX5_trade_9 ?_
  refine lv_iload_n hx hb dX5_trade_12 rfl (lv_at hl 1 rfl) ?_
  obtain ⟨h_3, hf⟩ := oA_elim hf
  refine z_iald E.1 hw 2 0 rfl rfl h_3 dX5_trade_13 ?_
  cases hf
  exact z_iretX E rfl hw () rfl (by omega) (by omega) dX5_trade_14
end
/-! X5_traderAt -/
section
variable {p : Program} {l : Launch} {e : Env} {s : State} {m : MethodId} {args : Array Value} {below : List Frame} {meth : Method} {c : Code} {D : va_G} {A : Nat → Prop} {cI cZ cM : ClassId} {a_this a_text a_reader a_market a_draft a_history a_planner a_trialPlanner a_insertion a_queue a_market_rows a_market_rents a_market_roofs a_market_trades a_market_fronts a_market_limits a_market_needy a_market_clashes a_market_starts a_market_standing : Nat} {v_textLength : Int32} {v_errorAt : Int32} {v_planned : Int32} {v_market_traders : Int32} {v_market_covers : Int32} {v_market_coversBusy : Int32} {res : Nat × Int32}
def rmX5_traderAt : Room := { frames := 7, cells := 1, slots := 6, locals := 111 }
abbrev zwX5_traderAt : List Cond := Cond.code yX5_traderAt cX5_traderAt 2 (some .int) :: wsAll
set_option maxHeartbeats 4000000 in
set_option maxRecDepth 100000 in
theorem c_X5_traderAt {l : Launch} {D : va_G} {cI cZ cM : ClassId} {a_this a_text a_reader a_market a_draft a_history a_planner a_trialPlanner a_insertion a_queue a_market_rows a_market_rents a_market_roofs a_market_trades a_market_fronts a_market_limits a_market_needy a_market_clashes a_market_starts a_market_standing : Nat} {v_textLength : Int32} {v_errorAt : Int32} {v_planned : Int32} {v_market_traders : Int32} {v_market_covers : Int32} {v_market_coversBusy : Int32} {res : Nat × Int32} {sz : Nat} {v_market_pitches : Int32} {v_market_standing : Nat → Int32} {x1 : Int32} (hst : l.stackTraces = false) (hf : f_X5_traderAt v_market_pitches v_market_standing x1 = some res) : vx_Met l yX5_traderAt zwX5_traderAt rmX5_traderAt (zPcX D (zT cI cZ cM) [.ref a_this, .int x1] [(a_this, .inr (5, [.ref a_text, .int v_textLength, .int v_errorAt, .ref a_reader, .ref a_market, .ref a_draft, .ref a_history, .ref a_planner, .ref a_trialPlanner, .ref a_insertion, .ref a_queue, .int v_planned])), (a_market, .inr (2, [.int v_market_pitches, .ref a_market_rows, .ref a_market_rents, .ref a_market_roofs, .int v_market_traders, .ref a_market_trades, .ref a_market_fronts, .ref a_market_limits, .ref a_market_needy, .ref a_market_clashes, .int v_market_covers, .ref a_market_starts, .ref a_market_standing, .int v_market_coversBusy])), (a_market_standing, .inl (cI, 24, .inl v_market_standing))] sz) (zQiX D (zT cI cZ cM) res.1 res.2 (fun u : Unit => [(a_this, .inr (5, [.ref a_text, .int v_textLength, .int v_errorAt, .ref a_reader, .ref a_market, .ref a_draft, .ref a_history, .ref a_planner, .ref a_trialPlanner, .ref a_insertion, .ref a_queue, .int v_planned])), (a_market, .inr (2, [.int v_market_pitches, .ref a_market_rows, .ref a_market_rents, .ref a_market_roofs, .int v_market_traders, .ref a_market_trades, .ref a_market_fronts, .ref a_market_limits, .ref a_market_needy, .ref a_market_clashes, .int v_market_covers, .ref a_market_starts, .ref a_market_standing, .int v_market_coversBusy])), (a_market_standing, .inl (cI, 24, .inl v_market_standing))]) (va_A [(a_this, .inr (5, [.ref a_text, .int v_textLength, .int v_errorAt, .ref a_reader, .ref a_market, .ref a_draft, .ref a_history, .ref a_planner, .ref a_trialPlanner, .ref a_insertion, .ref a_queue, .int v_planned])), (a_market, .inr (2, [.int v_market_pitches, .ref a_market_rows, .ref a_market_rents, .ref a_market_roofs, .int v_market_traders, .ref a_market_trades, .ref a_market_fronts, .ref a_market_limits, .ref a_market_needy, .ref a_market_clashes, .int v_market_covers, .ref a_market_starts, .ref a_market_standing, .int v_market_coversBusy])), (a_market_standing, .inl (cI, 24, .inl v_market_standing))] sz)) (zXC D (zT cI cZ cM) res.1 (fun u : Unit => [(a_this, .inr (5, [.ref a_text, .int v_textLength, .int v_errorAt, .ref a_reader, .ref a_market, .ref a_draft, .ref a_history, .ref a_planner, .ref a_trialPlanner, .ref a_insertion, .ref a_queue, .int v_planned])), (a_market, .inr (2, [.int v_market_pitches, .ref a_market_rows, .ref a_market_rents, .ref a_market_roofs, .int v_market_traders, .ref a_market_trades, .ref a_market_fronts, .ref a_market_limits, .ref a_market_needy, .ref a_market_clashes, .int v_market_covers, .ref a_market_starts, .ref a_market_standing, .int v_market_coversBusy])), (a_market_standing, .inl (cI, 24, .inl v_market_standing))]) (va_A [(a_this, .inr (5, [.ref a_text, .int v_textLength, .int v_errorAt, .ref a_reader, .ref a_market, .ref a_draft, .ref a_history, .ref a_planner, .ref a_trialPlanner, .ref a_insertion, .ref a_queue, .int v_planned])), (a_market, .inr (2, [.int v_market_pitches, .ref a_market_rows, .ref a_market_rents, .ref a_market_roofs, .int v_market_traders, .ref a_market_trades, .ref a_market_fronts, .ref a_market_limits, .ref a_market_needy, .ref a_market_clashes, .int v_market_covers, .ref a_market_starts, .ref a_market_standing, .int v_market_coversBusy])), (a_market_standing, .inl (cI, 24, .inl v_market_standing))] sz)) 1 6 (va_A [(a_this, .inr (5, [.ref a_text, .int v_textLength, .int v_errorAt, .ref a_reader, .ref a_market, .ref a_draft, .ref a_history, .ref a_planner, .ref a_trialPlanner, .ref a_insertion, .ref a_queue, .int v_planned])), (a_market, .inr (2, [.int v_market_pitches, .ref a_market_rows, .ref a_market_rents, .ref a_market_roofs, .int v_market_traders, .ref a_market_trades, .ref a_market_fronts, .ref a_market_limits, .ref a_market_needy, .ref a_market_clashes, .int v_market_covers, .ref a_market_starts, .ref a_market_standing, .int v_market_coversBusy])), (a_market_standing, .inl (cI, 24, .inl v_market_standing))] sz) := by
  refine z_metX (cc := cX5_traderAt) (maxL := 2) (ret := (some .int)) hst (by decide) rfl (Nat.le_of_ble_eq_true rfl) ?_
  intro p e s m below meth c ls E hsz hw hl
  obtain ⟨⟨hx, hb, hml, hown, hts⟩, hr, hlocks, htab, hst, hTh, hSt⟩ := id E
  have hl : lv_has ls 2 [(0, .ref a_this), (1, .int x1)] := hl
  unfold f_X5_traderAt at hf
  refine lv_aload_n hx hb dX5_traderAt_0 rfl (lv_at hl 0 rfl) ?_
  refine lv_iload_n hx hb dX5_traderAt_1 rfl (lv_at hl 1 rfl) ?_
  obtain ⟨cd_1, h_2, hf⟩ := oB_elim hf
  refine z_callXVv (ws' := (fun u : Unit => [(a_this, .inr (5, [.ref a_text, .int v_textLength, .int v_errorAt, .ref a_reader, .ref a_market, .ref a_draft, .ref a_history, .ref a_planner, .ref a_trialPlanner, .ref a_insertion, .ref a_queue, .int v_planned])), (a_market, .inr (2, [.int v_market_pitches, .ref a_market_rows, .ref a_market_rents, .ref a_market_roofs, .int v_market_traders, .ref a_market_trades, .ref a_market_fronts, .ref a_market_limits, .ref a_market_needy, .ref a_market_clashes, .int v_market_covers, .ref a_market_starts, .ref a_market_standing, .int v_market_coversBusy])), (a_market_standing, .inl (cI, 24, .inl v_market_standing))])) (wr := [(a_market_standing, .inl (cI, 24, .inl v_market_standing))]) (As := [.int x1]) (rest := []) E hl hw (c_X5_requirePitch hst h_2) (cwV 1 hts (z_gV mw_447 mw_448 mw_449 mw_378 mw_450) rfl rfl rfl (by decide +kernel) ⟨(Nat.le_of_ble_eq_true rfl), (Nat.le_of_ble_eq_true rfl)⟩) [0, 1] [2] rfl (fun u => rfl) rfl (fun u => rfl) (fun u => rfl) rfl rfl (q0 := 0) rfl rfl rfl (Nat.le_of_ble_eq_true rfl) dX5_traderAt_2 ⟨(by simp only [rmX5_traderAt]; omega), (by simp only [rmX5_traderAt]; omega)⟩ (fun hcd u H locs q ce hw hce hcv hcl => ?_) (fun hcd u H locs hw => ?_)
  · have hf := oI_neg hcd hf
    have hw : zW D (zT cI cZ cM) _ s [(a_this, .inr (5, [.ref a_text, .int v_textLength, .int v_errorAt, .ref a_reader, .ref a_market, .ref a_draft, .ref a_history, .ref a_planner, .ref a_trialPlanner, .ref a_insertion, .ref a_queue, .int v_planned])), (a_market, .inr (2, [.int v_market_pitches, .ref a_market_rows, .ref a_market_rents, .ref a_market_roofs, .int v_market_traders, .ref a_market_trades, .ref a_market_fronts, .ref a_market_limits, .ref a_market_needy, .ref a_market_clashes, .int v_market_covers, .ref a_market_starts, .ref a_market_standing, .int v_market_coversBusy])), (a_market_standing, .inl (cI, 24, .inl v_market_standing))] H locs := hw
    cases hf
    exact z_outX E hw () rfl hcd hce hcv hcl (by omega) (by omega)
  have hf := oI_pos hcd hf
  have hw : zW D (zT cI cZ cM) _ s [(a_this, .inr (5, [.ref a_text, .int v_textLength, .int v_errorAt, .ref a_reader, .ref a_market, .ref a_draft, .ref a_history, .ref a_planner, .ref a_trialPlanner, .ref a_insertion, .ref a_queue, .int v_planned])), (a_market, .inr (2, [.int v_market_pitches, .ref a_market_rows, .ref a_market_rents, .ref a_market_roofs, .int v_market_traders, .ref a_market_trades, .ref a_market_fronts, .ref a_market_limits, .ref a_market_needy, .ref a_market_clashes, .int v_market_covers, .ref a_market_starts, .ref a_market_standing, .int v_market_coversBusy])), (a_market_standing, .inl (cI, 24, .inl v_market_standing))] H locs := hw
  refine lv_aload_n hx hb dX5_traderAt_5 rfl (lv_at hl 0 rfl) ?_
  refine z_get E.1 hw in_wsX50 0 rfl rfl 4 (z_lt rfl) mw_411 (v := .ref a_market) rfl dX5_traderAt_6 ?_
  refine z_get E.1 hw in_wsX20 1 rfl rfl 12 (z_lt rfl) mw_574 (v := .ref a_market_standing) rfl dX5_traderAt_9 ?_
  refine lv_iload_n hx hb dX5_traderAt_12 rfl (lv_at hl 1 rfl) ?_
  obtain ⟨h_3, hf⟩ := oA_elim hf
  refine z_iald E.1 hw 2 0 rfl rfl h_3 dX5_traderAt_13 ?_
  cases hf
  exact z_iretX E rfl hw () rfl (by omega) (by omega) dX5_traderAt_14
end
/-! X5_traderCount -/
section
variable {p : Program} {l : Launch} {e : Env} {s : State} {m : MethodId} {args : Array Value} {below : List Frame} {meth : Method} {c : Code} {D : va_G} {A : Nat → Prop} {cI cZ cM : ClassId} {a_this a_text a_reader a_market a_draft a_history a_planner a_trialPlanner a_insertion a_queue a_market_rows a_market_rents a_market_roofs a_market_trades a_market_fronts a_market_limits a_market_needy a_market_clashes a_market_starts a_market_standing : Nat} {v_textLength : Int32} {v_errorAt : Int32} {v_planned : Int32} {v_market_pitches : Int32} {v_market_covers : Int32} {v_market_coversBusy : Int32} {res : Int32}
def rmX5_traderCount : Room := { frames := 0, cells := 0, slots := 0, locals := 0 }
abbrev zwX5_traderCount : List Cond := Cond.code yX5_traderCount cX5_traderCount 1 (some .int) :: wsAll
set_option maxHeartbeats 4000000 in
set_option maxRecDepth 100000 in
theorem c_X5_traderCount {l : Launch} {D : va_G} {cI cZ cM : ClassId} {a_this a_text a_reader a_market a_draft a_history a_planner a_trialPlanner a_insertion a_queue a_market_rows a_market_rents a_market_roofs a_market_trades a_market_fronts a_market_limits a_market_needy a_market_clashes a_market_starts a_market_standing : Nat} {v_textLength : Int32} {v_errorAt : Int32} {v_planned : Int32} {v_market_pitches : Int32} {v_market_covers : Int32} {v_market_coversBusy : Int32} {res : Int32} {sz : Nat} {v_market_traders : Int32} (hf : f_X5_traderCount v_market_traders = some res) : Met l yX5_traderCount zwX5_traderCount rmX5_traderCount (zPc D (zT cI cZ cM) [.ref a_this] [(a_this, .inr (5, [.ref a_text, .int v_textLength, .int v_errorAt, .ref a_reader, .ref a_market, .ref a_draft, .ref a_history, .ref a_planner, .ref a_trialPlanner, .ref a_insertion, .ref a_queue, .int v_planned])), (a_market, .inr (2, [.int v_market_pitches, .ref a_market_rows, .ref a_market_rents, .ref a_market_roofs, .int v_market_traders, .ref a_market_trades, .ref a_market_fronts, .ref a_market_limits, .ref a_market_needy, .ref a_market_clashes, .int v_market_covers, .ref a_market_starts, .ref a_market_standing, .int v_market_coversBusy]))] sz) (zQi D (zT cI cZ cM) res [(a_this, .inr (5, [.ref a_text, .int v_textLength, .int v_errorAt, .ref a_reader, .ref a_market, .ref a_draft, .ref a_history, .ref a_planner, .ref a_trialPlanner, .ref a_insertion, .ref a_queue, .int v_planned])), (a_market, .inr (2, [.int v_market_pitches, .ref a_market_rows, .ref a_market_rents, .ref a_market_roofs, .int v_market_traders, .ref a_market_trades, .ref a_market_fronts, .ref a_market_limits, .ref a_market_needy, .ref a_market_clashes, .int v_market_covers, .ref a_market_starts, .ref a_market_standing, .int v_market_coversBusy]))] (va_A [(a_this, .inr (5, [.ref a_text, .int v_textLength, .int v_errorAt, .ref a_reader, .ref a_market, .ref a_draft, .ref a_history, .ref a_planner, .ref a_trialPlanner, .ref a_insertion, .ref a_queue, .int v_planned])), (a_market, .inr (2, [.int v_market_pitches, .ref a_market_rows, .ref a_market_rents, .ref a_market_roofs, .int v_market_traders, .ref a_market_trades, .ref a_market_fronts, .ref a_market_limits, .ref a_market_needy, .ref a_market_clashes, .int v_market_covers, .ref a_market_starts, .ref a_market_standing, .int v_market_coversBusy]))] sz)) 0 0 (va_A [(a_this, .inr (5, [.ref a_text, .int v_textLength, .int v_errorAt, .ref a_reader, .ref a_market, .ref a_draft, .ref a_history, .ref a_planner, .ref a_trialPlanner, .ref a_insertion, .ref a_queue, .int v_planned])), (a_market, .inr (2, [.int v_market_pitches, .ref a_market_rows, .ref a_market_rents, .ref a_market_roofs, .int v_market_traders, .ref a_market_trades, .ref a_market_fronts, .ref a_market_limits, .ref a_market_needy, .ref a_market_clashes, .int v_market_covers, .ref a_market_starts, .ref a_market_standing, .int v_market_coversBusy]))] sz) := by
  refine z_met (cc := cX5_traderCount) (maxL := 1) (ret := (some .int)) (by decide) rfl (Nat.le_of_ble_eq_true rfl) ?_
  intro p e s m below meth c ls E hsz hw hl
  obtain ⟨⟨hx, hb, hml, hown, hts⟩, hr, hlocks⟩ := id E
  have hl : lv_has ls 1 [(0, .ref a_this)] := hl
  unfold f_X5_traderCount at hf
  refine lv_aload_n hx hb dX5_traderCount_0 rfl (lv_at hl 0 rfl) ?_
  refine z_get E.1 hw in_wsX50 0 rfl rfl 4 (z_lt rfl) mw_411 (v := .ref a_market) rfl dX5_traderCount_1 ?_
  refine z_get E.1 hw in_wsX20 1 rfl rfl 4 (z_lt rfl) mw_412 (v := .int v_market_traders) rfl dX5_traderCount_4 ?_
  cases hf
  exact z_iret E rfl hw dX5_traderCount_7
end
/-! X6_keeps -/
section
variable {p : Program} {l : Launch} {e : Env} {s : State} {m : MethodId} {args : Array Value} {below : List Frame} {meth : Method} {c : Code} {D : va_G} {A : Nat → Prop} {cI cZ cM : ClassId} {a_this a_a a_fresh a_kept a_buffer a_best a_rentBy a_bareBy a_aheadBy a_isEdge a_tried a_stands a_found a_foundOn a_moving : Nat} {v_thrown : Int32} {v_buffered : Int32} {v_size : Int32} {v_at : Int32} {v_behind : Int32} {v_kind : Int32} {v_wrong : Int32} {v_wrongAt : Int32} {v_errorAt : Int32} {v_number : Int64} {v_movingMany : Int32} {v_foundIncome : Int32} {v_foundMoves : Int32} {res : (Nat → Int32) × Int32}
def rmX6_keeps : Room := { frames := 0, cells := 0, slots := 0, locals := 0 }
abbrev zwX6_keeps : List Cond := Cond.code yX6_keeps cX6_keeps 2 none :: wsAll
set_option maxHeartbeats 4000000 in
set_option maxRecDepth 100000 in
theorem w_X6_keeps_52 {n : Nat} (E : zE p s m args meth c cX6_keeps 2 none zwX6_keeps RX6) : ∀ (fu : Nat), ∀ (x1 : Int32) (v_a : Nat → Int32) (v_kept : Nat → Int32) (v_keptMany : Int32), f_X6_keeps_52 n fu x1 v_a v_kept v_keptMany = some res → ∀ (H : Heap) (locs : List Loc) (ls : Array Slot), zW D (zT cI cZ cM) A s [(a_this, .inr (6, [.ref a_a, .ref a_fresh, .ref a_kept, .int v_keptMany, .int v_thrown, .ref a_buffer, .int v_buffered, .int v_size, .int v_at, .int v_behind, .int v_kind, .int v_wrong, .int v_wrongAt, .int v_errorAt, .long v_number, .ref a_best, .ref a_rentBy, .ref a_bareBy, .ref a_aheadBy, .ref a_isEdge, .ref a_tried, .ref a_stands, .ref a_found, .ref a_foundOn, .ref a_moving, .int v_movingMany, .int v_foundIncome, .int v_foundMoves])), (a_a, .inl (cI, 180, .inl v_a)), (a_kept, .inl (cI, 1080, .inl v_kept))] H locs → lv_has ls 2 [(0, .ref a_this), (1, .int x1)] → W p l e rmX6_keeps s m args below meth c H locs 0 0 (MQ below (zQv D (zT cI cZ cM) [(a_this, .inr (6, [.ref a_a, .ref a_fresh, .ref a_kept, .int res.2, .int v_thrown, .ref a_buffer, .int v_buffered, .int v_size, .int v_at, .int v_behind, .int v_kind, .int v_wrong, .int v_wrongAt, .int v_errorAt, .long v_number, .ref a_best, .ref a_rentBy, .ref a_bareBy, .ref a_aheadBy, .ref a_isEdge, .ref a_tried, .ref a_stands, .ref a_found, .ref a_foundOn, .ref a_moving, .int v_movingMany, .int v_foundIncome, .int v_foundMoves])), (a_a, .inl (cI, 180, .inl v_a)), (a_kept, .inl (cI, 1080, .inl res.1))] A) args s 0 0 A) (F0 m 52 ls []) := by
  obtain ⟨⟨hx, hb, hml, hown, hts⟩, hr, hlocks⟩ := id E
  intro fu
  induction fu with
  | zero => intro x1 v_a v_kept v_keptMany hf; rw [f_X6_keeps_52.eq_1] at hf; cases hf
  | succ fu ih =>
    intro x1 v_a v_kept v_keptMany hf H locs ls hw hl
    rw [f_X6_keeps_52.eq_2] at hf
    refine lv_iload_n hx hb dX6_keeps_52 rfl (lv_at hl 1 rfl) ?_
    refine lv_sipush (v := 180) hx hb dX6_keeps_53 (by decide) ?_
    refine lv_icmp_ge (tgt := 86) hx hb dX6_keeps_56 (by decide) (fun hc => ?_) (fun hc => ?_)
    · have hf := oI_pos hc hf
      refine lv_aload_n hx hb dX6_keeps_86 rfl (lv_at hl 0 rfl) ?_
      refine lv_dup hx hb dX6_keeps_87 rfl ?_
      refine z_get E.1 hw in_wsX60 0 rfl rfl 3 (z_lt rfl) mw_604 (v := .int v_keptMany) rfl dX6_keeps_88 ?_
      refine lv_iconst (v := 1) hx hb dX6_keeps_91 (by decide) ?_
      refine lv_iadd hx hb dX6_keeps_92 ?_
      obtain ⟨y_1, e_y_1, hf⟩ := oL_elim hf
      refine z_top e_y_1 ?_
      refine z_put (ws' := [(a_this, .inr (6, [.ref a_a, .ref a_fresh, .ref a_kept, .int y_1, .int v_thrown, .ref a_buffer, .int v_buffered, .int v_size, .int v_at, .int v_behind, .int v_kind, .int v_wrong, .int v_wrongAt, .int v_errorAt, .long v_number, .ref a_best, .ref a_rentBy, .ref a_bareBy, .ref a_aheadBy, .ref a_isEdge, .ref a_tried, .ref a_stands, .ref a_found, .ref a_foundOn, .ref a_moving, .int v_movingMany, .int v_foundIncome, .int v_foundMoves])), (a_a, .inl (cI, 180, .inl v_a)), (a_kept, .inl (cI, 1080, .inl v_kept))]) E.1 hw in_wsX60 tyX6 tyX6_ok nmX6 0 rfl rfl 3 (z_lt rfl) mw_604 rfl rfl rfl (z_lt rfl) rfl dX6_keeps_93 (fun H locs hw => ?_)
      cases hf
      exact z_vret E rfl hw dX6_keeps_96
    · have hf := oI_neg hc hf
      refine lv_aload_n hx hb dX6_keeps_59 rfl (lv_at hl 0 rfl) ?_
      refine z_get E.1 hw in_wsX60 0 rfl rfl 2 (z_lt rfl) mw_605 (v := .ref a_kept) rfl dX6_keeps_60 ?_
      refine lv_sipush (v := 180) hx hb dX6_keeps_63 (by decide) ?_
      refine lv_aload_n hx hb dX6_keeps_66 rfl (lv_at hl 0 rfl) ?_
      refine z_get E.1 hw in_wsX60 0 rfl rfl 3 (z_lt rfl) mw_604 (v := .int v_keptMany) rfl dX6_keeps_67 ?_
      refine lv_imul hx hb dX6_keeps_70 ?_
      refine lv_iload_n hx hb dX6_keeps_71 rfl (lv_at hl 1 rfl) ?_
      refine lv_iadd hx hb dX6_keeps_72 ?_
      refine lv_aload_n hx hb dX6_keeps_73 rfl (lv_at hl 0 rfl) ?_
      refine z_get E.1 hw in_wsX60 0 rfl rfl 0 (z_lt rfl) mw_594 (v := .ref a_a) rfl dX6_keeps_74 ?_
      refine lv_iload_n hx hb dX6_keeps_77 rfl (lv_at hl 1 rfl) ?_
      obtain ⟨h_2, hf⟩ := oA_elim hf
      refine z_iald E.1 hw 1 0 rfl rfl h_2 dX6_keeps_78 ?_
      obtain ⟨h_3, hf⟩ := oA_elim hf
      obtain ⟨v_4, e_v_4, hf⟩ := oL_elim hf
      refine z_iast (ws' := [(a_this, .inr (6, [.ref a_a, .ref a_fresh, .ref a_kept, .int v_keptMany, .int v_thrown, .ref a_buffer, .int v_buffered, .int v_size, .int v_at, .int v_behind, .int v_kind, .int v_wrong, .int v_wrongAt, .int v_errorAt, .long v_number, .ref a_best, .ref a_rentBy, .ref a_bareBy, .ref a_aheadBy, .ref a_isEdge, .ref a_tried, .ref a_stands, .ref a_found, .ref a_foundOn, .ref a_moving, .int v_movingMany, .int v_foundIncome, .int v_foundMoves])), (a_a, .inl (cI, 180, .inl v_a)), (a_kept, .inl (cI, 1080, .inl v_4))]) E.1 hw 2 0 rfl rfl h_3 (by subst e_v_4; rfl) dX6_keeps_79 (fun H locs hw => ?_)
      refine lv_iinc (v := (x1 + (1 : Int32))) (lv' := [(1, .int (x1 + (1 : Int32))), (0, .ref a_this)]) hx hb dX6_keeps_80 hl (k := 1) rfl rfl (z_lt rfl) rfl (fun ls hl => ?_)
      refine lv_goto (tgt := 52) hx hb dX6_keeps_83 (by decide) ?_
      exact ih _ _ _ _ hf _ _ _ hw (lv_sub hl [1, 0] rfl)
set_option maxHeartbeats 4000000 in
set_option maxRecDepth 100000 in
theorem w_X6_keeps_50 {n : Nat} (E : zE p s m args meth c cX6_keeps 2 none zwX6_keeps RX6) : ∀ (v_a : Nat → Int32) (v_kept : Nat → Int32) (v_keptMany : Int32), f_X6_keeps_50 n v_a v_kept v_keptMany = some res → ∀ (H : Heap) (locs : List Loc) (ls : Array Slot), zW D (zT cI cZ cM) A s [(a_this, .inr (6, [.ref a_a, .ref a_fresh, .ref a_kept, .int v_keptMany, .int v_thrown, .ref a_buffer, .int v_buffered, .int v_size, .int v_at, .int v_behind, .int v_kind, .int v_wrong, .int v_wrongAt, .int v_errorAt, .long v_number, .ref a_best, .ref a_rentBy, .ref a_bareBy, .ref a_aheadBy, .ref a_isEdge, .ref a_tried, .ref a_stands, .ref a_found, .ref a_foundOn, .ref a_moving, .int v_movingMany, .int v_foundIncome, .int v_foundMoves])), (a_a, .inl (cI, 180, .inl v_a)), (a_kept, .inl (cI, 1080, .inl v_kept))] H locs → lv_has ls 2 [(0, .ref a_this)] → W p l e rmX6_keeps s m args below meth c H locs 0 0 (MQ below (zQv D (zT cI cZ cM) [(a_this, .inr (6, [.ref a_a, .ref a_fresh, .ref a_kept, .int res.2, .int v_thrown, .ref a_buffer, .int v_buffered, .int v_size, .int v_at, .int v_behind, .int v_kind, .int v_wrong, .int v_wrongAt, .int v_errorAt, .long v_number, .ref a_best, .ref a_rentBy, .ref a_bareBy, .ref a_aheadBy, .ref a_isEdge, .ref a_tried, .ref a_stands, .ref a_found, .ref a_foundOn, .ref a_moving, .int v_movingMany, .int v_foundIncome, .int v_foundMoves])), (a_a, .inl (cI, 180, .inl v_a)), (a_kept, .inl (cI, 1080, .inl res.1))] A) args s 0 0 A) (F0 m 50 ls []) := by
  obtain ⟨⟨hx, hb, hml, hown, hts⟩, hr, hlocks⟩ := id E
  intro v_a v_kept v_keptMany hf H locs ls hw hl
  unfold f_X6_keeps_50 at hf
  refine lv_iconst (v := 0) hx hb dX6_keeps_50 (by decide) ?_
  refine lv_istore_n (lv' := [(1, .int (0 : Int32)), (0, .ref a_this)]) hx hb dX6_keeps_51 rfl hl (z_lt rfl) rfl (fun ls hl => ?_)
  exact w_X6_keeps_52 E  n _ _ _ _ hf _ _ _ hw (lv_sub hl [1, 0] rfl)
set_option maxHeartbeats 4000000 in
set_option maxRecDepth 100000 in
theorem w_X6_keeps_11 {n : Nat} (E : zE p s m args meth c cX6_keeps 2 none zwX6_keeps RX6) : ∀ (fu : Nat), ∀ (x1 : Int32) (v_a : Nat → Int32) (v_kept : Nat → Int32) (v_keptMany : Int32), f_X6_keeps_11 n fu x1 v_a v_kept v_keptMany = some res → ∀ (H : Heap) (locs : List Loc) (ls : Array Slot), zW D (zT cI cZ cM) A s [(a_this, .inr (6, [.ref a_a, .ref a_fresh, .ref a_kept, .int v_keptMany, .int v_thrown, .ref a_buffer, .int v_buffered, .int v_size, .int v_at, .int v_behind, .int v_kind, .int v_wrong, .int v_wrongAt, .int v_errorAt, .long v_number, .ref a_best, .ref a_rentBy, .ref a_bareBy, .ref a_aheadBy, .ref a_isEdge, .ref a_tried, .ref a_stands, .ref a_found, .ref a_foundOn, .ref a_moving, .int v_movingMany, .int v_foundIncome, .int v_foundMoves])), (a_a, .inl (cI, 180, .inl v_a)), (a_kept, .inl (cI, 1080, .inl v_kept))] H locs → lv_has ls 2 [(0, .ref a_this), (1, .int x1)] → W p l e rmX6_keeps s m args below meth c H locs 0 0 (MQ below (zQv D (zT cI cZ cM) [(a_this, .inr (6, [.ref a_a, .ref a_fresh, .ref a_kept, .int res.2, .int v_thrown, .ref a_buffer, .int v_buffered, .int v_size, .int v_at, .int v_behind, .int v_kind, .int v_wrong, .int v_wrongAt, .int v_errorAt, .long v_number, .ref a_best, .ref a_rentBy, .ref a_bareBy, .ref a_aheadBy, .ref a_isEdge, .ref a_tried, .ref a_stands, .ref a_found, .ref a_foundOn, .ref a_moving, .int v_movingMany, .int v_foundIncome, .int v_foundMoves])), (a_a, .inl (cI, 180, .inl v_a)), (a_kept, .inl (cI, 1080, .inl res.1))] A) args s 0 0 A) (F0 m 11 ls []) := by
  obtain ⟨⟨hx, hb, hml, hown, hts⟩, hr, hlocks⟩ := id E
  intro fu
  induction fu with
  | zero => intro x1 v_a v_kept v_keptMany hf; rw [f_X6_keeps_11.eq_1] at hf; cases hf
  | succ fu ih =>
    intro x1 v_a v_kept v_keptMany hf H locs ls hw hl
    rw [f_X6_keeps_11.eq_2] at hf
    refine lv_iload_n hx hb dX6_keeps_11 rfl (lv_at hl 1 rfl) ?_
    refine lv_sipush (v := 900) hx hb dX6_keeps_12 (by decide) ?_
    refine lv_icmp_ge (tgt := 40) hx hb dX6_keeps_15 (by decide) (fun hc => ?_) (fun hc => ?_)
    · have hf := oI_pos hc hf
      refine lv_aload_n hx hb dX6_keeps_40 rfl (lv_at hl 0 rfl) ?_
      refine lv_dup hx hb dX6_keeps_41 rfl ?_
      refine z_get E.1 hw in_wsX60 0 rfl rfl 3 (z_lt rfl) mw_604 (v := .int v_keptMany) rfl dX6_keeps_42 ?_
      refine lv_iconst (v := 1) hx hb dX6_keeps_45 (by decide) ?_
      refine lv_isub hx hb dX6_keeps_46 ?_
      obtain ⟨y_5, e_y_5, hf⟩ := oL_elim hf
      refine z_top e_y_5 ?_
      refine z_put (ws' := [(a_this, .inr (6, [.ref a_a, .ref a_fresh, .ref a_kept, .int y_5, .int v_thrown, .ref a_buffer, .int v_buffered, .int v_size, .int v_at, .int v_behind, .int v_kind, .int v_wrong, .int v_wrongAt, .int v_errorAt, .long v_number, .ref a_best, .ref a_rentBy, .ref a_bareBy, .ref a_aheadBy, .ref a_isEdge, .ref a_tried, .ref a_stands, .ref a_found, .ref a_foundOn, .ref a_moving, .int v_movingMany, .int v_foundIncome, .int v_foundMoves])), (a_a, .inl (cI, 180, .inl v_a)), (a_kept, .inl (cI, 1080, .inl v_kept))]) E.1 hw in_wsX60 tyX6 tyX6_ok nmX6 0 rfl rfl 3 (z_lt rfl) mw_604 rfl rfl rfl (z_lt rfl) rfl dX6_keeps_47 (fun H locs hw => ?_)
      exact w_X6_keeps_50 E  _ _ _ hf _ _ _ hw (lv_sub hl [0] rfl)
    · have hf := oI_neg hc hf
      refine lv_aload_n hx hb dX6_keeps_18 rfl (lv_at hl 0 rfl) ?_
      refine z_get E.1 hw in_wsX60 0 rfl rfl 2 (z_lt rfl) mw_605 (v := .ref a_kept) rfl dX6_keeps_19 ?_
      refine lv_iload_n hx hb dX6_keeps_22 rfl (lv_at hl 1 rfl) ?_
      refine lv_aload_n hx hb dX6_keeps_23 rfl (lv_at hl 0 rfl) ?_
      refine z_get E.1 hw in_wsX60 0 rfl rfl 2 (z_lt rfl) mw_605 (v := .ref a_kept) rfl dX6_keeps_24 ?_
      refine lv_iload_n hx hb dX6_keeps_27 rfl (lv_at hl 1 rfl) ?_
      refine lv_sipush (v := 180) hx hb dX6_keeps_28 (by decide) ?_
      refine lv_iadd hx hb dX6_keeps_31 ?_
      obtain ⟨h_6, hf⟩ := oA_elim hf
      refine z_iald E.1 hw 2 0 rfl rfl h_6 dX6_keeps_32 ?_
      obtain ⟨h_7, hf⟩ := oA_elim hf
      obtain ⟨v_8, e_v_8, hf⟩ := oL_elim hf
      refine z_iast (ws' := [(a_this, .inr (6, [.ref a_a, .ref a_fresh, .ref a_kept, .int v_keptMany, .int v_thrown, .ref a_buffer, .int v_buffered, .int v_size, .int v_at, .int v_behind, .int v_kind, .int v_wrong, .int v_wrongAt, .int v_errorAt, .long v_number, .ref a_best, .ref a_rentBy, .ref a_bareBy, .ref a_aheadBy, .ref a_isEdge, .ref a_tried, .ref a_stands, .ref a_found, .ref a_foundOn, .ref a_moving, .int v_movingMany, .int v_foundIncome, .int v_foundMoves])), (a_a, .inl (cI, 180, .inl v_a)), (a_kept, .inl (cI, 1080, .inl v_8))]) E.1 hw 2 0 rfl rfl h_7 (by subst e_v_8; rfl) dX6_keeps_33 (fun H locs hw => ?_)
      refine lv_iinc (v := (x1 + (1 : Int32))) (lv' := [(1, .int (x1 + (1 : Int32))), (0, .ref a_this)]) hx hb dX6_keeps_34 hl (k := 1) rfl rfl (z_lt rfl) rfl (fun ls hl => ?_)
      refine lv_goto (tgt := 11) hx hb dX6_keeps_37 (by decide) ?_
      exact ih _ _ _ _ hf _ _ _ hw (lv_sub hl [1, 0] rfl)
set_option maxHeartbeats 4000000 in
set_option maxRecDepth 100000 in
theorem c_X6_keeps {l : Launch} {D : va_G} {cI cZ cM : ClassId} {a_this a_a a_fresh a_kept a_buffer a_best a_rentBy a_bareBy a_aheadBy a_isEdge a_tried a_stands a_found a_foundOn a_moving : Nat} {v_thrown : Int32} {v_buffered : Int32} {v_size : Int32} {v_at : Int32} {v_behind : Int32} {v_kind : Int32} {v_wrong : Int32} {v_wrongAt : Int32} {v_errorAt : Int32} {v_number : Int64} {v_movingMany : Int32} {v_foundIncome : Int32} {v_foundMoves : Int32} {res : (Nat → Int32) × Int32} {sz : Nat} {n : Nat} {v_a : Nat → Int32} {v_kept : Nat → Int32} {v_keptMany : Int32} (hf : f_X6_keeps n v_a v_kept v_keptMany = some res) : Met l yX6_keeps zwX6_keeps rmX6_keeps (zPc D (zT cI cZ cM) [.ref a_this] [(a_this, .inr (6, [.ref a_a, .ref a_fresh, .ref a_kept, .int v_keptMany, .int v_thrown, .ref a_buffer, .int v_buffered, .int v_size, .int v_at, .int v_behind, .int v_kind, .int v_wrong, .int v_wrongAt, .int v_errorAt, .long v_number, .ref a_best, .ref a_rentBy, .ref a_bareBy, .ref a_aheadBy, .ref a_isEdge, .ref a_tried, .ref a_stands, .ref a_found, .ref a_foundOn, .ref a_moving, .int v_movingMany, .int v_foundIncome, .int v_foundMoves])), (a_a, .inl (cI, 180, .inl v_a)), (a_kept, .inl (cI, 1080, .inl v_kept))] sz) (zQv D (zT cI cZ cM) [(a_this, .inr (6, [.ref a_a, .ref a_fresh, .ref a_kept, .int res.2, .int v_thrown, .ref a_buffer, .int v_buffered, .int v_size, .int v_at, .int v_behind, .int v_kind, .int v_wrong, .int v_wrongAt, .int v_errorAt, .long v_number, .ref a_best, .ref a_rentBy, .ref a_bareBy, .ref a_aheadBy, .ref a_isEdge, .ref a_tried, .ref a_stands, .ref a_found, .ref a_foundOn, .ref a_moving, .int v_movingMany, .int v_foundIncome, .int v_foundMoves])), (a_a, .inl (cI, 180, .inl v_a)), (a_kept, .inl (cI, 1080, .inl res.1))] (va_A [(a_this, .inr (6, [.ref a_a, .ref a_fresh, .ref a_kept, .int v_keptMany, .int v_thrown, .ref a_buffer, .int v_buffered, .int v_size, .int v_at, .int v_behind, .int v_kind, .int v_wrong, .int v_wrongAt, .int v_errorAt, .long v_number, .ref a_best, .ref a_rentBy, .ref a_bareBy, .ref a_aheadBy, .ref a_isEdge, .ref a_tried, .ref a_stands, .ref a_found, .ref a_foundOn, .ref a_moving, .int v_movingMany, .int v_foundIncome, .int v_foundMoves])), (a_a, .inl (cI, 180, .inl v_a)), (a_kept, .inl (cI, 1080, .inl v_kept))] sz)) 0 0 (va_A [(a_this, .inr (6, [.ref a_a, .ref a_fresh, .ref a_kept, .int v_keptMany, .int v_thrown, .ref a_buffer, .int v_buffered, .int v_size, .int v_at, .int v_behind, .int v_kind, .int v_wrong, .int v_wrongAt, .int v_errorAt, .long v_number, .ref a_best, .ref a_rentBy, .ref a_bareBy, .ref a_aheadBy, .ref a_isEdge, .ref a_tried, .ref a_stands, .ref a_found, .ref a_foundOn, .ref a_moving, .int v_movingMany, .int v_foundIncome, .int v_foundMoves])), (a_a, .inl (cI, 180, .inl v_a)), (a_kept, .inl (cI, 1080, .inl v_kept))] sz) := by
  refine z_met (cc := cX6_keeps) (maxL := 2) (ret := none) (by decide) rfl (Nat.le_of_ble_eq_true rfl) ?_
  intro p e s m below meth c ls E hsz hw hl
  obtain ⟨⟨hx, hb, hml, hown, hts⟩, hr, hlocks⟩ := id E
  have hl : lv_has ls 2 [(0, .ref a_this)] := hl
  unfold f_X6_keeps at hf
  refine lv_aload_n hx hb dX6_keeps_0 rfl (lv_at hl 0 rfl) ?_
  refine z_get E.1 hw in_wsX60 0 rfl rfl 3 (z_lt rfl) mw_604 (v := .int v_keptMany) rfl dX6_keeps_1 ?_
  refine lv_bipush (v := 6) hx hb dX6_keeps_4 (by decide) ?_
  refine lv_icmp_ne (tgt := 50) hx hb dX6_keeps_6 (by decide) (fun hc => ?_) (fun hc => ?_)
  · have hf := oI_neg hc hf
    exact w_X6_keeps_50 E  _ _ _ hf _ _ _ hw (lv_sub hl [0] rfl)
  · have hf := oI_pos hc hf
    refine lv_iconst (v := 0) hx hb dX6_keeps_9 (by decide) ?_
    refine lv_istore_n (lv' := [(1, .int (0 : Int32)), (0, .ref a_this)]) hx hb dX6_keeps_10 rfl hl (z_lt rfl) rfl (fun ls hl => ?_)
    exact w_X6_keeps_11 E  n _ _ _ _ hf _ _ _ hw (lv_sub hl [1, 0] rfl)
end
/-! X6_isIn -/
section
variable {p : Program} {l : Launch} {e : Env} {s : State} {m : MethodId} {args : Array Value} {below : List Frame} {meth : Method} {c : Code} {D : va_G} {A : Nat → Prop} {cI cZ cM : ClassId} {res : Int32}
def rmX6_isIn : Room := { frames := 0, cells := 0, slots := 0, locals := 0 }
abbrev zwX6_isIn : List Cond := Cond.code yX6_isIn cX6_isIn 6 (some .boolean) :: wsAll
set_option maxHeartbeats 4000000 in
set_option maxRecDepth 100000 in
theorem c_X6_isIn {l : Launch} {D : va_G} {cI cZ cM : ClassId} {res : Int32} {sz : Nat} {x0 : Int64} {x2 : Int64} {x4 : Int64} (hf : f_X6_isIn x0 x2 x4 = some res) : Met l yX6_isIn zwX6_isIn rmX6_isIn (zPc D (zT cI cZ cM) [.long x0, .long x2, .long x4] [] sz) (zQi D (zT cI cZ cM) res [] (va_A [] sz)) 0 0 (va_A [] sz) := by
  refine z_met (cc := cX6_isIn) (maxL := 6) (ret := (some .boolean)) (by decide) rfl (Nat.le_of_ble_eq_true rfl) ?_
  intro p e s m below meth c ls E hsz hw hl
  obtain ⟨⟨hx, hb, hml, hown, hts⟩, hr, hlocks⟩ := id E
  have hl : lv_has ls 6 [(0, .long x0), (2, .long x2), (4, .long x4)] := hl
  unfold f_X6_isIn at hf
  refine lv_lload_n hx hb dX6_isIn_0 rfl (lv_at hl 0 rfl) ?_
  refine lv_lload_n hx hb dX6_isIn_1 rfl (lv_at hl 1 rfl) ?_
  refine W.lcmp hx hb dX6_isIn_2 ?_
  refine lv_if_lt (tgt := 17) hx hb dX6_isIn_3 (by decide) (fun hc => ?_) (fun hc => ?_)
  · have hf := oI_pos hc hf
    refine lv_iconst (v := 0) hx hb dX6_isIn_17 (by decide) ?_
    cases hf
    exact z_zret E rfl z_n0 hw dX6_isIn_18
  · have hf := oI_neg hc hf
    refine lv_lload_n hx hb dX6_isIn_6 rfl (lv_at hl 0 rfl) ?_
    refine lv_lload hx hb dX6_isIn_7 (lv_at hl 2 rfl) ?_
    refine W.lcmp hx hb dX6_isIn_9 ?_
    refine lv_if_gt (tgt := 17) hx hb dX6_isIn_10 (by decide) (fun hc => ?_) (fun hc => ?_)
    · have hf := oI_pos hc hf
      refine lv_iconst (v := 0) hx hb dX6_isIn_17 (by decide) ?_
      cases hf
      exact z_zret E rfl z_n0 hw dX6_isIn_18
    · have hf := oI_neg hc hf
      refine lv_iconst (v := 1) hx hb dX6_isIn_13 (by decide) ?_
      refine lv_goto (tgt := 18) hx hb dX6_isIn_14 (by decide) ?_
      cases hf
      exact z_zret E rfl z_n1 hw dX6_isIn_18
end
/-! X6_addTrader -/
section
variable {p : Program} {l : Launch} {e : Env} {s : State} {m : MethodId} {args : Array Value} {below : List Frame} {meth : Method} {c : Code} {D : va_G} {A : Nat → Prop} {cI cZ cM : ClassId} {a_this a_a a_fresh a_kept a_buffer a_best a_rentBy a_bareBy a_aheadBy a_isEdge a_tried a_stands a_found a_foundOn a_moving : Nat} {v_buffered : Int32} {v_size : Int32} {v_at : Int32} {v_behind : Int32} {v_kind : Int32} {v_wrong : Int32} {v_wrongAt : Int32} {v_errorAt : Int32} {v_number : Int64} {v_movingMany : Int32} {v_foundIncome : Int32} {v_foundMoves : Int32} {res : Int32 × (Nat → Int32) × (Nat → Int32) × Int32 × Int32}
def rmX6_addTrader : Room := { frames := 1, cells := 0, slots := 0, locals := 25 }
abbrev zwX6_addTrader : List Cond := Cond.code yX6_addTrader cX6_addTrader 6 (some .int) :: wsAll
set_option maxHeartbeats 4000000 in
set_option maxRecDepth 100000 in
theorem w_X6_addTrader_135 {n : Nat} (E : zE p s m args meth c cX6_addTrader 6 (some .int) zwX6_addTrader RX6) : ∀ (t1 : Int32) (t2 : Int32) (x5 : Int32) (v_a : Nat → Int32) (v_kept : Nat → Int32) (v_keptMany : Int32) (v_thrown : Int32), f_X6_addTrader_135 n t1 t2 x5 v_a v_kept v_keptMany v_thrown = some res → ∀ (H : Heap) (locs : List Loc) (ls : Array Slot), zW D (zT cI cZ cM) A s [(a_this, .inr (6, [.ref a_a, .ref a_fresh, .ref a_kept, .int v_keptMany, .int v_thrown, .ref a_buffer, .int v_buffered, .int v_size, .int v_at, .int v_behind, .int v_kind, .int v_wrong, .int v_wrongAt, .int v_errorAt, .long v_number, .ref a_best, .ref a_rentBy, .ref a_bareBy, .ref a_aheadBy, .ref a_isEdge, .ref a_tried, .ref a_stands, .ref a_found, .ref a_foundOn, .ref a_moving, .int v_movingMany, .int v_foundIncome, .int v_foundMoves])), (a_a, .inl (cI, 180, .inl v_a)), (a_kept, .inl (cI, 1080, .inl v_kept))] H locs → lv_has ls 6 [(0, .ref a_this), (5, .int x5)] → W p l e rmX6_addTrader s m args below meth c H locs 0 0 (MQ below (zQi D (zT cI cZ cM) res.1 [(a_this, .inr (6, [.ref a_a, .ref a_fresh, .ref a_kept, .int res.2.2.2.1, .int res.2.2.2.2, .ref a_buffer, .int v_buffered, .int v_size, .int v_at, .int v_behind, .int v_kind, .int v_wrong, .int v_wrongAt, .int v_errorAt, .long v_number, .ref a_best, .ref a_rentBy, .ref a_bareBy, .ref a_aheadBy, .ref a_isEdge, .ref a_tried, .ref a_stands, .ref a_found, .ref a_foundOn, .ref a_moving, .int v_movingMany, .int v_foundIncome, .int v_foundMoves])), (a_a, .inl (cI, 180, .inl res.2.1)), (a_kept, .inl (cI, 1080, .inl res.2.2.1))] A) args s 0 0 A) (F0 m 135 ls [.int t2, .int t1, .ref a_a]) := by
  obtain ⟨⟨hx, hb, hml, hown, hts⟩, hr, hlocks⟩ := id E
  intro t1 t2 x5 v_a v_kept v_keptMany v_thrown hf H locs ls hw hl
  unfold f_X6_addTrader_135 at hf
  obtain ⟨h_1, hf⟩ := oA_elim hf
  obtain ⟨v_2, e_v_2, hf⟩ := oL_elim hf
  refine z_iast (ws' := [(a_this, .inr (6, [.ref a_a, .ref a_fresh, .ref a_kept, .int v_keptMany, .int v_thrown, .ref a_buffer, .int v_buffered, .int v_size, .int v_at, .int v_behind, .int v_kind, .int v_wrong, .int v_wrongAt, .int v_errorAt, .long v_number, .ref a_best, .ref a_rentBy, .ref a_bareBy, .ref a_aheadBy, .ref a_isEdge, .ref a_tried, .ref a_stands, .ref a_found, .ref a_foundOn, .ref a_moving, .int v_movingMany, .int v_foundIncome, .int v_foundMoves])), (a_a, .inl (cI, 180, .inl v_2)), (a_kept, .inl (cI, 1080, .inl v_kept))]) E.1 hw 1 0 rfl rfl h_1 (by subst e_v_2; rfl) dX6_addTrader_135 (fun H locs hw => ?_)
  refine lv_aload_n hx hb dX6_addTrader_136 rfl (lv_at hl 0 rfl) ?_
  refine z_get E.1 hw in_wsX60 0 rfl rfl 0 (z_lt rfl) mw_594 (v := .ref a_a) rfl dX6_addTrader_137 ?_
  refine lv_bipush (v := 74) hx hb dX6_addTrader_140 (by decide) ?_
  refine lv_dup2_11 hx hb dX6_addTrader_142 rfl rfl ?_
  obtain ⟨h_3, hf⟩ := oA_elim hf
  refine z_iald E.1 hw 1 0 rfl rfl h_3 dX6_addTrader_143 ?_
  refine lv_iconst (v := 1) hx hb dX6_addTrader_144 (by decide) ?_
  refine lv_iadd hx hb dX6_addTrader_145 ?_
  obtain ⟨h_4, hf⟩ := oA_elim hf
  obtain ⟨v_5, e_v_5, hf⟩ := oL_elim hf
  refine z_iast (ws' := [(a_this, .inr (6, [.ref a_a, .ref a_fresh, .ref a_kept, .int v_keptMany, .int v_thrown, .ref a_buffer, .int v_buffered, .int v_size, .int v_at, .int v_behind, .int v_kind, .int v_wrong, .int v_wrongAt, .int v_errorAt, .long v_number, .ref a_best, .ref a_rentBy, .ref a_bareBy, .ref a_aheadBy, .ref a_isEdge, .ref a_tried, .ref a_stands, .ref a_found, .ref a_foundOn, .ref a_moving, .int v_movingMany, .int v_foundIncome, .int v_foundMoves])), (a_a, .inl (cI, 180, .inl v_5)), (a_kept, .inl (cI, 1080, .inl v_kept))]) E.1 hw 1 0 rfl rfl h_4 (by subst e_v_5; rfl) dX6_addTrader_146 (fun H locs hw => ?_)
  refine lv_iload hx hb dX6_addTrader_147 (lv_at hl 1 rfl) ?_
  cases hf
  exact z_iret E rfl hw dX6_addTrader_149
set_option maxHeartbeats 4000000 in
set_option maxRecDepth 100000 in
theorem w_X6_addTrader_58 {n : Nat} (E : zE p s m args meth c cX6_addTrader 6 (some .int) zwX6_addTrader RX6) : ∀ (t1 : Int32) (x1 : Int32) (x2 : Int32) (x3 : Int32) (x4 : Int32) (v_a : Nat → Int32) (v_kept : Nat → Int32) (v_keptMany : Int32) (v_thrown : Int32), f_X6_addTrader_58 n t1 x1 x2 x3 x4 v_a v_kept v_keptMany v_thrown = some res → ∀ (H : Heap) (locs : List Loc) (ls : Array Slot), zW D (zT cI cZ cM) A s [(a_this, .inr (6, [.ref a_a, .ref a_fresh, .ref a_kept, .int v_keptMany, .int v_thrown, .ref a_buffer, .int v_buffered, .int v_size, .int v_at, .int v_behind, .int v_kind, .int v_wrong, .int v_wrongAt, .int v_errorAt, .long v_number, .ref a_best, .ref a_rentBy, .ref a_bareBy, .ref a_aheadBy, .ref a_isEdge, .ref a_tried, .ref a_stands, .ref a_found, .ref a_foundOn, .ref a_moving, .int v_movingMany, .int v_foundIncome, .int v_foundMoves])), (a_a, .inl (cI, 180, .inl v_a)), (a_kept, .inl (cI, 1080, .inl v_kept))] H locs → lv_has ls 6 [(0, .ref a_this), (1, .int x1), (2, .int x2), (3, .int x3), (4, .int x4)] → W p l e rmX6_addTrader s m args below meth c H locs 0 0 (MQ below (zQi D (zT cI cZ cM) res.1 [(a_this, .inr (6, [.ref a_a, .ref a_fresh, .ref a_kept, .int res.2.2.2.1, .int res.2.2.2.2, .ref a_buffer, .int v_buffered, .int v_size, .int v_at, .int v_behind, .int v_kind, .int v_wrong, .int v_wrongAt, .int v_errorAt, .long v_number, .ref a_best, .ref a_rentBy, .ref a_bareBy, .ref a_aheadBy, .ref a_isEdge, .ref a_tried, .ref a_stands, .ref a_found, .ref a_foundOn, .ref a_moving, .int v_movingMany, .int v_foundIncome, .int v_foundMoves])), (a_a, .inl (cI, 180, .inl res.2.1)), (a_kept, .inl (cI, 1080, .inl res.2.2.1))] A) args s 0 0 A) (F0 m 58 ls [.int t1, .ref a_this]) := by
  obtain ⟨⟨hx, hb, hml, hown, hts⟩, hr, hlocks⟩ := id E
  intro t1 x1 x2 x3 x4 v_a v_kept v_keptMany v_thrown hf H locs ls hw hl
  unfold f_X6_addTrader_58 at hf
  refine z_put (ws' := [(a_this, .inr (6, [.ref a_a, .ref a_fresh, .ref a_kept, .int v_keptMany, .int t1, .ref a_buffer, .int v_buffered, .int v_size, .int v_at, .int v_behind, .int v_kind, .int v_wrong, .int v_wrongAt, .int v_errorAt, .long v_number, .ref a_best, .ref a_rentBy, .ref a_bareBy, .ref a_aheadBy, .ref a_isEdge, .ref a_tried, .ref a_stands, .ref a_found, .ref a_foundOn, .ref a_moving, .int v_movingMany, .int v_foundIncome, .int v_foundMoves])), (a_a, .inl (cI, 180, .inl v_a)), (a_kept, .inl (cI, 1080, .inl v_kept))]) E.1 hw in_wsX60 tyX6 tyX6_ok nmX6 0 rfl rfl 4 (z_lt rfl) mw_595 rfl rfl rfl (z_lt rfl) rfl dX6_addTrader_58 (fun H locs hw => ?_)
  refine lv_aload_n hx hb dX6_addTrader_61 rfl (lv_at hl 0 rfl) ?_
  refine z_get E.1 hw in_wsX60 0 rfl rfl 4 (z_lt rfl) mw_595 (v := .int t1) rfl dX6_addTrader_62 ?_
  refine lv_if_le (tgt := 70) hx hb dX6_addTrader_65 (by decide) (fun hc => ?_) (fun hc => ?_)
  · have hf := oI_pos hc hf
    refine lv_aload_n hx hb dX6_addTrader_70 rfl (lv_at hl 0 rfl) ?_
    obtain ⟨v_6, v_7, h_8, hf⟩ := oB2_elim hf
    refine z_callVv (ws' := [(a_this, .inr (6, [.ref a_a, .ref a_fresh, .ref a_kept, .int v_7, .int t1, .ref a_buffer, .int v_buffered, .int v_size, .int v_at, .int v_behind, .int v_kind, .int v_wrong, .int v_wrongAt, .int v_errorAt, .long v_number, .ref a_best, .ref a_rentBy, .ref a_bareBy, .ref a_aheadBy, .ref a_isEdge, .ref a_tried, .ref a_stands, .ref a_found, .ref a_foundOn, .ref a_moving, .int v_movingMany, .int v_foundIncome, .int v_foundMoves])), (a_a, .inl (cI, 180, .inl v_a)), (a_kept, .inl (cI, 1080, .inl v_6))]) (wr := []) (As := []) (rest := []) E.1 hl hw (c_X6_keeps h_8) (cwV 0 hts (z_gV mw_600 mw_601 mw_602 mw_598 mw_603) rfl rfl rfl (by decide +kernel) ⟨(Nat.le_of_ble_eq_true rfl), (Nat.le_of_ble_eq_true rfl)⟩) [0, 1, 2] [] rfl rfl rfl rfl rfl rfl rfl (q0 := 0) rfl rfl rfl (Nat.le_of_ble_eq_true rfl) dX6_addTrader_71 ⟨Nat.le_of_ble_eq_true rfl, Nat.le_of_ble_eq_true rfl⟩ (fun H locs hw => ?_)
    refine lv_aload_n hx hb dX6_addTrader_74 rfl (lv_at hl 0 rfl) ?_
    refine z_get E.1 hw in_wsX60 0 rfl rfl 0 (z_lt rfl) mw_594 (v := .ref a_a) rfl dX6_addTrader_75 ?_
    refine lv_bipush (v := 74) hx hb dX6_addTrader_78 (by decide) ?_
    obtain ⟨h_9, hf⟩ := oA_elim hf
    refine z_iald E.1 hw 1 0 rfl rfl h_9 dX6_addTrader_80 ?_
    obtain ⟨y_10, e_y_10, hf⟩ := oL_elim hf
    refine z_top e_y_10 ?_
    refine lv_istore (lv' := [(5, .int y_10), (0, .ref a_this), (1, .int x1), (2, .int x2), (3, .int x3), (4, .int x4)]) hx hb dX6_addTrader_81 hl (z_lt rfl) rfl (fun ls hl => ?_)
    refine lv_aload_n hx hb dX6_addTrader_83 rfl (lv_at hl 1 rfl) ?_
    refine z_get E.1 hw in_wsX60 0 rfl rfl 0 (z_lt rfl) mw_594 (v := .ref a_a) rfl dX6_addTrader_84 ?_
    refine lv_bipush (v := 75) hx hb dX6_addTrader_87 (by decide) ?_
    refine lv_iload hx hb dX6_addTrader_89 (lv_at hl 0 rfl) ?_
    refine lv_iadd hx hb dX6_addTrader_91 ?_
    refine lv_iload_n hx hb dX6_addTrader_92 rfl (lv_at hl 2 rfl) ?_
    obtain ⟨h_11, hf⟩ := oA_elim hf
    obtain ⟨v_12, e_v_12, hf⟩ := oL_elim hf
    refine z_iast (ws' := [(a_this, .inr (6, [.ref a_a, .ref a_fresh, .ref a_kept, .int v_7, .int t1, .ref a_buffer, .int v_buffered, .int v_size, .int v_at, .int v_behind, .int v_kind, .int v_wrong, .int v_wrongAt, .int v_errorAt, .long v_number, .ref a_best, .ref a_rentBy, .ref a_bareBy, .ref a_aheadBy, .ref a_isEdge, .ref a_tried, .ref a_stands, .ref a_found, .ref a_foundOn, .ref a_moving, .int v_movingMany, .int v_foundIncome, .int v_foundMoves])), (a_a, .inl (cI, 180, .inl v_12)), (a_kept, .inl (cI, 1080, .inl v_6))]) E.1 hw 1 0 rfl rfl h_11 (by subst e_v_12; rfl) dX6_addTrader_93 (fun H locs hw => ?_)
    refine lv_aload_n hx hb dX6_addTrader_94 rfl (lv_at hl 1 rfl) ?_
    refine z_get E.1 hw in_wsX60 0 rfl rfl 0 (z_lt rfl) mw_594 (v := .ref a_a) rfl dX6_addTrader_95 ?_
    refine lv_bipush (v := 83) hx hb dX6_addTrader_98 (by decide) ?_
    refine lv_iload hx hb dX6_addTrader_100 (lv_at hl 0 rfl) ?_
    refine lv_iadd hx hb dX6_addTrader_102 ?_
    refine lv_iload_n hx hb dX6_addTrader_103 rfl (lv_at hl 3 rfl) ?_
    obtain ⟨h_13, hf⟩ := oA_elim hf
    obtain ⟨v_14, e_v_14, hf⟩ := oL_elim hf
    refine z_iast (ws' := [(a_this, .inr (6, [.ref a_a, .ref a_fresh, .ref a_kept, .int v_7, .int t1, .ref a_buffer, .int v_buffered, .int v_size, .int v_at, .int v_behind, .int v_kind, .int v_wrong, .int v_wrongAt, .int v_errorAt, .long v_number, .ref a_best, .ref a_rentBy, .ref a_bareBy, .ref a_aheadBy, .ref a_isEdge, .ref a_tried, .ref a_stands, .ref a_found, .ref a_foundOn, .ref a_moving, .int v_movingMany, .int v_foundIncome, .int v_foundMoves])), (a_a, .inl (cI, 180, .inl v_14)), (a_kept, .inl (cI, 1080, .inl v_6))]) E.1 hw 1 0 rfl rfl h_13 (by subst e_v_14; rfl) dX6_addTrader_104 (fun H locs hw => ?_)
    refine lv_aload_n hx hb dX6_addTrader_105 rfl (lv_at hl 1 rfl) ?_
    refine z_get E.1 hw in_wsX60 0 rfl rfl 0 (z_lt rfl) mw_594 (v := .ref a_a) rfl dX6_addTrader_106 ?_
    refine lv_bipush (v := 91) hx hb dX6_addTrader_109 (by decide) ?_
    refine lv_iload hx hb dX6_addTrader_111 (lv_at hl 0 rfl) ?_
    refine lv_iadd hx hb dX6_addTrader_113 ?_
    refine lv_iload_n hx hb dX6_addTrader_114 rfl (lv_at hl 4 rfl) ?_
    obtain ⟨h_15, hf⟩ := oA_elim hf
    obtain ⟨v_16, e_v_16, hf⟩ := oL_elim hf
    refine z_iast (ws' := [(a_this, .inr (6, [.ref a_a, .ref a_fresh, .ref a_kept, .int v_7, .int t1, .ref a_buffer, .int v_buffered, .int v_size, .int v_at, .int v_behind, .int v_kind, .int v_wrong, .int v_wrongAt, .int v_errorAt, .long v_number, .ref a_best, .ref a_rentBy, .ref a_bareBy, .ref a_aheadBy, .ref a_isEdge, .ref a_tried, .ref a_stands, .ref a_found, .ref a_foundOn, .ref a_moving, .int v_movingMany, .int v_foundIncome, .int v_foundMoves])), (a_a, .inl (cI, 180, .inl v_16)), (a_kept, .inl (cI, 1080, .inl v_6))]) E.1 hw 1 0 rfl rfl h_15 (by subst e_v_16; rfl) dX6_addTrader_115 (fun H locs hw => ?_)
    refine lv_aload_n hx hb dX6_addTrader_116 rfl (lv_at hl 1 rfl) ?_
    refine z_get E.1 hw in_wsX60 0 rfl rfl 0 (z_lt rfl) mw_594 (v := .ref a_a) rfl dX6_addTrader_117 ?_
    refine lv_bipush (v := 99) hx hb dX6_addTrader_120 (by decide) ?_
    refine lv_iload hx hb dX6_addTrader_122 (lv_at hl 0 rfl) ?_
    refine lv_iadd hx hb dX6_addTrader_124 ?_
    refine lv_iload hx hb dX6_addTrader_125 (lv_at hl 5 rfl) ?_
    refine lv_if_eq (tgt := 134) hx hb dX6_addTrader_127 (by decide) (fun hc => ?_) (fun hc => ?_)
    · have hf := oI_pos hc hf
      refine lv_iconst (v := 0) hx hb dX6_addTrader_134 (by decide) ?_
      exact w_X6_addTrader_135 E  _ _ _ _ _ _ _ hf _ _ _ hw (lv_sub hl [1, 0] rfl)
    · have hf := oI_neg hc hf
      refine lv_iconst (v := 1) hx hb dX6_addTrader_130 (by decide) ?_
      refine lv_goto (tgt := 135) hx hb dX6_addTrader_131 (by decide) ?_
      exact w_X6_addTrader_135 E  _ _ _ _ _ _ _ hf _ _ _ hw (lv_sub hl [1, 0] rfl)
  · have hf := oI_neg hc hf
    refine lv_iconst (v := 0) hx hb dX6_addTrader_68 (by decide) ?_
    cases hf
    exact z_iret E rfl hw dX6_addTrader_69
set_option maxHeartbeats 4000000 in
set_option maxRecDepth 100000 in
theorem w_X6_addTrader_37 {n : Nat} (E : zE p s m args meth c cX6_addTrader 6 (some .int) zwX6_addTrader RX6) : ∀ (x1 : Int32) (x2 : Int32) (x3 : Int32) (x4 : Int32) (v_a : Nat → Int32) (v_kept : Nat → Int32) (v_keptMany : Int32) (v_thrown : Int32), f_X6_addTrader_37 n x1 x2 x3 x4 v_a v_kept v_keptMany v_thrown = some res → ∀ (H : Heap) (locs : List Loc) (ls : Array Slot), zW D (zT cI cZ cM) A s [(a_this, .inr (6, [.ref a_a, .ref a_fresh, .ref a_kept, .int v_keptMany, .int v_thrown, .ref a_buffer, .int v_buffered, .int v_size, .int v_at, .int v_behind, .int v_kind, .int v_wrong, .int v_wrongAt, .int v_errorAt, .long v_number, .ref a_best, .ref a_rentBy, .ref a_bareBy, .ref a_aheadBy, .ref a_isEdge, .ref a_tried, .ref a_stands, .ref a_found, .ref a_foundOn, .ref a_moving, .int v_movingMany, .int v_foundIncome, .int v_foundMoves])), (a_a, .inl (cI, 180, .inl v_a)), (a_kept, .inl (cI, 1080, .inl v_kept))] H locs → lv_has ls 6 [(0, .ref a_this), (1, .int x1), (2, .int x2), (3, .int x3), (4, .int x4)] → W p l e rmX6_addTrader s m args below meth c H locs 0 0 (MQ below (zQi D (zT cI cZ cM) res.1 [(a_this, .inr (6, [.ref a_a, .ref a_fresh, .ref a_kept, .int res.2.2.2.1, .int res.2.2.2.2, .ref a_buffer, .int v_buffered, .int v_size, .int v_at, .int v_behind, .int v_kind, .int v_wrong, .int v_wrongAt, .int v_errorAt, .long v_number, .ref a_best, .ref a_rentBy, .ref a_bareBy, .ref a_aheadBy, .ref a_isEdge, .ref a_tried, .ref a_stands, .ref a_found, .ref a_foundOn, .ref a_moving, .int v_movingMany, .int v_foundIncome, .int v_foundMoves])), (a_a, .inl (cI, 180, .inl res.2.1)), (a_kept, .inl (cI, 1080, .inl res.2.2.1))] A) args s 0 0 A) (F0 m 37 ls [.ref a_this]) := by
  obtain ⟨⟨hx, hb, hml, hown, hts⟩, hr, hlocks⟩ := id E
  intro x1 x2 x3 x4 v_a v_kept v_keptMany v_thrown hf H locs ls hw hl
  unfold f_X6_addTrader_37 at hf
  refine lv_iconst (v := 1) hx hb dX6_addTrader_37 (by decide) ?_
  refine lv_goto (tgt := 58) hx hb dX6_addTrader_38 (by decide) ?_
  exact w_X6_addTrader_58 E  _ _ _ _ _ _ _ _ _ hf _ _ _ hw (lv_sub hl [0, 1, 2, 3, 4] rfl)
set_option maxHeartbeats 4000000 in
set_option maxRecDepth 100000 in
theorem c_X6_addTrader {l : Launch} {D : va_G} {cI cZ cM : ClassId} {a_this a_a a_fresh a_kept a_buffer a_best a_rentBy a_bareBy a_aheadBy a_isEdge a_tried a_stands a_found a_foundOn a_moving : Nat} {v_buffered : Int32} {v_size : Int32} {v_at : Int32} {v_behind : Int32} {v_kind : Int32} {v_wrong : Int32} {v_wrongAt : Int32} {v_errorAt : Int32} {v_number : Int64} {v_movingMany : Int32} {v_foundIncome : Int32} {v_foundMoves : Int32} {res : Int32 × (Nat → Int32) × (Nat → Int32) × Int32 × Int32} {sz : Nat} {n : Nat} {v_a : Nat → Int32} {v_kept : Nat → Int32} {v_keptMany : Int32} {v_thrown : Int32} {x1 : Int32} {x2 : Int32} {x3 : Int32} {x4 : Int32} (hf : f_X6_addTrader n v_a v_kept v_keptMany v_thrown x1 x2 x3 x4 = some res) : Met l yX6_addTrader zwX6_addTrader rmX6_addTrader (zPc D (zT cI cZ cM) [.ref a_this, .int x1, .int x2, .int x3, .int x4] [(a_this, .inr (6, [.ref a_a, .ref a_fresh, .ref a_kept, .int v_keptMany, .int v_thrown, .ref a_buffer, .int v_buffered, .int v_size, .int v_at, .int v_behind, .int v_kind, .int v_wrong, .int v_wrongAt, .int v_errorAt, .long v_number, .ref a_best, .ref a_rentBy, .ref a_bareBy, .ref a_aheadBy, .ref a_isEdge, .ref a_tried, .ref a_stands, .ref a_found, .ref a_foundOn, .ref a_moving, .int v_movingMany, .int v_foundIncome, .int v_foundMoves])), (a_a, .inl (cI, 180, .inl v_a)), (a_kept, .inl (cI, 1080, .inl v_kept))] sz) (zQi D (zT cI cZ cM) res.1 [(a_this, .inr (6, [.ref a_a, .ref a_fresh, .ref a_kept, .int res.2.2.2.1, .int res.2.2.2.2, .ref a_buffer, .int v_buffered, .int v_size, .int v_at, .int v_behind, .int v_kind, .int v_wrong, .int v_wrongAt, .int v_errorAt, .long v_number, .ref a_best, .ref a_rentBy, .ref a_bareBy, .ref a_aheadBy, .ref a_isEdge, .ref a_tried, .ref a_stands, .ref a_found, .ref a_foundOn, .ref a_moving, .int v_movingMany, .int v_foundIncome, .int v_foundMoves])), (a_a, .inl (cI, 180, .inl res.2.1)), (a_kept, .inl (cI, 1080, .inl res.2.2.1))] (va_A [(a_this, .inr (6, [.ref a_a, .ref a_fresh, .ref a_kept, .int v_keptMany, .int v_thrown, .ref a_buffer, .int v_buffered, .int v_size, .int v_at, .int v_behind, .int v_kind, .int v_wrong, .int v_wrongAt, .int v_errorAt, .long v_number, .ref a_best, .ref a_rentBy, .ref a_bareBy, .ref a_aheadBy, .ref a_isEdge, .ref a_tried, .ref a_stands, .ref a_found, .ref a_foundOn, .ref a_moving, .int v_movingMany, .int v_foundIncome, .int v_foundMoves])), (a_a, .inl (cI, 180, .inl v_a)), (a_kept, .inl (cI, 1080, .inl v_kept))] sz)) 0 0 (va_A [(a_this, .inr (6, [.ref a_a, .ref a_fresh, .ref a_kept, .int v_keptMany, .int v_thrown, .ref a_buffer, .int v_buffered, .int v_size, .int v_at, .int v_behind, .int v_kind, .int v_wrong, .int v_wrongAt, .int v_errorAt, .long v_number, .ref a_best, .ref a_rentBy, .ref a_bareBy, .ref a_aheadBy, .ref a_isEdge, .ref a_tried, .ref a_stands, .ref a_found, .ref a_foundOn, .ref a_moving, .int v_movingMany, .int v_foundIncome, .int v_foundMoves])), (a_a, .inl (cI, 180, .inl v_a)), (a_kept, .inl (cI, 1080, .inl v_kept))] sz) := by
  refine z_met (cc := cX6_addTrader) (maxL := 6) (ret := (some .int)) (by decide) rfl (Nat.le_of_ble_eq_true rfl) ?_
  intro p e s m below meth c ls E hsz hw hl
  obtain ⟨⟨hx, hb, hml, hown, hts⟩, hr, hlocks⟩ := id E
  have hl : lv_has ls 6 [(0, .ref a_this), (1, .int x1), (2, .int x2), (3, .int x3), (4, .int x4)] := hl
  unfold f_X6_addTrader at hf
  refine lv_aload_n hx hb dX6_addTrader_0 rfl (lv_at hl 0 rfl) ?_
  refine lv_iload_n hx hb dX6_addTrader_1 rfl (lv_at hl 1 rfl) ?_
  refine lv_i2l hx hb dX6_addTrader_2 rfl ?_
  refine lv_lconst (v := 0) hx hb dX6_addTrader_3 (by decide) ?_
  refine lv_ldc2 (v := 7) hx hb hown (hts _ mw_591) dX6_addTrader_4 ?_
  obtain ⟨r_17, h_18, hf⟩ := oB_elim hf
  refine z_callSi (ws' := [(a_this, .inr (6, [.ref a_a, .ref a_fresh, .ref a_kept, .int v_keptMany, .int v_thrown, .ref a_buffer, .int v_buffered, .int v_size, .int v_at, .int v_behind, .int v_kind, .int v_wrong, .int v_wrongAt, .int v_errorAt, .long v_number, .ref a_best, .ref a_rentBy, .ref a_bareBy, .ref a_aheadBy, .ref a_isEdge, .ref a_tried, .ref a_stands, .ref a_found, .ref a_foundOn, .ref a_moving, .int v_movingMany, .int v_foundIncome, .int v_foundMoves])), (a_a, .inl (cI, 180, .inl v_a)), (a_kept, .inl (cI, 1080, .inl v_kept))]) (wr := [(a_this, .inr (6, [.ref a_a, .ref a_fresh, .ref a_kept, .int v_keptMany, .int v_thrown, .ref a_buffer, .int v_buffered, .int v_size, .int v_at, .int v_behind, .int v_kind, .int v_wrong, .int v_wrongAt, .int v_errorAt, .long v_number, .ref a_best, .ref a_rentBy, .ref a_bareBy, .ref a_aheadBy, .ref a_isEdge, .ref a_tried, .ref a_stands, .ref a_found, .ref a_foundOn, .ref a_moving, .int v_movingMany, .int v_foundIncome, .int v_foundMoves])), (a_a, .inl (cI, 180, .inl v_a)), (a_kept, .inl (cI, 1080, .inl v_kept))]) (As := [.long ((x1).toInt64), .long (0 : Int64), .long (7 : Int64)]) (rest := [.ref a_this]) E.1 hl hw (c_X6_isIn h_18) (va_cwS 3 hts (z_gS mw_596 mw_597 mw_598 mw_599) rfl rfl rfl (by decide +kernel) ⟨(Nat.le_of_ble_eq_true rfl), (Nat.le_of_ble_eq_true rfl)⟩) [] [0, 1, 2] rfl rfl rfl rfl rfl rfl rfl rfl (Nat.le_of_ble_eq_true rfl) dX6_addTrader_7 ⟨Nat.le_of_ble_eq_true rfl, Nat.le_of_ble_eq_true rfl⟩ (fun H locs hw => ?_)
  refine lv_if_eq (tgt := 37) hx hb dX6_addTrader_10 (by decide) (fun hc => ?_) (fun hc => ?_)
  · have hf := oI_pos hc hf
    exact w_X6_addTrader_37 E  _ _ _ _ _ _ _ _ hf _ _ _ hw (lv_sub hl [0, 1, 2, 3, 4] rfl)
  · have hf := oI_neg hc hf
    refine lv_iload_n hx hb dX6_addTrader_13 rfl (lv_at hl 2 rfl) ?_
    refine lv_i2l hx hb dX6_addTrader_14 rfl ?_
    refine lv_lconst (v := 1) hx hb dX6_addTrader_15 (by decide) ?_
    refine lv_ldc2 (v := 3) hx hb hown (hts _ mw_592) dX6_addTrader_16 ?_
    obtain ⟨r_19, h_20, hf⟩ := oB_elim hf
    refine z_callSi (ws' := [(a_this, .inr (6, [.ref a_a, .ref a_fresh, .ref a_kept, .int v_keptMany, .int v_thrown, .ref a_buffer, .int v_buffered, .int v_size, .int v_at, .int v_behind, .int v_kind, .int v_wrong, .int v_wrongAt, .int v_errorAt, .long v_number, .ref a_best, .ref a_rentBy, .ref a_bareBy, .ref a_aheadBy, .ref a_isEdge, .ref a_tried, .ref a_stands, .ref a_found, .ref a_foundOn, .ref a_moving, .int v_movingMany, .int v_foundIncome, .int v_foundMoves])), (a_a, .inl (cI, 180, .inl v_a)), (a_kept, .inl (cI, 1080, .inl v_kept))]) (wr := [(a_this, .inr (6, [.ref a_a, .ref a_fresh, .ref a_kept, .int v_keptMany, .int v_thrown, .ref a_buffer, .int v_buffered, .int v_size, .int v_at, .int v_behind, .int v_kind, .int v_wrong, .int v_wrongAt, .int v_errorAt, .long v_number, .ref a_best, .ref a_rentBy, .ref a_bareBy, .ref a_aheadBy, .ref a_isEdge, .ref a_tried, .ref a_stands, .ref a_found, .ref a_foundOn, .ref a_moving, .int v_movingMany, .int v_foundIncome, .int v_foundMoves])), (a_a, .inl (cI, 180, .inl v_a)), (a_kept, .inl (cI, 1080, .inl v_kept))]) (As := [.long ((x2).toInt64), .long (1 : Int64), .long (3 : Int64)]) (rest := [.ref a_this]) E.1 hl hw (c_X6_isIn h_20) (va_cwS 3 hts (z_gS mw_596 mw_597 mw_598 mw_599) rfl rfl rfl (by decide +kernel) ⟨(Nat.le_of_ble_eq_true rfl), (Nat.le_of_ble_eq_true rfl)⟩) [] [0, 1, 2] rfl rfl rfl rfl rfl rfl rfl rfl (Nat.le_of_ble_eq_true rfl) dX6_addTrader_19 ⟨Nat.le_of_ble_eq_true rfl, Nat.le_of_ble_eq_true rfl⟩ (fun H locs hw => ?_)
    refine lv_if_eq (tgt := 37) hx hb dX6_addTrader_22 (by decide) (fun hc => ?_) (fun hc => ?_)
    · have hf := oI_pos hc hf
      exact w_X6_addTrader_37 E  _ _ _ _ _ _ _ _ hf _ _ _ hw (lv_sub hl [0, 1, 2, 3, 4] rfl)
    · have hf := oI_neg hc hf
      refine lv_iload_n hx hb dX6_addTrader_25 rfl (lv_at hl 3 rfl) ?_
      refine lv_i2l hx hb dX6_addTrader_26 rfl ?_
      refine lv_lconst (v := 1) hx hb dX6_addTrader_27 (by decide) ?_
      refine lv_ldc2 (v := 9999) hx hb hown (hts _ mw_593) dX6_addTrader_28 ?_
      obtain ⟨r_21, h_22, hf⟩ := oB_elim hf
      refine z_callSi (ws' := [(a_this, .inr (6, [.ref a_a, .ref a_fresh, .ref a_kept, .int v_keptMany, .int v_thrown, .ref a_buffer, .int v_buffered, .int v_size, .int v_at, .int v_behind, .int v_kind, .int v_wrong, .int v_wrongAt, .int v_errorAt, .long v_number, .ref a_best, .ref a_rentBy, .ref a_bareBy, .ref a_aheadBy, .ref a_isEdge, .ref a_tried, .ref a_stands, .ref a_found, .ref a_foundOn, .ref a_moving, .int v_movingMany, .int v_foundIncome, .int v_foundMoves])), (a_a, .inl (cI, 180, .inl v_a)), (a_kept, .inl (cI, 1080, .inl v_kept))]) (wr := [(a_this, .inr (6, [.ref a_a, .ref a_fresh, .ref a_kept, .int v_keptMany, .int v_thrown, .ref a_buffer, .int v_buffered, .int v_size, .int v_at, .int v_behind, .int v_kind, .int v_wrong, .int v_wrongAt, .int v_errorAt, .long v_number, .ref a_best, .ref a_rentBy, .ref a_bareBy, .ref a_aheadBy, .ref a_isEdge, .ref a_tried, .ref a_stands, .ref a_found, .ref a_foundOn, .ref a_moving, .int v_movingMany, .int v_foundIncome, .int v_foundMoves])), (a_a, .inl (cI, 180, .inl v_a)), (a_kept, .inl (cI, 1080, .inl v_kept))]) (As := [.long ((x3).toInt64), .long (1 : Int64), .long (9999 : Int64)]) (rest := [.ref a_this]) E.1 hl hw (c_X6_isIn h_22) (va_cwS 3 hts (z_gS mw_596 mw_597 mw_598 mw_599) rfl rfl rfl (by decide +kernel) ⟨(Nat.le_of_ble_eq_true rfl), (Nat.le_of_ble_eq_true rfl)⟩) [] [0, 1, 2] rfl rfl rfl rfl rfl rfl rfl rfl (Nat.le_of_ble_eq_true rfl) dX6_addTrader_31 ⟨Nat.le_of_ble_eq_true rfl, Nat.le_of_ble_eq_true rfl⟩ (fun H locs hw => ?_)
      refine lv_if_ne (tgt := 41) hx hb dX6_addTrader_34 (by decide) (fun hc => ?_) (fun hc => ?_)
      · have hf := oI_neg hc hf
        refine lv_aload_n hx hb dX6_addTrader_41 rfl (lv_at hl 0 rfl) ?_
        refine z_get E.1 hw in_wsX60 0 rfl rfl 0 (z_lt rfl) mw_594 (v := .ref a_a) rfl dX6_addTrader_42 ?_
        refine lv_bipush (v := 74) hx hb dX6_addTrader_45 (by decide) ?_
        obtain ⟨h_23, hf⟩ := oA_elim hf
        refine z_iald E.1 hw 1 0 rfl rfl h_23 dX6_addTrader_47 ?_
        refine lv_bipush (v := 8) hx hb dX6_addTrader_48 (by decide) ?_
        refine lv_icmp_ne (tgt := 57) hx hb dX6_addTrader_50 (by decide) (fun hc => ?_) (fun hc => ?_)
        · have hf := oI_neg hc hf
          refine lv_iconst (v := 0) hx hb dX6_addTrader_57 (by decide) ?_
          exact w_X6_addTrader_58 E  _ _ _ _ _ _ _ _ _ hf _ _ _ hw (lv_sub hl [0, 1, 2, 3, 4] rfl)
        · have hf := oI_pos hc hf
          refine lv_iconst (v := 2) hx hb dX6_addTrader_53 (by decide) ?_
          refine lv_goto (tgt := 58) hx hb dX6_addTrader_54 (by decide) ?_
          exact w_X6_addTrader_58 E  _ _ _ _ _ _ _ _ _ hf _ _ _ hw (lv_sub hl [0, 1, 2, 3, 4] rfl)
      · have hf := oI_pos hc hf
        exact w_X6_addTrader_37 E  _ _ _ _ _ _ _ _ hf _ _ _ hw (lv_sub hl [0, 1, 2, 3, 4] rfl)
end
/-! X6_append -/
section
variable {p : Program} {l : Launch} {e : Env} {s : State} {m : MethodId} {args : Array Value} {below : List Frame} {meth : Method} {c : Code} {D : va_G} {A : Nat → Prop} {cI cZ cM : ClassId} {a_this a_a a_fresh a_kept a_buffer a_best a_rentBy a_bareBy a_aheadBy a_isEdge a_tried a_stands a_found a_foundOn a_moving : Nat} {v_keptMany : Int32} {v_size : Int32} {v_at : Int32} {v_behind : Int32} {v_kind : Int32} {v_wrong : Int32} {v_wrongAt : Int32} {v_errorAt : Int32} {v_number : Int64} {v_movingMany : Int32} {v_foundIncome : Int32} {v_foundMoves : Int32} {res : Int32 × Int32 × (Nat → Int32) × Int32}
def rmX6_append : Room := { frames := 0, cells := 0, slots := 0, locals := 0 }
abbrev zwX6_append : List Cond := Cond.code yX6_append cX6_append 8 (some .int) :: wsAll
set_option maxHeartbeats 4000000 in
set_option maxRecDepth 100000 in
theorem w_X6_append_87 {n : Nat} (E : zE p s m args meth c cX6_append 8 (some .int) zwX6_append RX6) {k34 : Int32 → Int32 → Int32 → Int32 → Int32 → Int32 → Int32 → (Nat → Int32) → Int32 → Option (Int32 × Int32 × (Nat → Int32) × Int32)} (hk34 : ∀ (x1 : Int32) (x2 : Int32) (x3 : Int32) (x4 : Int32) (x5 : Int32) (x6 : Int32) (v_thrown : Int32) (v_buffer : Nat → Int32) (v_buffered : Int32), k34 x1 x2 x3 x4 x5 x6 v_thrown v_buffer v_buffered = some res → ∀ (H : Heap) (locs : List Loc) (ls : Array Slot), zW D (zT cI cZ cM) A s [(a_this, .inr (6, [.ref a_a, .ref a_fresh, .ref a_kept, .int v_keptMany, .int v_thrown, .ref a_buffer, .int v_buffered, .int v_size, .int v_at, .int v_behind, .int v_kind, .int v_wrong, .int v_wrongAt, .int v_errorAt, .long v_number, .ref a_best, .ref a_rentBy, .ref a_bareBy, .ref a_aheadBy, .ref a_isEdge, .ref a_tried, .ref a_stands, .ref a_found, .ref a_foundOn, .ref a_moving, .int v_movingMany, .int v_foundIncome, .int v_foundMoves])), (a_buffer, .inl (cI, 600, .inl v_buffer))] H locs → lv_has ls 8 [(0, .ref a_this), (1, .int x1), (2, .int x2), (3, .int x3), (4, .int x4), (5, .int x5), (6, .int x6)] → W p l e rmX6_append s m args below meth c H locs 0 0 (MQ below (zQi D (zT cI cZ cM) res.1 [(a_this, .inr (6, [.ref a_a, .ref a_fresh, .ref a_kept, .int v_keptMany, .int res.2.1, .ref a_buffer, .int res.2.2.2, .int v_size, .int v_at, .int v_behind, .int v_kind, .int v_wrong, .int v_wrongAt, .int v_errorAt, .long v_number, .ref a_best, .ref a_rentBy, .ref a_bareBy, .ref a_aheadBy, .ref a_isEdge, .ref a_tried, .ref a_stands, .ref a_found, .ref a_foundOn, .ref a_moving, .int v_movingMany, .int v_foundIncome, .int v_foundMoves])), (a_buffer, .inl (cI, 600, .inl res.2.2.1))] A) args s 0 0 A) (F0 m 34 ls [])) : ∀ (t0 : Int32) (x1 : Int32) (x2 : Int32) (x3 : Int32) (x4 : Int32) (x5 : Int32) (x6 : Int32) (v_thrown : Int32) (v_buffer : Nat → Int32) (v_buffered : Int32), f_X6_append_87 n k34 t0 x1 x2 x3 x4 x5 x6 v_thrown v_buffer v_buffered = some res → ∀ (H : Heap) (locs : List Loc) (ls : Array Slot), zW D (zT cI cZ cM) A s [(a_this, .inr (6, [.ref a_a, .ref a_fresh, .ref a_kept, .int v_keptMany, .int v_thrown, .ref a_buffer, .int v_buffered, .int v_size, .int v_at, .int v_behind, .int v_kind, .int v_wrong, .int v_wrongAt, .int v_errorAt, .long v_number, .ref a_best, .ref a_rentBy, .ref a_bareBy, .ref a_aheadBy, .ref a_isEdge, .ref a_tried, .ref a_stands, .ref a_found, .ref a_foundOn, .ref a_moving, .int v_movingMany, .int v_foundIncome, .int v_foundMoves])), (a_buffer, .inl (cI, 600, .inl v_buffer))] H locs → lv_has ls 8 [(0, .ref a_this), (1, .int x1), (2, .int x2), (3, .int x3), (4, .int x4), (5, .int x5), (6, .int x6)] → W p l e rmX6_append s m args below meth c H locs 0 0 (MQ below (zQi D (zT cI cZ cM) res.1 [(a_this, .inr (6, [.ref a_a, .ref a_fresh, .ref a_kept, .int v_keptMany, .int res.2.1, .ref a_buffer, .int res.2.2.2, .int v_size, .int v_at, .int v_behind, .int v_kind, .int v_wrong, .int v_wrongAt, .int v_errorAt, .long v_number, .ref a_best, .ref a_rentBy, .ref a_bareBy, .ref a_aheadBy, .ref a_isEdge, .ref a_tried, .ref a_stands, .ref a_found, .ref a_foundOn, .ref a_moving, .int v_movingMany, .int v_foundIncome, .int v_foundMoves])), (a_buffer, .inl (cI, 600, .inl res.2.2.1))] A) args s 0 0 A) (F0 m 87 ls [.int t0]) := by
  obtain ⟨⟨hx, hb, hml, hown, hts⟩, hr, hlocks⟩ := id E
  intro t0 x1 x2 x3 x4 x5 x6 v_thrown v_buffer v_buffered hf H locs ls hw hl
  unfold f_X6_append_87 at hf
  refine lv_istore (lv' := [(7, .int t0), (0, .ref a_this), (1, .int x1), (2, .int x2), (3, .int x3), (4, .int x4), (5, .int x5), (6, .int x6)]) hx hb dX6_append_87 hl (z_lt rfl) rfl (fun ls hl => ?_)
  refine lv_aload_n hx hb dX6_append_89 rfl (lv_at hl 1 rfl) ?_
  refine z_get E.1 hw in_wsX60 0 rfl rfl 5 (z_lt rfl) mw_608 (v := .ref a_buffer) rfl dX6_append_90 ?_
  refine lv_aload_n hx hb dX6_append_93 rfl (lv_at hl 1 rfl) ?_
  refine z_get E.1 hw in_wsX60 0 rfl rfl 6 (z_lt rfl) mw_607 (v := .int v_buffered) rfl dX6_append_94 ?_
  refine lv_iload hx hb dX6_append_97 (lv_at hl 0 rfl) ?_
  refine lv_bipush (v := 24) hx hb dX6_append_99 (by decide) ?_
  refine lv_bipush (v := 8) hx hb dX6_append_101 (by decide) ?_
  refine lv_iload hx hb dX6_append_103 (lv_at hl 7 rfl) ?_
  refine lv_iconst (v := 4) hx hb dX6_append_105 (by decide) ?_
  refine lv_irem hx hb dX6_append_106 (by decide) ?_
  refine lv_imul hx hb dX6_append_107 ?_
  refine lv_isub hx hb dX6_append_108 ?_
  refine lv_ishr hx hb dX6_append_109 ?_
  refine lv_sipush (v := 255) hx hb dX6_append_110 (by decide) ?_
  refine lv_iand hx hb dX6_append_113 ?_
  obtain ⟨h_1, hf⟩ := oA_elim hf
  obtain ⟨v_2, e_v_2, hf⟩ := oL_elim hf
  refine z_iast (ws' := [(a_this, .inr (6, [.ref a_a, .ref a_fresh, .ref a_kept, .int v_keptMany, .int v_thrown, .ref a_buffer, .int v_buffered, .int v_size, .int v_at, .int v_behind, .int v_kind, .int v_wrong, .int v_wrongAt, .int v_errorAt, .long v_number, .ref a_best, .ref a_rentBy, .ref a_bareBy, .ref a_aheadBy, .ref a_isEdge, .ref a_tried, .ref a_stands, .ref a_found, .ref a_foundOn, .ref a_moving, .int v_movingMany, .int v_foundIncome, .int v_foundMoves])), (a_buffer, .inl (cI, 600, .inl v_2))]) E.1 hw 1 0 rfl rfl h_1 (by subst e_v_2; rfl) dX6_append_114 (fun H locs hw => ?_)
  refine lv_aload_n hx hb dX6_append_115 rfl (lv_at hl 1 rfl) ?_
  refine lv_dup hx hb dX6_append_116 rfl ?_
  refine z_get E.1 hw in_wsX60 0 rfl rfl 6 (z_lt rfl) mw_607 (v := .int v_buffered) rfl dX6_append_117 ?_
  refine lv_iconst (v := 1) hx hb dX6_append_120 (by decide) ?_
  refine lv_iadd hx hb dX6_append_121 ?_
  obtain ⟨y_3, e_y_3, hf⟩ := oL_elim hf
  refine z_top e_y_3 ?_
  refine z_put (ws' := [(a_this, .inr (6, [.ref a_a, .ref a_fresh, .ref a_kept, .int v_keptMany, .int v_thrown, .ref a_buffer, .int y_3, .int v_size, .int v_at, .int v_behind, .int v_kind, .int v_wrong, .int v_wrongAt, .int v_errorAt, .long v_number, .ref a_best, .ref a_rentBy, .ref a_bareBy, .ref a_aheadBy, .ref a_isEdge, .ref a_tried, .ref a_stands, .ref a_found, .ref a_foundOn, .ref a_moving, .int v_movingMany, .int v_foundIncome, .int v_foundMoves])), (a_buffer, .inl (cI, 600, .inl v_2))]) E.1 hw in_wsX60 tyX6 tyX6_ok nmX6 0 rfl rfl 6 (z_lt rfl) mw_607 rfl rfl rfl (z_lt rfl) rfl dX6_append_122 (fun H locs hw => ?_)
  refine lv_iinc (v := (x6 + (1 : Int32))) (lv' := [(6, .int (x6 + (1 : Int32))), (7, .int t0), (0, .ref a_this), (1, .int x1), (2, .int x2), (3, .int x3), (4, .int x4), (5, .int x5)]) hx hb dX6_append_125 hl (k := 7) rfl rfl (z_lt rfl) rfl (fun ls hl => ?_)
  refine lv_goto (tgt := 34) hx hb dX6_append_128 (by decide) ?_
  exact hk34 _ _ _ _ _ _ _ _ _ hf _ _ _ hw (lv_sub hl [2, 3, 4, 5, 6, 7, 0] rfl)
set_option maxHeartbeats 4000000 in
set_option maxRecDepth 100000 in
theorem w_X6_append_34 {n : Nat} (E : zE p s m args meth c cX6_append 8 (some .int) zwX6_append RX6) : ∀ (fu : Nat), ∀ (x1 : Int32) (x2 : Int32) (x3 : Int32) (x4 : Int32) (x5 : Int32) (x6 : Int32) (v_thrown : Int32) (v_buffer : Nat → Int32) (v_buffered : Int32), f_X6_append_34 n fu x1 x2 x3 x4 x5 x6 v_thrown v_buffer v_buffered = some res → ∀ (H : Heap) (locs : List Loc) (ls : Array Slot), zW D (zT cI cZ cM) A s [(a_this, .inr (6, [.ref a_a, .ref a_fresh, .ref a_kept, .int v_keptMany, .int v_thrown, .ref a_buffer, .int v_buffered, .int v_size, .int v_at, .int v_behind, .int v_kind, .int v_wrong, .int v_wrongAt, .int v_errorAt, .long v_number, .ref a_best, .ref a_rentBy, .ref a_bareBy, .ref a_aheadBy, .ref a_isEdge, .ref a_tried, .ref a_stands, .ref a_found, .ref a_foundOn, .ref a_moving, .int v_movingMany, .int v_foundIncome, .int v_foundMoves])), (a_buffer, .inl (cI, 600, .inl v_buffer))] H locs → lv_has ls 8 [(0, .ref a_this), (1, .int x1), (2, .int x2), (3, .int x3), (4, .int x4), (5, .int x5), (6, .int x6)] → W p l e rmX6_append s m args below meth c H locs 0 0 (MQ below (zQi D (zT cI cZ cM) res.1 [(a_this, .inr (6, [.ref a_a, .ref a_fresh, .ref a_kept, .int v_keptMany, .int res.2.1, .ref a_buffer, .int res.2.2.2, .int v_size, .int v_at, .int v_behind, .int v_kind, .int v_wrong, .int v_wrongAt, .int v_errorAt, .long v_number, .ref a_best, .ref a_rentBy, .ref a_bareBy, .ref a_aheadBy, .ref a_isEdge, .ref a_tried, .ref a_stands, .ref a_found, .ref a_foundOn, .ref a_moving, .int v_movingMany, .int v_foundIncome, .int v_foundMoves])), (a_buffer, .inl (cI, 600, .inl res.2.2.1))] A) args s 0 0 A) (F0 m 34 ls []) := by
  obtain ⟨⟨hx, hb, hml, hown, hts⟩, hr, hlocks⟩ := id E
  intro fu
  induction fu with
  | zero => intro x1 x2 x3 x4 x5 x6 v_thrown v_buffer v_buffered hf; rw [f_X6_append_34.eq_1] at hf; cases hf
  | succ fu ih =>
    intro x1 x2 x3 x4 x5 x6 v_thrown v_buffer v_buffered hf H locs ls hw hl
    rw [f_X6_append_34.eq_2] at hf
    refine lv_iload hx hb dX6_append_34 (lv_at hl 6 rfl) ?_
    refine lv_bipush (v := 20) hx hb dX6_append_36 (by decide) ?_
    refine lv_icmp_ge (tgt := 131) hx hb dX6_append_38 (by decide) (fun hc => ?_) (fun hc => ?_)
    · have hf := oI_pos hc hf
      refine lv_aload_n hx hb dX6_append_131 rfl (lv_at hl 0 rfl) ?_
      refine z_get E.1 hw in_wsX60 0 rfl rfl 6 (z_lt rfl) mw_607 (v := .int v_buffered) rfl dX6_append_132 ?_
      cases hf
      exact z_iret E rfl hw dX6_append_135
    · have hf := oI_neg hc hf
      refine lv_iload hx hb dX6_append_41 (lv_at hl 6 rfl) ?_
      refine lv_iconst (v := 4) hx hb dX6_append_43 (by decide) ?_
      refine lv_icmp_ge (tgt := 51) hx hb dX6_append_44 (by decide) (fun hc => ?_) (fun hc => ?_)
      · have hf := oI_pos hc hf
        refine lv_iload hx hb dX6_append_51 (lv_at hl 6 rfl) ?_
        refine lv_bipush (v := 8) hx hb dX6_append_53 (by decide) ?_
        refine lv_icmp_ge (tgt := 62) hx hb dX6_append_55 (by decide) (fun hc => ?_) (fun hc => ?_)
        · have hf := oI_pos hc hf
          refine lv_iload hx hb dX6_append_62 (lv_at hl 6 rfl) ?_
          refine lv_bipush (v := 12) hx hb dX6_append_64 (by decide) ?_
          refine lv_icmp_ge (tgt := 73) hx hb dX6_append_66 (by decide) (fun hc => ?_) (fun hc => ?_)
          · have hf := oI_pos hc hf
            refine lv_iload hx hb dX6_append_73 (lv_at hl 6 rfl) ?_
            refine lv_bipush (v := 16) hx hb dX6_append_75 (by decide) ?_
            refine lv_icmp_ge (tgt := 85) hx hb dX6_append_77 (by decide) (fun hc => ?_) (fun hc => ?_)
            · have hf := oI_pos hc hf
              refine lv_iload hx hb dX6_append_85 (lv_at hl 5 rfl) ?_
              exact w_X6_append_87 E ih _ _ _ _ _ _ _ _ _ _ hf _ _ _ hw (lv_sub hl [0, 1, 2, 3, 4, 5, 6] rfl)
            · have hf := oI_neg hc hf
              refine lv_iload hx hb dX6_append_80 (lv_at hl 4 rfl) ?_
              refine lv_goto (tgt := 87) hx hb dX6_append_82 (by decide) ?_
              exact w_X6_append_87 E ih _ _ _ _ _ _ _ _ _ _ hf _ _ _ hw (lv_sub hl [0, 1, 2, 3, 4, 5, 6] rfl)
          · have hf := oI_neg hc hf
            refine lv_iload_n hx hb dX6_append_69 rfl (lv_at hl 3 rfl) ?_
            refine lv_goto (tgt := 87) hx hb dX6_append_70 (by decide) ?_
            exact w_X6_append_87 E ih _ _ _ _ _ _ _ _ _ _ hf _ _ _ hw (lv_sub hl [0, 1, 2, 3, 4, 5, 6] rfl)
        · have hf := oI_neg hc hf
          refine lv_iload_n hx hb dX6_append_58 rfl (lv_at hl 2 rfl) ?_
          refine lv_goto (tgt := 87) hx hb dX6_append_59 (by decide) ?_
          exact w_X6_append_87 E ih _ _ _ _ _ _ _ _ _ _ hf _ _ _ hw (lv_sub hl [0, 1, 2, 3, 4, 5, 6] rfl)
      · have hf := oI_neg hc hf
        refine lv_iload_n hx hb dX6_append_47 rfl (lv_at hl 1 rfl) ?_
        refine lv_goto (tgt := 87) hx hb dX6_append_48 (by decide) ?_
        exact w_X6_append_87 E ih _ _ _ _ _ _ _ _ _ _ hf _ _ _ hw (lv_sub hl [0, 1, 2, 3, 4, 5, 6] rfl)
set_option maxHeartbeats 4000000 in
set_option maxRecDepth 100000 in
theorem w_X6_append_19 {n : Nat} (E : zE p s m args meth c cX6_append 8 (some .int) zwX6_append RX6) : ∀ (t1 : Int32) (x1 : Int32) (x2 : Int32) (x3 : Int32) (x4 : Int32) (x5 : Int32) (v_thrown : Int32) (v_buffer : Nat → Int32) (v_buffered : Int32), f_X6_append_19 n t1 x1 x2 x3 x4 x5 v_thrown v_buffer v_buffered = some res → ∀ (H : Heap) (locs : List Loc) (ls : Array Slot), zW D (zT cI cZ cM) A s [(a_this, .inr (6, [.ref a_a, .ref a_fresh, .ref a_kept, .int v_keptMany, .int v_thrown, .ref a_buffer, .int v_buffered, .int v_size, .int v_at, .int v_behind, .int v_kind, .int v_wrong, .int v_wrongAt, .int v_errorAt, .long v_number, .ref a_best, .ref a_rentBy, .ref a_bareBy, .ref a_aheadBy, .ref a_isEdge, .ref a_tried, .ref a_stands, .ref a_found, .ref a_foundOn, .ref a_moving, .int v_movingMany, .int v_foundIncome, .int v_foundMoves])), (a_buffer, .inl (cI, 600, .inl v_buffer))] H locs → lv_has ls 8 [(0, .ref a_this), (1, .int x1), (2, .int x2), (3, .int x3), (4, .int x4), (5, .int x5)] → W p l e rmX6_append s m args below meth c H locs 0 0 (MQ below (zQi D (zT cI cZ cM) res.1 [(a_this, .inr (6, [.ref a_a, .ref a_fresh, .ref a_kept, .int v_keptMany, .int res.2.1, .ref a_buffer, .int res.2.2.2, .int v_size, .int v_at, .int v_behind, .int v_kind, .int v_wrong, .int v_wrongAt, .int v_errorAt, .long v_number, .ref a_best, .ref a_rentBy, .ref a_bareBy, .ref a_aheadBy, .ref a_isEdge, .ref a_tried, .ref a_stands, .ref a_found, .ref a_foundOn, .ref a_moving, .int v_movingMany, .int v_foundIncome, .int v_foundMoves])), (a_buffer, .inl (cI, 600, .inl res.2.2.1))] A) args s 0 0 A) (F0 m 19 ls [.int t1, .ref a_this]) := by
  obtain ⟨⟨hx, hb, hml, hown, hts⟩, hr, hlocks⟩ := id E
  intro t1 x1 x2 x3 x4 x5 v_thrown v_buffer v_buffered hf H locs ls hw hl
  unfold f_X6_append_19 at hf
  refine z_put (ws' := [(a_this, .inr (6, [.ref a_a, .ref a_fresh, .ref a_kept, .int v_keptMany, .int t1, .ref a_buffer, .int v_buffered, .int v_size, .int v_at, .int v_behind, .int v_kind, .int v_wrong, .int v_wrongAt, .int v_errorAt, .long v_number, .ref a_best, .ref a_rentBy, .ref a_bareBy, .ref a_aheadBy, .ref a_isEdge, .ref a_tried, .ref a_stands, .ref a_found, .ref a_foundOn, .ref a_moving, .int v_movingMany, .int v_foundIncome, .int v_foundMoves])), (a_buffer, .inl (cI, 600, .inl v_buffer))]) E.1 hw in_wsX60 tyX6 tyX6_ok nmX6 0 rfl rfl 4 (z_lt rfl) mw_595 rfl rfl rfl (z_lt rfl) rfl dX6_append_19 (fun H locs hw => ?_)
  refine lv_aload_n hx hb dX6_append_22 rfl (lv_at hl 0 rfl) ?_
  refine z_get E.1 hw in_wsX60 0 rfl rfl 4 (z_lt rfl) mw_595 (v := .int t1) rfl dX6_append_23 ?_
  refine lv_if_le (tgt := 31) hx hb dX6_append_26 (by decide) (fun hc => ?_) (fun hc => ?_)
  · have hf := oI_pos hc hf
    refine lv_iconst (v := 0) hx hb dX6_append_31 (by decide) ?_
    refine lv_istore (lv' := [(6, .int (0 : Int32)), (0, .ref a_this), (1, .int x1), (2, .int x2), (3, .int x3), (4, .int x4), (5, .int x5)]) hx hb dX6_append_32 hl (z_lt rfl) rfl (fun ls hl => ?_)
    exact w_X6_append_34 E  n _ _ _ _ _ _ _ _ _ hf _ _ _ hw (lv_sub hl [1, 2, 3, 4, 5, 6, 0] rfl)
  · have hf := oI_neg hc hf
    refine lv_iconst (v := 0) hx hb dX6_append_29 (by decide) ?_
    cases hf
    exact z_iret E rfl hw dX6_append_30
set_option maxHeartbeats 4000000 in
set_option maxRecDepth 100000 in
theorem c_X6_append {l : Launch} {D : va_G} {cI cZ cM : ClassId} {a_this a_a a_fresh a_kept a_buffer a_best a_rentBy a_bareBy a_aheadBy a_isEdge a_tried a_stands a_found a_foundOn a_moving : Nat} {v_keptMany : Int32} {v_size : Int32} {v_at : Int32} {v_behind : Int32} {v_kind : Int32} {v_wrong : Int32} {v_wrongAt : Int32} {v_errorAt : Int32} {v_number : Int64} {v_movingMany : Int32} {v_foundIncome : Int32} {v_foundMoves : Int32} {res : Int32 × Int32 × (Nat → Int32) × Int32} {sz : Nat} {n : Nat} {v_thrown : Int32} {v_buffer : Nat → Int32} {v_buffered : Int32} {x1 : Int32} {x2 : Int32} {x3 : Int32} {x4 : Int32} {x5 : Int32} (hf : f_X6_append n v_thrown v_buffer v_buffered x1 x2 x3 x4 x5 = some res) : Met l yX6_append zwX6_append rmX6_append (zPc D (zT cI cZ cM) [.ref a_this, .int x1, .int x2, .int x3, .int x4, .int x5] [(a_this, .inr (6, [.ref a_a, .ref a_fresh, .ref a_kept, .int v_keptMany, .int v_thrown, .ref a_buffer, .int v_buffered, .int v_size, .int v_at, .int v_behind, .int v_kind, .int v_wrong, .int v_wrongAt, .int v_errorAt, .long v_number, .ref a_best, .ref a_rentBy, .ref a_bareBy, .ref a_aheadBy, .ref a_isEdge, .ref a_tried, .ref a_stands, .ref a_found, .ref a_foundOn, .ref a_moving, .int v_movingMany, .int v_foundIncome, .int v_foundMoves])), (a_buffer, .inl (cI, 600, .inl v_buffer))] sz) (zQi D (zT cI cZ cM) res.1 [(a_this, .inr (6, [.ref a_a, .ref a_fresh, .ref a_kept, .int v_keptMany, .int res.2.1, .ref a_buffer, .int res.2.2.2, .int v_size, .int v_at, .int v_behind, .int v_kind, .int v_wrong, .int v_wrongAt, .int v_errorAt, .long v_number, .ref a_best, .ref a_rentBy, .ref a_bareBy, .ref a_aheadBy, .ref a_isEdge, .ref a_tried, .ref a_stands, .ref a_found, .ref a_foundOn, .ref a_moving, .int v_movingMany, .int v_foundIncome, .int v_foundMoves])), (a_buffer, .inl (cI, 600, .inl res.2.2.1))] (va_A [(a_this, .inr (6, [.ref a_a, .ref a_fresh, .ref a_kept, .int v_keptMany, .int v_thrown, .ref a_buffer, .int v_buffered, .int v_size, .int v_at, .int v_behind, .int v_kind, .int v_wrong, .int v_wrongAt, .int v_errorAt, .long v_number, .ref a_best, .ref a_rentBy, .ref a_bareBy, .ref a_aheadBy, .ref a_isEdge, .ref a_tried, .ref a_stands, .ref a_found, .ref a_foundOn, .ref a_moving, .int v_movingMany, .int v_foundIncome, .int v_foundMoves])), (a_buffer, .inl (cI, 600, .inl v_buffer))] sz)) 0 0 (va_A [(a_this, .inr (6, [.ref a_a, .ref a_fresh, .ref a_kept, .int v_keptMany, .int v_thrown, .ref a_buffer, .int v_buffered, .int v_size, .int v_at, .int v_behind, .int v_kind, .int v_wrong, .int v_wrongAt, .int v_errorAt, .long v_number, .ref a_best, .ref a_rentBy, .ref a_bareBy, .ref a_aheadBy, .ref a_isEdge, .ref a_tried, .ref a_stands, .ref a_found, .ref a_foundOn, .ref a_moving, .int v_movingMany, .int v_foundIncome, .int v_foundMoves])), (a_buffer, .inl (cI, 600, .inl v_buffer))] sz) := by
  refine z_met (cc := cX6_append) (maxL := 8) (ret := (some .int)) (by decide) rfl (Nat.le_of_ble_eq_true rfl) ?_
  intro p e s m below meth c ls E hsz hw hl
  obtain ⟨⟨hx, hb, hml, hown, hts⟩, hr, hlocks⟩ := id E
  have hl : lv_has ls 8 [(0, .ref a_this), (1, .int x1), (2, .int x2), (3, .int x3), (4, .int x4), (5, .int x5)] := hl
  unfold f_X6_append at hf
  refine lv_aload_n hx hb dX6_append_0 rfl (lv_at hl 0 rfl) ?_
  refine lv_aload_n hx hb dX6_append_1 rfl (lv_at hl 0 rfl) ?_
  refine z_get E.1 hw in_wsX60 0 rfl rfl 6 (z_lt rfl) mw_607 (v := .int v_buffered) rfl dX6_append_2 ?_
  refine lv_bipush (v := 20) hx hb dX6_append_5 (by decide) ?_
  refine lv_iadd hx hb dX6_append_7 ?_
  refine lv_sipush (v := 600) hx hb dX6_append_8 (by decide) ?_
  refine lv_icmp_le (tgt := 18) hx hb dX6_append_11 (by decide) (fun hc => ?_) (fun hc => ?_)
  · have hf := oI_pos hc hf
    refine lv_iconst (v := 0) hx hb dX6_append_18 (by decide) ?_
    exact w_X6_append_19 E  _ _ _ _ _ _ _ _ _ hf _ _ _ hw (lv_sub hl [0, 1, 2, 3, 4, 5] rfl)
  · have hf := oI_neg hc hf
    refine lv_iconst (v := 1) hx hb dX6_append_14 (by decide) ?_
    refine lv_goto (tgt := 19) hx hb dX6_append_15 (by decide) ?_
    exact w_X6_append_19 E  _ _ _ _ _ _ _ _ _ hf _ _ _ hw (lv_sub hl [0, 1, 2, 3, 4, 5] rfl)
end
/-! X6_isOn -/
section
variable {p : Program} {l : Launch} {e : Env} {s : State} {m : MethodId} {args : Array Value} {below : List Frame} {meth : Method} {c : Code} {D : va_G} {A : Nat → Prop} {cI cZ cM : ClassId} {a_this a_a a_fresh a_kept a_buffer a_best a_rentBy a_bareBy a_aheadBy a_isEdge a_tried a_stands a_found a_foundOn a_moving : Nat} {v_keptMany : Int32} {v_thrown : Int32} {v_buffered : Int32} {v_size : Int32} {v_at : Int32} {v_behind : Int32} {v_kind : Int32} {v_wrong : Int32} {v_wrongAt : Int32} {v_errorAt : Int32} {v_number : Int64} {v_movingMany : Int32} {v_foundIncome : Int32} {v_foundMoves : Int32} {res : Int32}
def rmX6_isOn : Room := { frames := 1, cells := 0, slots := 0, locals := 25 }
abbrev zwX6_isOn : List Cond := Cond.code yX6_isOn cX6_isOn 3 (some .boolean) :: wsAll
set_option maxHeartbeats 4000000 in
set_option maxRecDepth 100000 in
theorem c_X6_isOn {l : Launch} {D : va_G} {cI cZ cM : ClassId} {a_this a_a a_fresh a_kept a_buffer a_best a_rentBy a_bareBy a_aheadBy a_isEdge a_tried a_stands a_found a_foundOn a_moving : Nat} {v_keptMany : Int32} {v_thrown : Int32} {v_buffered : Int32} {v_size : Int32} {v_at : Int32} {v_behind : Int32} {v_kind : Int32} {v_wrong : Int32} {v_wrongAt : Int32} {v_errorAt : Int32} {v_number : Int64} {v_movingMany : Int32} {v_foundIncome : Int32} {v_foundMoves : Int32} {res : Int32} {sz : Nat} {v_a : Nat → Int32} {x1 : Int32} {x2 : Int32} (hf : f_X6_isOn v_a x1 x2 = some res) : Met l yX6_isOn zwX6_isOn rmX6_isOn (zPc D (zT cI cZ cM) [.ref a_this, .int x1, .int x2] [(a_this, .inr (6, [.ref a_a, .ref a_fresh, .ref a_kept, .int v_keptMany, .int v_thrown, .ref a_buffer, .int v_buffered, .int v_size, .int v_at, .int v_behind, .int v_kind, .int v_wrong, .int v_wrongAt, .int v_errorAt, .long v_number, .ref a_best, .ref a_rentBy, .ref a_bareBy, .ref a_aheadBy, .ref a_isEdge, .ref a_tried, .ref a_stands, .ref a_found, .ref a_foundOn, .ref a_moving, .int v_movingMany, .int v_foundIncome, .int v_foundMoves])), (a_a, .inl (cI, 180, .inl v_a))] sz) (zQi D (zT cI cZ cM) res [(a_this, .inr (6, [.ref a_a, .ref a_fresh, .ref a_kept, .int v_keptMany, .int v_thrown, .ref a_buffer, .int v_buffered, .int v_size, .int v_at, .int v_behind, .int v_kind, .int v_wrong, .int v_wrongAt, .int v_errorAt, .long v_number, .ref a_best, .ref a_rentBy, .ref a_bareBy, .ref a_aheadBy, .ref a_isEdge, .ref a_tried, .ref a_stands, .ref a_found, .ref a_foundOn, .ref a_moving, .int v_movingMany, .int v_foundIncome, .int v_foundMoves])), (a_a, .inl (cI, 180, .inl v_a))] (va_A [(a_this, .inr (6, [.ref a_a, .ref a_fresh, .ref a_kept, .int v_keptMany, .int v_thrown, .ref a_buffer, .int v_buffered, .int v_size, .int v_at, .int v_behind, .int v_kind, .int v_wrong, .int v_wrongAt, .int v_errorAt, .long v_number, .ref a_best, .ref a_rentBy, .ref a_bareBy, .ref a_aheadBy, .ref a_isEdge, .ref a_tried, .ref a_stands, .ref a_found, .ref a_foundOn, .ref a_moving, .int v_movingMany, .int v_foundIncome, .int v_foundMoves])), (a_a, .inl (cI, 180, .inl v_a))] sz)) 0 0 (va_A [(a_this, .inr (6, [.ref a_a, .ref a_fresh, .ref a_kept, .int v_keptMany, .int v_thrown, .ref a_buffer, .int v_buffered, .int v_size, .int v_at, .int v_behind, .int v_kind, .int v_wrong, .int v_wrongAt, .int v_errorAt, .long v_number, .ref a_best, .ref a_rentBy, .ref a_bareBy, .ref a_aheadBy, .ref a_isEdge, .ref a_tried, .ref a_stands, .ref a_found, .ref a_foundOn, .ref a_moving, .int v_movingMany, .int v_foundIncome, .int v_foundMoves])), (a_a, .inl (cI, 180, .inl v_a))] sz) := by
  refine z_met (cc := cX6_isOn) (maxL := 3) (ret := (some .boolean)) (by decide) rfl (Nat.le_of_ble_eq_true rfl) ?_
  intro p e s m below meth c ls E hsz hw hl
  obtain ⟨⟨hx, hb, hml, hown, hts⟩, hr, hlocks⟩ := id E
  have hl : lv_has ls 3 [(0, .ref a_this), (1, .int x1), (2, .int x2)] := hl
  unfold f_X6_isOn at hf
  refine lv_aload_n hx hb dX6_isOn_0 rfl (lv_at hl 0 rfl) ?_
  refine z_get E.1 hw in_wsX60 0 rfl rfl 0 (z_lt rfl) mw_594 (v := .ref a_a) rfl dX6_isOn_1 ?_
  refine lv_bipush (v := 107) hx hb dX6_isOn_4 (by decide) ?_
  refine lv_iload_n hx hb dX6_isOn_6 rfl (lv_at hl 1 rfl) ?_
  refine lv_iadd hx hb dX6_isOn_7 ?_
  obtain ⟨h_1, hf⟩ := oA_elim hf
  refine z_iald E.1 hw 1 0 rfl rfl h_1 dX6_isOn_8 ?_
  refine lv_iconst (v := -1) hx hb dX6_isOn_9 (by decide) ?_
  refine lv_icmp_eq (tgt := 57) hx hb dX6_isOn_10 (by decide) (fun hc => ?_) (fun hc => ?_)
  · have hf := oI_pos hc hf
    refine lv_iconst (v := 0) hx hb dX6_isOn_57 (by decide) ?_
    cases hf
    exact z_zret E rfl z_n0 hw dX6_isOn_58
  · have hf := oI_neg hc hf
    refine lv_iload_n hx hb dX6_isOn_13 rfl (lv_at hl 2 rfl) ?_
    refine lv_i2l hx hb dX6_isOn_14 rfl ?_
    refine lv_aload_n hx hb dX6_isOn_15 rfl (lv_at hl 0 rfl) ?_
    refine z_get E.1 hw in_wsX60 0 rfl rfl 0 (z_lt rfl) mw_594 (v := .ref a_a) rfl dX6_isOn_16 ?_
    refine lv_bipush (v := 107) hx hb dX6_isOn_19 (by decide) ?_
    refine lv_iload_n hx hb dX6_isOn_21 rfl (lv_at hl 1 rfl) ?_
    refine lv_iadd hx hb dX6_isOn_22 ?_
    obtain ⟨h_2, hf⟩ := oA_elim hf
    refine z_iald E.1 hw 1 0 rfl rfl h_2 dX6_isOn_23 ?_
    refine lv_i2l hx hb dX6_isOn_24 rfl ?_
    refine lv_aload_n hx hb dX6_isOn_25 rfl (lv_at hl 0 rfl) ?_
    refine z_get E.1 hw in_wsX60 0 rfl rfl 0 (z_lt rfl) mw_594 (v := .ref a_a) rfl dX6_isOn_26 ?_
    refine lv_bipush (v := 107) hx hb dX6_isOn_29 (by decide) ?_
    refine lv_iload_n hx hb dX6_isOn_31 rfl (lv_at hl 1 rfl) ?_
    refine lv_iadd hx hb dX6_isOn_32 ?_
    obtain ⟨h_3, hf⟩ := oA_elim hf
    refine z_iald E.1 hw 1 0 rfl rfl h_3 dX6_isOn_33 ?_
    refine lv_aload_n hx hb dX6_isOn_34 rfl (lv_at hl 0 rfl) ?_
    refine z_get E.1 hw in_wsX60 0 rfl rfl 0 (z_lt rfl) mw_594 (v := .ref a_a) rfl dX6_isOn_35 ?_
    refine lv_bipush (v := 83) hx hb dX6_isOn_38 (by decide) ?_
    refine lv_iload_n hx hb dX6_isOn_40 rfl (lv_at hl 1 rfl) ?_
    refine lv_iadd hx hb dX6_isOn_41 ?_
    obtain ⟨h_4, hf⟩ := oA_elim hf
    refine z_iald E.1 hw 1 0 rfl rfl h_4 dX6_isOn_42 ?_
    refine lv_iadd hx hb dX6_isOn_43 ?_
    refine lv_iconst (v := 1) hx hb dX6_isOn_44 (by decide) ?_
    refine lv_isub hx hb dX6_isOn_45 ?_
    refine lv_i2l hx hb dX6_isOn_46 rfl ?_
    obtain ⟨r_5, h_6, hf⟩ := oB_elim hf
    refine z_callSi (ws' := [(a_this, .inr (6, [.ref a_a, .ref a_fresh, .ref a_kept, .int v_keptMany, .int v_thrown, .ref a_buffer, .int v_buffered, .int v_size, .int v_at, .int v_behind, .int v_kind, .int v_wrong, .int v_wrongAt, .int v_errorAt, .long v_number, .ref a_best, .ref a_rentBy, .ref a_bareBy, .ref a_aheadBy, .ref a_isEdge, .ref a_tried, .ref a_stands, .ref a_found, .ref a_foundOn, .ref a_moving, .int v_movingMany, .int v_foundIncome, .int v_foundMoves])), (a_a, .inl (cI, 180, .inl v_a))]) (wr := [(a_this, .inr (6, [.ref a_a, .ref a_fresh, .ref a_kept, .int v_keptMany, .int v_thrown, .ref a_buffer, .int v_buffered, .int v_size, .int v_at, .int v_behind, .int v_kind, .int v_wrong, .int v_wrongAt, .int v_errorAt, .long v_number, .ref a_best, .ref a_rentBy, .ref a_bareBy, .ref a_aheadBy, .ref a_isEdge, .ref a_tried, .ref a_stands, .ref a_found, .ref a_foundOn, .ref a_moving, .int v_movingMany, .int v_foundIncome, .int v_foundMoves])), (a_a, .inl (cI, 180, .inl v_a))]) (As := [.long ((x2).toInt64), .long (((v_a (((107 : Int32) + x1)).toNatClampNeg)).toInt64), .long (((((v_a (((107 : Int32) + x1)).toNatClampNeg) + (v_a (((83 : Int32) + x1)).toNatClampNeg)) - (1 : Int32))).toInt64)]) (rest := []) E.1 hl hw (c_X6_isIn h_6) (va_cwS 3 hts (z_gS mw_596 mw_597 mw_598 mw_599) rfl rfl rfl (by decide +kernel) ⟨(Nat.le_of_ble_eq_true rfl), (Nat.le_of_ble_eq_true rfl)⟩) [] [0, 1] rfl rfl rfl rfl rfl rfl rfl rfl (Nat.le_of_ble_eq_true rfl) dX6_isOn_47 ⟨Nat.le_of_ble_eq_true rfl, Nat.le_of_ble_eq_true rfl⟩ (fun H locs hw => ?_)
    refine lv_if_eq (tgt := 57) hx hb dX6_isOn_50 (by decide) (fun hc => ?_) (fun hc => ?_)
    · have hf := oI_pos hc hf
      refine lv_iconst (v := 0) hx hb dX6_isOn_57 (by decide) ?_
      cases hf
      exact z_zret E rfl z_n0 hw dX6_isOn_58
    · have hf := oI_neg hc hf
      refine lv_iconst (v := 1) hx hb dX6_isOn_53 (by decide) ?_
      refine lv_goto (tgt := 58) hx hb dX6_isOn_54 (by decide) ?_
      cases hf
      exact z_zret E rfl z_n1 hw dX6_isOn_58
end
/-! X6_on -/
section
variable {p : Program} {l : Launch} {e : Env} {s : State} {m : MethodId} {args : Array Value} {below : List Frame} {meth : Method} {c : Code} {D : va_G} {A : Nat → Prop} {cI cZ cM : ClassId} {a_this a_a a_fresh a_kept a_buffer a_best a_rentBy a_bareBy a_aheadBy a_isEdge a_tried a_stands a_found a_foundOn a_moving : Nat} {v_keptMany : Int32} {v_thrown : Int32} {v_buffered : Int32} {v_size : Int32} {v_at : Int32} {v_behind : Int32} {v_kind : Int32} {v_wrong : Int32} {v_wrongAt : Int32} {v_errorAt : Int32} {v_number : Int64} {v_movingMany : Int32} {v_foundIncome : Int32} {v_foundMoves : Int32} {res : Int32}
def rmX6_on : Room := { frames := 2, cells := 0, slots := 0, locals := 47 }
abbrev zwX6_on : List Cond := Cond.code yX6_on cX6_on 3 (some .int) :: wsAll
set_option maxHeartbeats 4000000 in
set_option maxRecDepth 100000 in
theorem w_X6_on_2 {n : Nat} (E : zE p s m args meth c cX6_on 3 (some .int) zwX6_on RX6) : ∀ (fu : Nat), ∀ (x1 : Int32) (x2 : Int32) (v_a : Nat → Int32), f_X6_on_2 n fu x1 x2 v_a = some res → ∀ (H : Heap) (locs : List Loc) (ls : Array Slot), zW D (zT cI cZ cM) A s [(a_this, .inr (6, [.ref a_a, .ref a_fresh, .ref a_kept, .int v_keptMany, .int v_thrown, .ref a_buffer, .int v_buffered, .int v_size, .int v_at, .int v_behind, .int v_kind, .int v_wrong, .int v_wrongAt, .int v_errorAt, .long v_number, .ref a_best, .ref a_rentBy, .ref a_bareBy, .ref a_aheadBy, .ref a_isEdge, .ref a_tried, .ref a_stands, .ref a_found, .ref a_foundOn, .ref a_moving, .int v_movingMany, .int v_foundIncome, .int v_foundMoves])), (a_a, .inl (cI, 180, .inl v_a))] H locs → lv_has ls 3 [(0, .ref a_this), (1, .int x1), (2, .int x2)] → W p l e rmX6_on s m args below meth c H locs 0 0 (MQ below (zQi D (zT cI cZ cM) res [(a_this, .inr (6, [.ref a_a, .ref a_fresh, .ref a_kept, .int v_keptMany, .int v_thrown, .ref a_buffer, .int v_buffered, .int v_size, .int v_at, .int v_behind, .int v_kind, .int v_wrong, .int v_wrongAt, .int v_errorAt, .long v_number, .ref a_best, .ref a_rentBy, .ref a_bareBy, .ref a_aheadBy, .ref a_isEdge, .ref a_tried, .ref a_stands, .ref a_found, .ref a_foundOn, .ref a_moving, .int v_movingMany, .int v_foundIncome, .int v_foundMoves])), (a_a, .inl (cI, 180, .inl v_a))] A) args s 0 0 A) (F0 m 2 ls []) := by
  obtain ⟨⟨hx, hb, hml, hown, hts⟩, hr, hlocks⟩ := id E
  intro fu
  induction fu with
  | zero => intro x1 x2 v_a hf; rw [f_X6_on_2.eq_1] at hf; cases hf
  | succ fu ih =>
    intro x1 x2 v_a hf H locs ls hw hl
    rw [f_X6_on_2.eq_2] at hf
    refine lv_iload_n hx hb dX6_on_2 rfl (lv_at hl 2 rfl) ?_
    refine lv_aload_n hx hb dX6_on_3 rfl (lv_at hl 0 rfl) ?_
    refine z_get E.1 hw in_wsX60 0 rfl rfl 0 (z_lt rfl) mw_594 (v := .ref a_a) rfl dX6_on_4 ?_
    refine lv_bipush (v := 74) hx hb dX6_on_7 (by decide) ?_
    obtain ⟨h_1, hf⟩ := oA_elim hf
    refine z_iald E.1 hw 1 0 rfl rfl h_1 dX6_on_9 ?_
    refine lv_icmp_ge (tgt := 30) hx hb dX6_on_10 (by decide) (fun hc => ?_) (fun hc => ?_)
    · have hf := oI_pos hc hf
      refine lv_iconst (v := -1) hx hb dX6_on_30 (by decide) ?_
      cases hf
      exact z_iret E rfl hw dX6_on_31
    · have hf := oI_neg hc hf
      refine lv_aload_n hx hb dX6_on_13 rfl (lv_at hl 0 rfl) ?_
      refine lv_iload_n hx hb dX6_on_14 rfl (lv_at hl 2 rfl) ?_
      refine lv_iload_n hx hb dX6_on_15 rfl (lv_at hl 1 rfl) ?_
      obtain ⟨r_2, h_3, hf⟩ := oB_elim hf
      refine z_callVi (ws' := [(a_this, .inr (6, [.ref a_a, .ref a_fresh, .ref a_kept, .int v_keptMany, .int v_thrown, .ref a_buffer, .int v_buffered, .int v_size, .int v_at, .int v_behind, .int v_kind, .int v_wrong, .int v_wrongAt, .int v_errorAt, .long v_number, .ref a_best, .ref a_rentBy, .ref a_bareBy, .ref a_aheadBy, .ref a_isEdge, .ref a_tried, .ref a_stands, .ref a_found, .ref a_foundOn, .ref a_moving, .int v_movingMany, .int v_foundIncome, .int v_foundMoves])), (a_a, .inl (cI, 180, .inl v_a))]) (wr := []) (As := [.int x2, .int x1]) (rest := []) E.1 hl hw (c_X6_isOn h_3) (cwV 2 hts (z_gV mw_614 mw_615 mw_616 mw_598 mw_617) rfl rfl rfl (by decide +kernel) ⟨(Nat.le_of_ble_eq_true rfl), (Nat.le_of_ble_eq_true rfl)⟩) [0, 1] [] rfl rfl rfl rfl rfl rfl rfl (q0 := 0) rfl rfl rfl (Nat.le_of_ble_eq_true rfl) dX6_on_16 ⟨Nat.le_of_ble_eq_true rfl, Nat.le_of_ble_eq_true rfl⟩ (fun H locs hw => ?_)
      refine lv_if_eq (tgt := 24) hx hb dX6_on_19 (by decide) (fun hc => ?_) (fun hc => ?_)
      · have hf := oI_pos hc hf
        refine lv_iinc (v := (x2 + (1 : Int32))) (lv' := [(2, .int (x2 + (1 : Int32))), (0, .ref a_this), (1, .int x1)]) hx hb dX6_on_24 hl (k := 2) rfl rfl (z_lt rfl) rfl (fun ls hl => ?_)
        refine lv_goto (tgt := 2) hx hb dX6_on_27 (by decide) ?_
        exact ih _ _ _ hf _ _ _ hw (lv_sub hl [1, 2, 0] rfl)
      · have hf := oI_neg hc hf
        refine lv_iload_n hx hb dX6_on_22 rfl (lv_at hl 2 rfl) ?_
        cases hf
        exact z_iret E rfl hw dX6_on_23
set_option maxHeartbeats 4000000 in
set_option maxRecDepth 100000 in
theorem c_X6_on {l : Launch} {D : va_G} {cI cZ cM : ClassId} {a_this a_a a_fresh a_kept a_buffer a_best a_rentBy a_bareBy a_aheadBy a_isEdge a_tried a_stands a_found a_foundOn a_moving : Nat} {v_keptMany : Int32} {v_thrown : Int32} {v_buffered : Int32} {v_size : Int32} {v_at : Int32} {v_behind : Int32} {v_kind : Int32} {v_wrong : Int32} {v_wrongAt : Int32} {v_errorAt : Int32} {v_number : Int64} {v_movingMany : Int32} {v_foundIncome : Int32} {v_foundMoves : Int32} {res : Int32} {sz : Nat} {n : Nat} {v_a : Nat → Int32} {x1 : Int32} (hf : f_X6_on n v_a x1 = some res) : Met l yX6_on zwX6_on rmX6_on (zPc D (zT cI cZ cM) [.ref a_this, .int x1] [(a_this, .inr (6, [.ref a_a, .ref a_fresh, .ref a_kept, .int v_keptMany, .int v_thrown, .ref a_buffer, .int v_buffered, .int v_size, .int v_at, .int v_behind, .int v_kind, .int v_wrong, .int v_wrongAt, .int v_errorAt, .long v_number, .ref a_best, .ref a_rentBy, .ref a_bareBy, .ref a_aheadBy, .ref a_isEdge, .ref a_tried, .ref a_stands, .ref a_found, .ref a_foundOn, .ref a_moving, .int v_movingMany, .int v_foundIncome, .int v_foundMoves])), (a_a, .inl (cI, 180, .inl v_a))] sz) (zQi D (zT cI cZ cM) res [(a_this, .inr (6, [.ref a_a, .ref a_fresh, .ref a_kept, .int v_keptMany, .int v_thrown, .ref a_buffer, .int v_buffered, .int v_size, .int v_at, .int v_behind, .int v_kind, .int v_wrong, .int v_wrongAt, .int v_errorAt, .long v_number, .ref a_best, .ref a_rentBy, .ref a_bareBy, .ref a_aheadBy, .ref a_isEdge, .ref a_tried, .ref a_stands, .ref a_found, .ref a_foundOn, .ref a_moving, .int v_movingMany, .int v_foundIncome, .int v_foundMoves])), (a_a, .inl (cI, 180, .inl v_a))] (va_A [(a_this, .inr (6, [.ref a_a, .ref a_fresh, .ref a_kept, .int v_keptMany, .int v_thrown, .ref a_buffer, .int v_buffered, .int v_size, .int v_at, .int v_behind, .int v_kind, .int v_wrong, .int v_wrongAt, .int v_errorAt, .long v_number, .ref a_best, .ref a_rentBy, .ref a_bareBy, .ref a_aheadBy, .ref a_isEdge, .ref a_tried, .ref a_stands, .ref a_found, .ref a_foundOn, .ref a_moving, .int v_movingMany, .int v_foundIncome, .int v_foundMoves])), (a_a, .inl (cI, 180, .inl v_a))] sz)) 0 0 (va_A [(a_this, .inr (6, [.ref a_a, .ref a_fresh, .ref a_kept, .int v_keptMany, .int v_thrown, .ref a_buffer, .int v_buffered, .int v_size, .int v_at, .int v_behind, .int v_kind, .int v_wrong, .int v_wrongAt, .int v_errorAt, .long v_number, .ref a_best, .ref a_rentBy, .ref a_bareBy, .ref a_aheadBy, .ref a_isEdge, .ref a_tried, .ref a_stands, .ref a_found, .ref a_foundOn, .ref a_moving, .int v_movingMany, .int v_foundIncome, .int v_foundMoves])), (a_a, .inl (cI, 180, .inl v_a))] sz) := by
  refine z_met (cc := cX6_on) (maxL := 3) (ret := (some .int)) (by decide) rfl (Nat.le_of_ble_eq_true rfl) ?_
  intro p e s m below meth c ls E hsz hw hl
  obtain ⟨⟨hx, hb, hml, hown, hts⟩, hr, hlocks⟩ := id E
  have hl : lv_has ls 3 [(0, .ref a_this), (1, .int x1)] := hl
  unfold f_X6_on at hf
  refine lv_iconst (v := 0) hx hb dX6_on_0 (by decide) ?_
  refine lv_istore_n (lv' := [(2, .int (0 : Int32)), (0, .ref a_this), (1, .int x1)]) hx hb dX6_on_1 rfl hl (z_lt rfl) rfl (fun ls hl => ?_)
  exact w_X6_on_2 E  n _ _ _ hf _ _ _ hw (lv_sub hl [1, 2, 0] rfl)
end
/-! X6_areBeside -/
section
variable {p : Program} {l : Launch} {e : Env} {s : State} {m : MethodId} {args : Array Value} {below : List Frame} {meth : Method} {c : Code} {D : va_G} {A : Nat → Prop} {cI cZ cM : ClassId} {a_this a_a a_fresh a_kept a_buffer a_best a_rentBy a_bareBy a_aheadBy a_isEdge a_tried a_stands a_found a_foundOn a_moving : Nat} {v_keptMany : Int32} {v_thrown : Int32} {v_buffered : Int32} {v_size : Int32} {v_at : Int32} {v_behind : Int32} {v_kind : Int32} {v_wrong : Int32} {v_wrongAt : Int32} {v_errorAt : Int32} {v_number : Int64} {v_movingMany : Int32} {v_foundIncome : Int32} {v_foundMoves : Int32} {res : Int32}
def rmX6_areBeside : Room := { frames := 3, cells := 0, slots := 0, locals := 69 }
abbrev zwX6_areBeside : List Cond := Cond.code yX6_areBeside cX6_areBeside 6 (some .boolean) :: wsAll
set_option maxHeartbeats 4000000 in
set_option maxRecDepth 100000 in
theorem w_X6_areBeside_133 {n : Nat} (E : zE p s m args meth c cX6_areBeside 6 (some .boolean) zwX6_areBeside RX6) {k2 : Int32 → Int32 → Int32 → (Nat → Int32) → Option (Int32)} (hk2 : ∀ (x1 : Int32) (x2 : Int32) (x3 : Int32) (v_a : Nat → Int32), k2 x1 x2 x3 v_a = some res → ∀ (H : Heap) (locs : List Loc) (ls : Array Slot), zW D (zT cI cZ cM) A s [(a_this, .inr (6, [.ref a_a, .ref a_fresh, .ref a_kept, .int v_keptMany, .int v_thrown, .ref a_buffer, .int v_buffered, .int v_size, .int v_at, .int v_behind, .int v_kind, .int v_wrong, .int v_wrongAt, .int v_errorAt, .long v_number, .ref a_best, .ref a_rentBy, .ref a_bareBy, .ref a_aheadBy, .ref a_isEdge, .ref a_tried, .ref a_stands, .ref a_found, .ref a_foundOn, .ref a_moving, .int v_movingMany, .int v_foundIncome, .int v_foundMoves])), (a_a, .inl (cI, 180, .inl v_a))] H locs → lv_has ls 6 [(0, .ref a_this), (1, .int x1), (2, .int x2), (3, .int x3)] → W p l e rmX6_areBeside s m args below meth c H locs 0 0 (MQ below (zQi D (zT cI cZ cM) res [(a_this, .inr (6, [.ref a_a, .ref a_fresh, .ref a_kept, .int v_keptMany, .int v_thrown, .ref a_buffer, .int v_buffered, .int v_size, .int v_at, .int v_behind, .int v_kind, .int v_wrong, .int v_wrongAt, .int v_errorAt, .long v_number, .ref a_best, .ref a_rentBy, .ref a_bareBy, .ref a_aheadBy, .ref a_isEdge, .ref a_tried, .ref a_stands, .ref a_found, .ref a_foundOn, .ref a_moving, .int v_movingMany, .int v_foundIncome, .int v_foundMoves])), (a_a, .inl (cI, 180, .inl v_a))] A) args s 0 0 A) (F0 m 2 ls [])) : ∀ (x1 : Int32) (x2 : Int32) (x3 : Int32) (v_a : Nat → Int32), f_X6_areBeside_133 n k2 x1 x2 x3 v_a = some res → ∀ (H : Heap) (locs : List Loc) (ls : Array Slot), zW D (zT cI cZ cM) A s [(a_this, .inr (6, [.ref a_a, .ref a_fresh, .ref a_kept, .int v_keptMany, .int v_thrown, .ref a_buffer, .int v_buffered, .int v_size, .int v_at, .int v_behind, .int v_kind, .int v_wrong, .int v_wrongAt, .int v_errorAt, .long v_number, .ref a_best, .ref a_rentBy, .ref a_bareBy, .ref a_aheadBy, .ref a_isEdge, .ref a_tried, .ref a_stands, .ref a_found, .ref a_foundOn, .ref a_moving, .int v_movingMany, .int v_foundIncome, .int v_foundMoves])), (a_a, .inl (cI, 180, .inl v_a))] H locs → lv_has ls 6 [(0, .ref a_this), (1, .int x1), (2, .int x2), (3, .int x3)] → W p l e rmX6_areBeside s m args below meth c H locs 0 0 (MQ below (zQi D (zT cI cZ cM) res [(a_this, .inr (6, [.ref a_a, .ref a_fresh, .ref a_kept, .int v_keptMany, .int v_thrown, .ref a_buffer, .int v_buffered, .int v_size, .int v_at, .int v_behind, .int v_kind, .int v_wrong, .int v_wrongAt, .int v_errorAt, .long v_number, .ref a_best, .ref a_rentBy, .ref a_bareBy, .ref a_aheadBy, .ref a_isEdge, .ref a_tried, .ref a_stands, .ref a_found, .ref a_foundOn, .ref a_moving, .int v_movingMany, .int v_foundIncome, .int v_foundMoves])), (a_a, .inl (cI, 180, .inl v_a))] A) args s 0 0 A) (F0 m 133 ls []) := by
  obtain ⟨⟨hx, hb, hml, hown, hts⟩, hr, hlocks⟩ := id E
  intro x1 x2 x3 v_a hf H locs ls hw hl
  unfold f_X6_areBeside_133 at hf
  refine lv_iinc (v := (x3 + (1 : Int32))) (lv' := [(3, .int (x3 + (1 : Int32))), (0, .ref a_this), (1, .int x1), (2, .int x2)]) hx hb dX6_areBeside_133 hl (k := 3) rfl rfl (z_lt rfl) rfl (fun ls hl => ?_)
  refine lv_goto (tgt := 2) hx hb dX6_areBeside_136 (by decide) ?_
  exact hk2 _ _ _ _ hf _ _ _ hw (lv_sub hl [1, 2, 3, 0] rfl)
set_option maxHeartbeats 4000000 in
set_option maxRecDepth 100000 in
theorem w_X6_areBeside_103 {n : Nat} (E : zE p s m args meth c cX6_areBeside 6 (some .boolean) zwX6_areBeside RX6) {k2 : Int32 → Int32 → Int32 → (Nat → Int32) → Option (Int32)} (hk2 : ∀ (x1 : Int32) (x2 : Int32) (x3 : Int32) (v_a : Nat → Int32), k2 x1 x2 x3 v_a = some res → ∀ (H : Heap) (locs : List Loc) (ls : Array Slot), zW D (zT cI cZ cM) A s [(a_this, .inr (6, [.ref a_a, .ref a_fresh, .ref a_kept, .int v_keptMany, .int v_thrown, .ref a_buffer, .int v_buffered, .int v_size, .int v_at, .int v_behind, .int v_kind, .int v_wrong, .int v_wrongAt, .int v_errorAt, .long v_number, .ref a_best, .ref a_rentBy, .ref a_bareBy, .ref a_aheadBy, .ref a_isEdge, .ref a_tried, .ref a_stands, .ref a_found, .ref a_foundOn, .ref a_moving, .int v_movingMany, .int v_foundIncome, .int v_foundMoves])), (a_a, .inl (cI, 180, .inl v_a))] H locs → lv_has ls 6 [(0, .ref a_this), (1, .int x1), (2, .int x2), (3, .int x3)] → W p l e rmX6_areBeside s m args below meth c H locs 0 0 (MQ below (zQi D (zT cI cZ cM) res [(a_this, .inr (6, [.ref a_a, .ref a_fresh, .ref a_kept, .int v_keptMany, .int v_thrown, .ref a_buffer, .int v_buffered, .int v_size, .int v_at, .int v_behind, .int v_kind, .int v_wrong, .int v_wrongAt, .int v_errorAt, .long v_number, .ref a_best, .ref a_rentBy, .ref a_bareBy, .ref a_aheadBy, .ref a_isEdge, .ref a_tried, .ref a_stands, .ref a_found, .ref a_foundOn, .ref a_moving, .int v_movingMany, .int v_foundIncome, .int v_foundMoves])), (a_a, .inl (cI, 180, .inl v_a))] A) args s 0 0 A) (F0 m 2 ls [])) : ∀ (x1 : Int32) (x2 : Int32) (x3 : Int32) (x4 : Int32) (x5 : Int32) (v_a : Nat → Int32), f_X6_areBeside_103 n k2 x1 x2 x3 x4 x5 v_a = some res → ∀ (H : Heap) (locs : List Loc) (ls : Array Slot), zW D (zT cI cZ cM) A s [(a_this, .inr (6, [.ref a_a, .ref a_fresh, .ref a_kept, .int v_keptMany, .int v_thrown, .ref a_buffer, .int v_buffered, .int v_size, .int v_at, .int v_behind, .int v_kind, .int v_wrong, .int v_wrongAt, .int v_errorAt, .long v_number, .ref a_best, .ref a_rentBy, .ref a_bareBy, .ref a_aheadBy, .ref a_isEdge, .ref a_tried, .ref a_stands, .ref a_found, .ref a_foundOn, .ref a_moving, .int v_movingMany, .int v_foundIncome, .int v_foundMoves])), (a_a, .inl (cI, 180, .inl v_a))] H locs → lv_has ls 6 [(0, .ref a_this), (1, .int x1), (2, .int x2), (3, .int x3), (4, .int x4), (5, .int x5)] → W p l e rmX6_areBeside s m args below meth c H locs 0 0 (MQ below (zQi D (zT cI cZ cM) res [(a_this, .inr (6, [.ref a_a, .ref a_fresh, .ref a_kept, .int v_keptMany, .int v_thrown, .ref a_buffer, .int v_buffered, .int v_size, .int v_at, .int v_behind, .int v_kind, .int v_wrong, .int v_wrongAt, .int v_errorAt, .long v_number, .ref a_best, .ref a_rentBy, .ref a_bareBy, .ref a_aheadBy, .ref a_isEdge, .ref a_tried, .ref a_stands, .ref a_found, .ref a_foundOn, .ref a_moving, .int v_movingMany, .int v_foundIncome, .int v_foundMoves])), (a_a, .inl (cI, 180, .inl v_a))] A) args s 0 0 A) (F0 m 103 ls []) := by
  obtain ⟨⟨hx, hb, hml, hown, hts⟩, hr, hlocks⟩ := id E
  intro x1 x2 x3 x4 x5 v_a hf H locs ls hw hl
  unfold f_X6_areBeside_103 at hf
  refine lv_aload_n hx hb dX6_areBeside_103 rfl (lv_at hl 0 rfl) ?_
  refine z_get E.1 hw in_wsX60 0 rfl rfl 0 (z_lt rfl) mw_594 (v := .ref a_a) rfl dX6_areBeside_104 ?_
  refine lv_bipush (v := 75) hx hb dX6_areBeside_107 (by decide) ?_
  refine lv_iload hx hb dX6_areBeside_109 (lv_at hl 4 rfl) ?_
  refine lv_iadd hx hb dX6_areBeside_111 ?_
  obtain ⟨h_1, hf⟩ := oA_elim hf
  refine z_iald E.1 hw 1 0 rfl rfl h_1 dX6_areBeside_112 ?_
  refine lv_iload_n hx hb dX6_areBeside_113 rfl (lv_at hl 2 rfl) ?_
  refine lv_icmp_ne (tgt := 133) hx hb dX6_areBeside_114 (by decide) (fun hc => ?_) (fun hc => ?_)
  · have hf := oI_neg hc hf
    exact w_X6_areBeside_133 E hk2 _ _ _ _ hf _ _ _ hw (lv_sub hl [0, 1, 2, 3] rfl)
  · have hf := oI_pos hc hf
    refine lv_aload_n hx hb dX6_areBeside_117 rfl (lv_at hl 0 rfl) ?_
    refine z_get E.1 hw in_wsX60 0 rfl rfl 0 (z_lt rfl) mw_594 (v := .ref a_a) rfl dX6_areBeside_118 ?_
    refine lv_bipush (v := 75) hx hb dX6_areBeside_121 (by decide) ?_
    refine lv_iload hx hb dX6_areBeside_123 (lv_at hl 5 rfl) ?_
    refine lv_iadd hx hb dX6_areBeside_125 ?_
    obtain ⟨h_2, hf⟩ := oA_elim hf
    refine z_iald E.1 hw 1 0 rfl rfl h_2 dX6_areBeside_126 ?_
    refine lv_iload_n hx hb dX6_areBeside_127 rfl (lv_at hl 1 rfl) ?_
    refine lv_icmp_ne (tgt := 133) hx hb dX6_areBeside_128 (by decide) (fun hc => ?_) (fun hc => ?_)
    · have hf := oI_neg hc hf
      exact w_X6_areBeside_133 E hk2 _ _ _ _ hf _ _ _ hw (lv_sub hl [0, 1, 2, 3] rfl)
    · have hf := oI_pos hc hf
      refine lv_iconst (v := 1) hx hb dX6_areBeside_131 (by decide) ?_
      cases hf
      exact z_zret E rfl z_n1 hw dX6_areBeside_132
set_option maxHeartbeats 4000000 in
set_option maxRecDepth 100000 in
theorem w_X6_areBeside_2 {n : Nat} (E : zE p s m args meth c cX6_areBeside 6 (some .boolean) zwX6_areBeside RX6) : ∀ (fu : Nat), ∀ (x1 : Int32) (x2 : Int32) (x3 : Int32) (v_a : Nat → Int32), f_X6_areBeside_2 n fu x1 x2 x3 v_a = some res → ∀ (H : Heap) (locs : List Loc) (ls : Array Slot), zW D (zT cI cZ cM) A s [(a_this, .inr (6, [.ref a_a, .ref a_fresh, .ref a_kept, .int v_keptMany, .int v_thrown, .ref a_buffer, .int v_buffered, .int v_size, .int v_at, .int v_behind, .int v_kind, .int v_wrong, .int v_wrongAt, .int v_errorAt, .long v_number, .ref a_best, .ref a_rentBy, .ref a_bareBy, .ref a_aheadBy, .ref a_isEdge, .ref a_tried, .ref a_stands, .ref a_found, .ref a_foundOn, .ref a_moving, .int v_movingMany, .int v_foundIncome, .int v_foundMoves])), (a_a, .inl (cI, 180, .inl v_a))] H locs → lv_has ls 6 [(0, .ref a_this), (1, .int x1), (2, .int x2), (3, .int x3)] → W p l e rmX6_areBeside s m args below meth c H locs 0 0 (MQ below (zQi D (zT cI cZ cM) res [(a_this, .inr (6, [.ref a_a, .ref a_fresh, .ref a_kept, .int v_keptMany, .int v_thrown, .ref a_buffer, .int v_buffered, .int v_size, .int v_at, .int v_behind, .int v_kind, .int v_wrong, .int v_wrongAt, .int v_errorAt, .long v_number, .ref a_best, .ref a_rentBy, .ref a_bareBy, .ref a_aheadBy, .ref a_isEdge, .ref a_tried, .ref a_stands, .ref a_found, .ref a_foundOn, .ref a_moving, .int v_movingMany, .int v_foundIncome, .int v_foundMoves])), (a_a, .inl (cI, 180, .inl v_a))] A) args s 0 0 A) (F0 m 2 ls []) := by
  obtain ⟨⟨hx, hb, hml, hown, hts⟩, hr, hlocks⟩ := id E
  intro fu
  induction fu with
  | zero => intro x1 x2 x3 v_a hf; rw [f_X6_areBeside_2.eq_1] at hf; cases hf
  | succ fu ih =>
    intro x1 x2 x3 v_a hf H locs ls hw hl
    rw [f_X6_areBeside_2.eq_2] at hf
    refine lv_iload_n hx hb dX6_areBeside_2 rfl (lv_at hl 3 rfl) ?_
    refine lv_iconst (v := 1) hx hb dX6_areBeside_3 (by decide) ?_
    refine lv_iadd hx hb dX6_areBeside_4 ?_
    refine lv_aload_n hx hb dX6_areBeside_5 rfl (lv_at hl 0 rfl) ?_
    refine z_get E.1 hw in_wsX60 0 rfl rfl 0 (z_lt rfl) mw_594 (v := .ref a_a) rfl dX6_areBeside_6 ?_
    refine lv_iconst (v := 1) hx hb dX6_areBeside_9 (by decide) ?_
    obtain ⟨h_3, hf⟩ := oA_elim hf
    refine z_iald E.1 hw 1 0 rfl rfl h_3 dX6_areBeside_10 ?_
    refine lv_icmp_ge (tgt := 139) hx hb dX6_areBeside_11 (by decide) (fun hc => ?_) (fun hc => ?_)
    · have hf := oI_pos hc hf
      refine lv_iconst (v := 0) hx hb dX6_areBeside_139 (by decide) ?_
      cases hf
      exact z_zret E rfl z_n0 hw dX6_areBeside_140
    · have hf := oI_neg hc hf
      refine lv_aload_n hx hb dX6_areBeside_14 rfl (lv_at hl 0 rfl) ?_
      refine lv_iload_n hx hb dX6_areBeside_15 rfl (lv_at hl 3 rfl) ?_
      obtain ⟨r_4, h_5, hf⟩ := oB_elim hf
      refine z_callVi (ws' := [(a_this, .inr (6, [.ref a_a, .ref a_fresh, .ref a_kept, .int v_keptMany, .int v_thrown, .ref a_buffer, .int v_buffered, .int v_size, .int v_at, .int v_behind, .int v_kind, .int v_wrong, .int v_wrongAt, .int v_errorAt, .long v_number, .ref a_best, .ref a_rentBy, .ref a_bareBy, .ref a_aheadBy, .ref a_isEdge, .ref a_tried, .ref a_stands, .ref a_found, .ref a_foundOn, .ref a_moving, .int v_movingMany, .int v_foundIncome, .int v_foundMoves])), (a_a, .inl (cI, 180, .inl v_a))]) (wr := []) (As := [.int x3]) (rest := []) E.1 hl hw (c_X6_on h_5) (cwV 1 hts (z_gV mw_610 mw_611 mw_612 mw_598 mw_613) rfl rfl rfl (by decide +kernel) ⟨(Nat.le_of_ble_eq_true rfl), (Nat.le_of_ble_eq_true rfl)⟩) [0, 1] [] rfl rfl rfl rfl rfl rfl rfl (q0 := 0) rfl rfl rfl (Nat.le_of_ble_eq_true rfl) dX6_areBeside_16 ⟨Nat.le_of_ble_eq_true rfl, Nat.le_of_ble_eq_true rfl⟩ (fun H locs hw => ?_)
      refine lv_istore (lv' := [(4, .int r_4), (0, .ref a_this), (1, .int x1), (2, .int x2), (3, .int x3)]) hx hb dX6_areBeside_19 hl (z_lt rfl) rfl (fun ls hl => ?_)
      refine lv_aload_n hx hb dX6_areBeside_21 rfl (lv_at hl 1 rfl) ?_
      refine lv_iload_n hx hb dX6_areBeside_22 rfl (lv_at hl 4 rfl) ?_
      refine lv_iconst (v := 1) hx hb dX6_areBeside_23 (by decide) ?_
      refine lv_iadd hx hb dX6_areBeside_24 ?_
      obtain ⟨r_6, h_7, hf⟩ := oB_elim hf
      refine z_callVi (ws' := [(a_this, .inr (6, [.ref a_a, .ref a_fresh, .ref a_kept, .int v_keptMany, .int v_thrown, .ref a_buffer, .int v_buffered, .int v_size, .int v_at, .int v_behind, .int v_kind, .int v_wrong, .int v_wrongAt, .int v_errorAt, .long v_number, .ref a_best, .ref a_rentBy, .ref a_bareBy, .ref a_aheadBy, .ref a_isEdge, .ref a_tried, .ref a_stands, .ref a_found, .ref a_foundOn, .ref a_moving, .int v_movingMany, .int v_foundIncome, .int v_foundMoves])), (a_a, .inl (cI, 180, .inl v_a))]) (wr := []) (As := [.int (x3 + (1 : Int32))]) (rest := []) E.1 hl hw (c_X6_on h_7) (cwV 1 hts (z_gV mw_610 mw_611 mw_612 mw_598 mw_613) rfl rfl rfl (by decide +kernel) ⟨(Nat.le_of_ble_eq_true rfl), (Nat.le_of_ble_eq_true rfl)⟩) [0, 1] [] rfl rfl rfl rfl rfl rfl rfl (q0 := 0) rfl rfl rfl (Nat.le_of_ble_eq_true rfl) dX6_areBeside_25 ⟨Nat.le_of_ble_eq_true rfl, Nat.le_of_ble_eq_true rfl⟩ (fun H locs hw => ?_)
      refine lv_istore (lv' := [(5, .int r_6), (4, .int r_4), (0, .ref a_this), (1, .int x1), (2, .int x2), (3, .int x3)]) hx hb dX6_areBeside_28 hl (z_lt rfl) rfl (fun ls hl => ?_)
      refine lv_aload_n hx hb dX6_areBeside_30 rfl (lv_at hl 2 rfl) ?_
      refine z_get E.1 hw in_wsX60 0 rfl rfl 0 (z_lt rfl) mw_594 (v := .ref a_a) rfl dX6_areBeside_31 ?_
      refine lv_bipush (v := 50) hx hb dX6_areBeside_34 (by decide) ?_
      refine lv_iload_n hx hb dX6_areBeside_36 rfl (lv_at hl 5 rfl) ?_
      refine lv_iadd hx hb dX6_areBeside_37 ?_
      obtain ⟨h_8, hf⟩ := oA_elim hf
      refine z_iald E.1 hw 1 0 rfl rfl h_8 dX6_areBeside_38 ?_
      refine lv_aload_n hx hb dX6_areBeside_39 rfl (lv_at hl 2 rfl) ?_
      refine z_get E.1 hw in_wsX60 0 rfl rfl 0 (z_lt rfl) mw_594 (v := .ref a_a) rfl dX6_areBeside_40 ?_
      refine lv_bipush (v := 50) hx hb dX6_areBeside_43 (by decide) ?_
      refine lv_iload_n hx hb dX6_areBeside_45 rfl (lv_at hl 5 rfl) ?_
      refine lv_iadd hx hb dX6_areBeside_46 ?_
      refine lv_iconst (v := 1) hx hb dX6_areBeside_47 (by decide) ?_
      refine lv_iadd hx hb dX6_areBeside_48 ?_
      obtain ⟨h_9, hf⟩ := oA_elim hf
      refine z_iald E.1 hw 1 0 rfl rfl h_9 dX6_areBeside_49 ?_
      refine lv_icmp_ne (tgt := 133) hx hb dX6_areBeside_50 (by decide) (fun hc => ?_) (fun hc => ?_)
      · have hf := oI_neg hc hf
        exact w_X6_areBeside_133 E ih _ _ _ _ hf _ _ _ hw (lv_sub hl [2, 3, 4, 5] rfl)
      · have hf := oI_pos hc hf
        refine lv_iload hx hb dX6_areBeside_53 (lv_at hl 1 rfl) ?_
        refine lv_iconst (v := -1) hx hb dX6_areBeside_55 (by decide) ?_
        refine lv_icmp_eq (tgt := 133) hx hb dX6_areBeside_56 (by decide) (fun hc => ?_) (fun hc => ?_)
        · have hf := oI_pos hc hf
          exact w_X6_areBeside_133 E ih _ _ _ _ hf _ _ _ hw (lv_sub hl [2, 3, 4, 5] rfl)
        · have hf := oI_neg hc hf
          refine lv_iload hx hb dX6_areBeside_59 (lv_at hl 0 rfl) ?_
          refine lv_iconst (v := -1) hx hb dX6_areBeside_61 (by decide) ?_
          refine lv_icmp_eq (tgt := 133) hx hb dX6_areBeside_62 (by decide) (fun hc => ?_) (fun hc => ?_)
          · have hf := oI_pos hc hf
            exact w_X6_areBeside_133 E ih _ _ _ _ hf _ _ _ hw (lv_sub hl [2, 3, 4, 5] rfl)
          · have hf := oI_neg hc hf
            refine lv_iload hx hb dX6_areBeside_65 (lv_at hl 1 rfl) ?_
            refine lv_iload hx hb dX6_areBeside_67 (lv_at hl 0 rfl) ?_
            refine lv_icmp_ne (tgt := 75) hx hb dX6_areBeside_69 (by decide) (fun hc => ?_) (fun hc => ?_)
            · have hf := oI_neg hc hf
              refine lv_aload_n hx hb dX6_areBeside_75 rfl (lv_at hl 2 rfl) ?_
              refine z_get E.1 hw in_wsX60 0 rfl rfl 0 (z_lt rfl) mw_594 (v := .ref a_a) rfl dX6_areBeside_76 ?_
              refine lv_bipush (v := 75) hx hb dX6_areBeside_79 (by decide) ?_
              refine lv_iload hx hb dX6_areBeside_81 (lv_at hl 1 rfl) ?_
              refine lv_iadd hx hb dX6_areBeside_83 ?_
              obtain ⟨h_10, hf⟩ := oA_elim hf
              refine z_iald E.1 hw 1 0 rfl rfl h_10 dX6_areBeside_84 ?_
              refine lv_iload_n hx hb dX6_areBeside_85 rfl (lv_at hl 3 rfl) ?_
              refine lv_icmp_ne (tgt := 103) hx hb dX6_areBeside_86 (by decide) (fun hc => ?_) (fun hc => ?_)
              · have hf := oI_neg hc hf
                exact w_X6_areBeside_103 E ih _ _ _ _ _ _ hf _ _ _ hw (lv_sub hl [2, 3, 4, 5, 1, 0] rfl)
              · have hf := oI_pos hc hf
                refine lv_aload_n hx hb dX6_areBeside_89 rfl (lv_at hl 2 rfl) ?_
                refine z_get E.1 hw in_wsX60 0 rfl rfl 0 (z_lt rfl) mw_594 (v := .ref a_a) rfl dX6_areBeside_90 ?_
                refine lv_bipush (v := 75) hx hb dX6_areBeside_93 (by decide) ?_
                refine lv_iload hx hb dX6_areBeside_95 (lv_at hl 0 rfl) ?_
                refine lv_iadd hx hb dX6_areBeside_97 ?_
                obtain ⟨h_11, hf⟩ := oA_elim hf
                refine z_iald E.1 hw 1 0 rfl rfl h_11 dX6_areBeside_98 ?_
                refine lv_iload_n hx hb dX6_areBeside_99 rfl (lv_at hl 4 rfl) ?_
                refine lv_icmp_eq (tgt := 131) hx hb dX6_areBeside_100 (by decide) (fun hc => ?_) (fun hc => ?_)
                · have hf := oI_pos hc hf
                  refine lv_iconst (v := 1) hx hb dX6_areBeside_131 (by decide) ?_
                  cases hf
                  exact z_zret E rfl z_n1 hw dX6_areBeside_132
                · have hf := oI_neg hc hf
                  exact w_X6_areBeside_103 E ih _ _ _ _ _ _ hf _ _ _ hw (lv_sub hl [2, 3, 4, 5, 1, 0] rfl)
            · have hf := oI_pos hc hf
              refine lv_goto (tgt := 133) hx hb dX6_areBeside_72 (by decide) ?_
              exact w_X6_areBeside_133 E ih _ _ _ _ hf _ _ _ hw (lv_sub hl [2, 3, 4, 5] rfl)
set_option maxHeartbeats 4000000 in
set_option maxRecDepth 100000 in
theorem c_X6_areBeside {l : Launch} {D : va_G} {cI cZ cM : ClassId} {a_this a_a a_fresh a_kept a_buffer a_best a_rentBy a_bareBy a_aheadBy a_isEdge a_tried a_stands a_found a_foundOn a_moving : Nat} {v_keptMany : Int32} {v_thrown : Int32} {v_buffered : Int32} {v_size : Int32} {v_at : Int32} {v_behind : Int32} {v_kind : Int32} {v_wrong : Int32} {v_wrongAt : Int32} {v_errorAt : Int32} {v_number : Int64} {v_movingMany : Int32} {v_foundIncome : Int32} {v_foundMoves : Int32} {res : Int32} {sz : Nat} {n : Nat} {v_a : Nat → Int32} {x1 : Int32} {x2 : Int32} (hf : f_X6_areBeside n v_a x1 x2 = some res) : Met l yX6_areBeside zwX6_areBeside rmX6_areBeside (zPc D (zT cI cZ cM) [.ref a_this, .int x1, .int x2] [(a_this, .inr (6, [.ref a_a, .ref a_fresh, .ref a_kept, .int v_keptMany, .int v_thrown, .ref a_buffer, .int v_buffered, .int v_size, .int v_at, .int v_behind, .int v_kind, .int v_wrong, .int v_wrongAt, .int v_errorAt, .long v_number, .ref a_best, .ref a_rentBy, .ref a_bareBy, .ref a_aheadBy, .ref a_isEdge, .ref a_tried, .ref a_stands, .ref a_found, .ref a_foundOn, .ref a_moving, .int v_movingMany, .int v_foundIncome, .int v_foundMoves])), (a_a, .inl (cI, 180, .inl v_a))] sz) (zQi D (zT cI cZ cM) res [(a_this, .inr (6, [.ref a_a, .ref a_fresh, .ref a_kept, .int v_keptMany, .int v_thrown, .ref a_buffer, .int v_buffered, .int v_size, .int v_at, .int v_behind, .int v_kind, .int v_wrong, .int v_wrongAt, .int v_errorAt, .long v_number, .ref a_best, .ref a_rentBy, .ref a_bareBy, .ref a_aheadBy, .ref a_isEdge, .ref a_tried, .ref a_stands, .ref a_found, .ref a_foundOn, .ref a_moving, .int v_movingMany, .int v_foundIncome, .int v_foundMoves])), (a_a, .inl (cI, 180, .inl v_a))] (va_A [(a_this, .inr (6, [.ref a_a, .ref a_fresh, .ref a_kept, .int v_keptMany, .int v_thrown, .ref a_buffer, .int v_buffered, .int v_size, .int v_at, .int v_behind, .int v_kind, .int v_wrong, .int v_wrongAt, .int v_errorAt, .long v_number, .ref a_best, .ref a_rentBy, .ref a_bareBy, .ref a_aheadBy, .ref a_isEdge, .ref a_tried, .ref a_stands, .ref a_found, .ref a_foundOn, .ref a_moving, .int v_movingMany, .int v_foundIncome, .int v_foundMoves])), (a_a, .inl (cI, 180, .inl v_a))] sz)) 0 0 (va_A [(a_this, .inr (6, [.ref a_a, .ref a_fresh, .ref a_kept, .int v_keptMany, .int v_thrown, .ref a_buffer, .int v_buffered, .int v_size, .int v_at, .int v_behind, .int v_kind, .int v_wrong, .int v_wrongAt, .int v_errorAt, .long v_number, .ref a_best, .ref a_rentBy, .ref a_bareBy, .ref a_aheadBy, .ref a_isEdge, .ref a_tried, .ref a_stands, .ref a_found, .ref a_foundOn, .ref a_moving, .int v_movingMany, .int v_foundIncome, .int v_foundMoves])), (a_a, .inl (cI, 180, .inl v_a))] sz) := by
  refine z_met (cc := cX6_areBeside) (maxL := 6) (ret := (some .boolean)) (by decide) rfl (Nat.le_of_ble_eq_true rfl) ?_
  intro p e s m below meth c ls E hsz hw hl
  obtain ⟨⟨hx, hb, hml, hown, hts⟩, hr, hlocks⟩ := id E
  have hl : lv_has ls 6 [(0, .ref a_this), (1, .int x1), (2, .int x2)] := hl
  unfold f_X6_areBeside at hf
  refine lv_iconst (v := 0) hx hb dX6_areBeside_0 (by decide) ?_
  refine lv_istore_n (lv' := [(3, .int (0 : Int32)), (0, .ref a_this), (1, .int x1), (2, .int x2)]) hx hb dX6_areBeside_1 rfl hl (z_lt rfl) rfl (fun ls hl => ?_)
  exact w_X6_areBeside_2 E  n _ _ _ _ hf _ _ _ hw (lv_sub hl [1, 2, 3, 0] rfl)
end
