/-! X2_coversFor -/
section
variable {p : Program} {l : Launch} {e : Env} {s : State} {m : MethodId} {args : Array Value} {below : List Frame} {meth : Method} {c : Code} {D : va_G} {A : Nat → Prop} {cI cZ cM : ClassId} {a_this a_rows a_rents a_roofs a_trades a_fronts a_limits a_needy a_clashes a_starts a_standing : Nat} {v_traders : Int32} {v_covers : Int32} {v_coversBusy : Int32} {res : Int32}
def rmX2_coversFor : Room := { frames := 1, cells := 0, slots := 0, locals := 25 }
abbrev zwX2_coversFor : List Cond := Cond.code yX2_coversFor cX2_coversFor 3 (some .int) :: wsAll
set_option maxHeartbeats 4000000 in
set_option maxRecDepth 100000 in
theorem c_X2_coversFor {l : Launch} {D : va_G} {cI cZ cM : ClassId} {a_this a_rows a_rents a_roofs a_trades a_fronts a_limits a_needy a_clashes a_starts a_standing : Nat} {v_traders : Int32} {v_covers : Int32} {v_coversBusy : Int32} {res : Int32} {sz : Nat} {n : Nat} {v_pitches : Int32} {v_roofs : Nat → Int32} {v_fronts : Nat → Int32} {v_needy : Nat → Int32} {x1 : Int32} {x2 : Int32} (hf : f_X2_coversFor n v_pitches v_roofs v_fronts v_needy x1 x2 = some res) : Met l yX2_coversFor zwX2_coversFor rmX2_coversFor (zPc D (zT cI cZ cM) [.ref a_this, .int x1, .int x2] [(a_this, .inr (2, [.int v_pitches, .ref a_rows, .ref a_rents, .ref a_roofs, .int v_traders, .ref a_trades, .ref a_fronts, .ref a_limits, .ref a_needy, .ref a_clashes, .int v_covers, .ref a_starts, .ref a_standing, .int v_coversBusy])), (a_roofs, .inl (cZ, 24, .inl v_roofs)), (a_fronts, .inl (cI, 8, .inl v_fronts)), (a_needy, .inl (cZ, 8, .inl v_needy))] sz) (zQi D (zT cI cZ cM) res [(a_this, .inr (2, [.int v_pitches, .ref a_rows, .ref a_rents, .ref a_roofs, .int v_traders, .ref a_trades, .ref a_fronts, .ref a_limits, .ref a_needy, .ref a_clashes, .int v_covers, .ref a_starts, .ref a_standing, .int v_coversBusy])), (a_roofs, .inl (cZ, 24, .inl v_roofs)), (a_fronts, .inl (cI, 8, .inl v_fronts)), (a_needy, .inl (cZ, 8, .inl v_needy))] (va_A [(a_this, .inr (2, [.int v_pitches, .ref a_rows, .ref a_rents, .ref a_roofs, .int v_traders, .ref a_trades, .ref a_fronts, .ref a_limits, .ref a_needy, .ref a_clashes, .int v_covers, .ref a_starts, .ref a_standing, .int v_coversBusy])), (a_roofs, .inl (cZ, 24, .inl v_roofs)), (a_fronts, .inl (cI, 8, .inl v_fronts)), (a_needy, .inl (cZ, 8, .inl v_needy))] sz)) 0 0 (va_A [(a_this, .inr (2, [.int v_pitches, .ref a_rows, .ref a_rents, .ref a_roofs, .int v_traders, .ref a_trades, .ref a_fronts, .ref a_limits, .ref a_needy, .ref a_clashes, .int v_covers, .ref a_starts, .ref a_standing, .int v_coversBusy])), (a_roofs, .inl (cZ, 24, .inl v_roofs)), (a_fronts, .inl (cI, 8, .inl v_fronts)), (a_needy, .inl (cZ, 8, .inl v_needy))] sz) := by
  refine z_met (cc := cX2_coversFor) (maxL := 3) (ret := (some .int)) (by decide) rfl (Nat.le_of_ble_eq_true rfl) ?_
  intro p e s m below meth c ls E hsz hw hl
  obtain ⟨⟨hx, hb, hml, hown, hts⟩, hr, hlocks⟩ := id E
  have hl : lv_has ls 3 [(0, .ref a_this), (1, .int x1), (2, .int x2)] := hl
  unfold f_X2_coversFor at hf
  refine lv_aload_n hx hb dX2_coversFor_0 rfl (lv_at hl 0 rfl) ?_
  refine z_get E.1 hw in_wsX20 0 rfl rfl 8 (z_lt rfl) mw_24 (v := .ref a_needy) rfl dX2_coversFor_1 ?_
  refine lv_iload_n hx hb dX2_coversFor_4 rfl (lv_at hl 1 rfl) ?_
  obtain ⟨h_1, hf⟩ := oA_elim hf
  refine z_zald E.1 hw 3 1 rfl rfl h_1 dX2_coversFor_5 ?_
  refine lv_if_eq (tgt := 18) hx hb dX2_coversFor_6 (by decide) (fun hc => ?_) (fun hc => ?_)
  · have hf := oI_pos hc hf
    refine lv_iconst (v := 0) hx hb dX2_coversFor_18 (by decide) ?_
    cases hf
    exact z_iret E rfl hw dX2_coversFor_19
  · have hf := oI_neg hc hf
    refine lv_aload_n hx hb dX2_coversFor_9 rfl (lv_at hl 0 rfl) ?_
    refine lv_iload_n hx hb dX2_coversFor_10 rfl (lv_at hl 1 rfl) ?_
    refine lv_iload_n hx hb dX2_coversFor_11 rfl (lv_at hl 2 rfl) ?_
    obtain ⟨r_2, h_3, hf⟩ := oB_elim hf
    refine z_callVi (ws' := [(a_this, .inr (2, [.int v_pitches, .ref a_rows, .ref a_rents, .ref a_roofs, .int v_traders, .ref a_trades, .ref a_fronts, .ref a_limits, .ref a_needy, .ref a_clashes, .int v_covers, .ref a_starts, .ref a_standing, .int v_coversBusy])), (a_roofs, .inl (cZ, 24, .inl v_roofs)), (a_fronts, .inl (cI, 8, .inl v_fronts)), (a_needy, .inl (cZ, 8, .inl v_needy))]) (wr := [(a_needy, .inl (cZ, 8, .inl v_needy))]) (As := [.int x1, .int x2]) (rest := []) E.1 hl hw (c_X2_openPitches h_3) (cwV 2 hts (z_gV mw_87 mw_88 mw_89 mw_9 mw_90) rfl rfl rfl (by decide +kernel) ⟨(Nat.le_of_ble_eq_true rfl), (Nat.le_of_ble_eq_true rfl)⟩) 4 [(0, 3)] [(3, 1)] rfl rfl rfl rfl rfl rfl (by decide +kernel) rfl (q0 := 0) rfl rfl rfl (Nat.le_of_ble_eq_true rfl) dX2_coversFor_12 ⟨Nat.le_of_ble_eq_true rfl, Nat.le_of_ble_eq_true rfl⟩ (fun H locs hw => ?_)
    refine lv_goto (tgt := 19) hx hb dX2_coversFor_15 (by decide) ?_
    cases hf
    exact z_iret E rfl hw dX2_coversFor_19
end
/-! X2_unseat -/
section
variable {p : Program} {l : Launch} {e : Env} {s : State} {m : MethodId} {args : Array Value} {below : List Frame} {meth : Method} {c : Code} {D : va_G} {A : Nat → Prop} {cI cZ cM : ClassId} {a_this a_rows a_rents a_roofs a_trades a_fronts a_limits a_needy a_clashes a_starts a_standing : Nat} {v_traders : Int32} {v_covers : Int32} {res : (Nat → Int32) × (Nat → Int32) × Int32}
def rmX2_unseat : Room := { frames := 2, cells := 0, slots := 0, locals := 47 }
abbrev zwX2_unseat : List Cond := Cond.code yX2_unseat cX2_unseat 3 none :: wsAll
set_option maxHeartbeats 4000000 in
set_option maxRecDepth 100000 in
theorem c_X2_unseat {l : Launch} {D : va_G} {cI cZ cM : ClassId} {a_this a_rows a_rents a_roofs a_trades a_fronts a_limits a_needy a_clashes a_starts a_standing : Nat} {v_traders : Int32} {v_covers : Int32} {res : (Nat → Int32) × (Nat → Int32) × Int32} {sz : Nat} {n : Nat} {v_pitches : Int32} {v_roofs : Nat → Int32} {v_fronts : Nat → Int32} {v_needy : Nat → Int32} {v_starts : Nat → Int32} {v_standing : Nat → Int32} {v_coversBusy : Int32} {x1 : Int32} (hf : f_X2_unseat n v_pitches v_roofs v_fronts v_needy v_starts v_standing v_coversBusy x1 = some res) : Met l yX2_unseat zwX2_unseat rmX2_unseat (zPc D (zT cI cZ cM) [.ref a_this, .int x1] [(a_this, .inr (2, [.int v_pitches, .ref a_rows, .ref a_rents, .ref a_roofs, .int v_traders, .ref a_trades, .ref a_fronts, .ref a_limits, .ref a_needy, .ref a_clashes, .int v_covers, .ref a_starts, .ref a_standing, .int v_coversBusy])), (a_roofs, .inl (cZ, 24, .inl v_roofs)), (a_fronts, .inl (cI, 8, .inl v_fronts)), (a_needy, .inl (cZ, 8, .inl v_needy)), (a_starts, .inl (cI, 8, .inl v_starts)), (a_standing, .inl (cI, 24, .inl v_standing))] sz) (zQv D (zT cI cZ cM) [(a_this, .inr (2, [.int v_pitches, .ref a_rows, .ref a_rents, .ref a_roofs, .int v_traders, .ref a_trades, .ref a_fronts, .ref a_limits, .ref a_needy, .ref a_clashes, .int v_covers, .ref a_starts, .ref a_standing, .int res.2.2])), (a_roofs, .inl (cZ, 24, .inl v_roofs)), (a_fronts, .inl (cI, 8, .inl v_fronts)), (a_needy, .inl (cZ, 8, .inl v_needy)), (a_starts, .inl (cI, 8, .inl res.1)), (a_standing, .inl (cI, 24, .inl res.2.1))] (va_A [(a_this, .inr (2, [.int v_pitches, .ref a_rows, .ref a_rents, .ref a_roofs, .int v_traders, .ref a_trades, .ref a_fronts, .ref a_limits, .ref a_needy, .ref a_clashes, .int v_covers, .ref a_starts, .ref a_standing, .int v_coversBusy])), (a_roofs, .inl (cZ, 24, .inl v_roofs)), (a_fronts, .inl (cI, 8, .inl v_fronts)), (a_needy, .inl (cZ, 8, .inl v_needy)), (a_starts, .inl (cI, 8, .inl v_starts)), (a_standing, .inl (cI, 24, .inl v_standing))] sz)) 0 0 (va_A [(a_this, .inr (2, [.int v_pitches, .ref a_rows, .ref a_rents, .ref a_roofs, .int v_traders, .ref a_trades, .ref a_fronts, .ref a_limits, .ref a_needy, .ref a_clashes, .int v_covers, .ref a_starts, .ref a_standing, .int v_coversBusy])), (a_roofs, .inl (cZ, 24, .inl v_roofs)), (a_fronts, .inl (cI, 8, .inl v_fronts)), (a_needy, .inl (cZ, 8, .inl v_needy)), (a_starts, .inl (cI, 8, .inl v_starts)), (a_standing, .inl (cI, 24, .inl v_standing))] sz) := by
  refine z_met (cc := cX2_unseat) (maxL := 3) (ret := none) (by decide) rfl (Nat.le_of_ble_eq_true rfl) ?_
  intro p e s m below meth c ls E hsz hw hl
  obtain ⟨⟨hx, hb, hml, hown, hts⟩, hr, hlocks⟩ := id E
  have hl : lv_has ls 3 [(0, .ref a_this), (1, .int x1)] := hl
  unfold f_X2_unseat at hf
  refine lv_aload_n hx hb dX2_unseat_0 rfl (lv_at hl 0 rfl) ?_
  refine lv_iload_n hx hb dX2_unseat_1 rfl (lv_at hl 1 rfl) ?_
  obtain ⟨r_1, h_2, hf⟩ := oB_elim hf
  refine z_callVi (ws' := [(a_this, .inr (2, [.int v_pitches, .ref a_rows, .ref a_rents, .ref a_roofs, .int v_traders, .ref a_trades, .ref a_fronts, .ref a_limits, .ref a_needy, .ref a_clashes, .int v_covers, .ref a_starts, .ref a_standing, .int v_coversBusy])), (a_roofs, .inl (cZ, 24, .inl v_roofs)), (a_fronts, .inl (cI, 8, .inl v_fronts)), (a_needy, .inl (cZ, 8, .inl v_needy)), (a_starts, .inl (cI, 8, .inl v_starts)), (a_standing, .inl (cI, 24, .inl v_standing))]) (wr := [(a_roofs, .inl (cZ, 24, .inl v_roofs)), (a_fronts, .inl (cI, 8, .inl v_fronts)), (a_needy, .inl (cZ, 8, .inl v_needy)), (a_standing, .inl (cI, 24, .inl v_standing))]) (As := [.int x1]) (rest := []) E.1 hl hw (c_X2_isSeated h_2) (cwV 1 hts (z_gV mw_63 mw_64 mw_65 mw_9 mw_66) rfl rfl rfl (by decide +kernel) ⟨(Nat.le_of_ble_eq_true rfl), (Nat.le_of_ble_eq_true rfl)⟩) 6 [(0, 1), (4, 1)] [(1, 3), (5, 1)] rfl rfl rfl rfl rfl rfl (by decide +kernel) rfl (q0 := 0) rfl rfl rfl (Nat.le_of_ble_eq_true rfl) dX2_unseat_2 ⟨Nat.le_of_ble_eq_true rfl, Nat.le_of_ble_eq_true rfl⟩ (fun H locs hw => ?_)
  refine lv_if_eq (tgt := 49) hx hb dX2_unseat_5 (by decide) (fun hc => ?_) (fun hc => ?_)
  · have hf := oI_pos hc hf
    cases hf
    exact z_vret E rfl hw dX2_unseat_49
  · have hf := oI_neg hc hf
    refine lv_aload_n hx hb dX2_unseat_8 rfl (lv_at hl 0 rfl) ?_
    refine z_get E.1 hw in_wsX20 0 rfl rfl 11 (z_lt rfl) mw_27 (v := .ref a_starts) rfl dX2_unseat_9 ?_
    refine lv_iload_n hx hb dX2_unseat_12 rfl (lv_at hl 1 rfl) ?_
    obtain ⟨h_3, hf⟩ := oA_elim hf
    refine z_iald E.1 hw 4 0 rfl rfl h_3 dX2_unseat_13 ?_
    obtain ⟨y_4, e_y_4, hf⟩ := oL_elim hf
    refine z_top e_y_4 ?_
    refine lv_istore_n (lv' := [(2, .int y_4), (0, .ref a_this), (1, .int x1)]) hx hb dX2_unseat_14 rfl hl (z_lt rfl) rfl (fun ls hl => ?_)
    refine lv_aload_n hx hb dX2_unseat_15 rfl (lv_at hl 1 rfl) ?_
    refine lv_iload_n hx hb dX2_unseat_16 rfl (lv_at hl 0 rfl) ?_
    refine lv_aload_n hx hb dX2_unseat_17 rfl (lv_at hl 1 rfl) ?_
    refine z_get E.1 hw in_wsX20 0 rfl rfl 6 (z_lt rfl) mw_22 (v := .ref a_fronts) rfl dX2_unseat_18 ?_
    refine lv_iload_n hx hb dX2_unseat_21 rfl (lv_at hl 2 rfl) ?_
    obtain ⟨h_5, hf⟩ := oA_elim hf
    refine z_iald E.1 hw 2 0 rfl rfl h_5 dX2_unseat_22 ?_
    refine lv_iconst (v := -1) hx hb dX2_unseat_23 (by decide) ?_
    obtain ⟨v_6, h_7, hf⟩ := oB_elim hf
    refine z_callVv (ws' := [(a_this, .inr (2, [.int v_pitches, .ref a_rows, .ref a_rents, .ref a_roofs, .int v_traders, .ref a_trades, .ref a_fronts, .ref a_limits, .ref a_needy, .ref a_clashes, .int v_covers, .ref a_starts, .ref a_standing, .int v_coversBusy])), (a_roofs, .inl (cZ, 24, .inl v_roofs)), (a_fronts, .inl (cI, 8, .inl v_fronts)), (a_needy, .inl (cZ, 8, .inl v_needy)), (a_starts, .inl (cI, 8, .inl v_starts)), (a_standing, .inl (cI, 24, .inl v_6))]) (wr := [(a_roofs, .inl (cZ, 24, .inl v_roofs)), (a_fronts, .inl (cI, 8, .inl v_fronts)), (a_needy, .inl (cZ, 8, .inl v_needy)), (a_starts, .inl (cI, 8, .inl v_starts))]) (As := [.int y_4, .int (v_fronts (x1).toNatClampNeg), .int (-1 : Int32)]) (rest := []) E.1 hl hw (c_X2_settle h_7) (cwV 3 hts (z_gV mw_133 mw_134 mw_135 mw_9 mw_136) rfl rfl rfl (by decide +kernel) ⟨(Nat.le_of_ble_eq_true rfl), (Nat.le_of_ble_eq_true rfl)⟩) 6 [(0, 1), (5, 1)] [(1, 4)] rfl rfl rfl rfl rfl rfl (by decide +kernel) rfl (q0 := 0) rfl rfl rfl (Nat.le_of_ble_eq_true rfl) dX2_unseat_24 ⟨Nat.le_of_ble_eq_true rfl, Nat.le_of_ble_eq_true rfl⟩ (fun H locs hw => ?_)
    refine lv_aload_n hx hb dX2_unseat_27 rfl (lv_at hl 1 rfl) ?_
    refine z_get E.1 hw in_wsX20 0 rfl rfl 11 (z_lt rfl) mw_27 (v := .ref a_starts) rfl dX2_unseat_28 ?_
    refine lv_iload_n hx hb dX2_unseat_31 rfl (lv_at hl 2 rfl) ?_
    refine lv_iconst (v := -1) hx hb dX2_unseat_32 (by decide) ?_
    obtain ⟨h_8, hf⟩ := oA_elim hf
    obtain ⟨v_9, e_v_9, hf⟩ := oL_elim hf
    refine z_iast (ws' := [(a_this, .inr (2, [.int v_pitches, .ref a_rows, .ref a_rents, .ref a_roofs, .int v_traders, .ref a_trades, .ref a_fronts, .ref a_limits, .ref a_needy, .ref a_clashes, .int v_covers, .ref a_starts, .ref a_standing, .int v_coversBusy])), (a_roofs, .inl (cZ, 24, .inl v_roofs)), (a_fronts, .inl (cI, 8, .inl v_fronts)), (a_needy, .inl (cZ, 8, .inl v_needy)), (a_starts, .inl (cI, 8, .inl v_9)), (a_standing, .inl (cI, 24, .inl v_6))]) E.1 hw 4 0 rfl rfl h_8 (by subst e_v_9; rfl) dX2_unseat_33 (fun H locs hw => ?_)
    refine lv_aload_n hx hb dX2_unseat_34 rfl (lv_at hl 1 rfl) ?_
    refine lv_dup hx hb dX2_unseat_35 rfl ?_
    refine z_get E.1 hw in_wsX20 0 rfl rfl 13 (z_lt rfl) mw_29 (v := .int v_coversBusy) rfl dX2_unseat_36 ?_
    refine lv_aload_n hx hb dX2_unseat_39 rfl (lv_at hl 1 rfl) ?_
    refine lv_iload_n hx hb dX2_unseat_40 rfl (lv_at hl 2 rfl) ?_
    refine lv_iload_n hx hb dX2_unseat_41 rfl (lv_at hl 0 rfl) ?_
    obtain ⟨r_10, h_11, hf⟩ := oB_elim hf
    refine z_callVi (ws' := [(a_this, .inr (2, [.int v_pitches, .ref a_rows, .ref a_rents, .ref a_roofs, .int v_traders, .ref a_trades, .ref a_fronts, .ref a_limits, .ref a_needy, .ref a_clashes, .int v_covers, .ref a_starts, .ref a_standing, .int v_coversBusy])), (a_roofs, .inl (cZ, 24, .inl v_roofs)), (a_fronts, .inl (cI, 8, .inl v_fronts)), (a_needy, .inl (cZ, 8, .inl v_needy)), (a_starts, .inl (cI, 8, .inl v_9)), (a_standing, .inl (cI, 24, .inl v_6))]) (wr := [(a_starts, .inl (cI, 8, .inl v_9)), (a_standing, .inl (cI, 24, .inl v_6))]) (As := [.int x1, .int y_4]) (rest := [.int v_coversBusy, .ref a_this]) E.1 hl hw (c_X2_coversFor h_11) (cwV 2 hts (z_gV mw_83 mw_84 mw_85 mw_9 mw_86) rfl rfl rfl (by decide +kernel) ⟨(Nat.le_of_ble_eq_true rfl), (Nat.le_of_ble_eq_true rfl)⟩) 6 [(0, 4)] [(4, 2)] rfl rfl rfl rfl rfl rfl (by decide +kernel) rfl (q0 := 0) rfl rfl rfl (Nat.le_of_ble_eq_true rfl) dX2_unseat_42 ⟨Nat.le_of_ble_eq_true rfl, Nat.le_of_ble_eq_true rfl⟩ (fun H locs hw => ?_)
    refine lv_isub hx hb dX2_unseat_45 ?_
    obtain ⟨y_12, e_y_12, hf⟩ := oL_elim hf
    refine z_top e_y_12 ?_
    refine z_put (ws' := [(a_this, .inr (2, [.int v_pitches, .ref a_rows, .ref a_rents, .ref a_roofs, .int v_traders, .ref a_trades, .ref a_fronts, .ref a_limits, .ref a_needy, .ref a_clashes, .int v_covers, .ref a_starts, .ref a_standing, .int y_12])), (a_roofs, .inl (cZ, 24, .inl v_roofs)), (a_fronts, .inl (cI, 8, .inl v_fronts)), (a_needy, .inl (cZ, 8, .inl v_needy)), (a_starts, .inl (cI, 8, .inl v_9)), (a_standing, .inl (cI, 24, .inl v_6))]) E.1 hw in_wsX20 tyX2 tyX2_ok nmX2 0 rfl rfl 13 (z_lt rfl) mw_29 rfl rfl rfl (z_lt rfl) rfl dX2_unseat_46 (fun H locs hw => ?_)
    cases hf
    exact z_vret E rfl hw dX2_unseat_49
end
/-! X2_seat -/
section
variable {p : Program} {l : Launch} {e : Env} {s : State} {m : MethodId} {args : Array Value} {below : List Frame} {meth : Method} {c : Code} {D : va_G} {A : Nat → Prop} {cI cZ cM : ClassId} {a_this a_rows a_rents a_roofs a_trades a_fronts a_limits a_needy a_clashes a_starts a_standing : Nat} {v_traders : Int32} {v_covers : Int32} {res : (Nat → Int32) × (Nat → Int32) × Int32}
def rmX2_seat : Room := { frames := 2, cells := 0, slots := 0, locals := 47 }
abbrev zwX2_seat : List Cond := Cond.code yX2_seat cX2_seat 3 none :: wsAll
set_option maxHeartbeats 4000000 in
set_option maxRecDepth 100000 in
theorem c_X2_seat {l : Launch} {D : va_G} {cI cZ cM : ClassId} {a_this a_rows a_rents a_roofs a_trades a_fronts a_limits a_needy a_clashes a_starts a_standing : Nat} {v_traders : Int32} {v_covers : Int32} {res : (Nat → Int32) × (Nat → Int32) × Int32} {sz : Nat} {n : Nat} {v_pitches : Int32} {v_roofs : Nat → Int32} {v_fronts : Nat → Int32} {v_needy : Nat → Int32} {v_starts : Nat → Int32} {v_standing : Nat → Int32} {v_coversBusy : Int32} {x1 : Int32} {x2 : Int32} (hf : f_X2_seat n v_pitches v_roofs v_fronts v_needy v_starts v_standing v_coversBusy x1 x2 = some res) : Met l yX2_seat zwX2_seat rmX2_seat (zPc D (zT cI cZ cM) [.ref a_this, .int x1, .int x2] [(a_this, .inr (2, [.int v_pitches, .ref a_rows, .ref a_rents, .ref a_roofs, .int v_traders, .ref a_trades, .ref a_fronts, .ref a_limits, .ref a_needy, .ref a_clashes, .int v_covers, .ref a_starts, .ref a_standing, .int v_coversBusy])), (a_roofs, .inl (cZ, 24, .inl v_roofs)), (a_fronts, .inl (cI, 8, .inl v_fronts)), (a_needy, .inl (cZ, 8, .inl v_needy)), (a_starts, .inl (cI, 8, .inl v_starts)), (a_standing, .inl (cI, 24, .inl v_standing))] sz) (zQv D (zT cI cZ cM) [(a_this, .inr (2, [.int v_pitches, .ref a_rows, .ref a_rents, .ref a_roofs, .int v_traders, .ref a_trades, .ref a_fronts, .ref a_limits, .ref a_needy, .ref a_clashes, .int v_covers, .ref a_starts, .ref a_standing, .int res.2.2])), (a_roofs, .inl (cZ, 24, .inl v_roofs)), (a_fronts, .inl (cI, 8, .inl v_fronts)), (a_needy, .inl (cZ, 8, .inl v_needy)), (a_starts, .inl (cI, 8, .inl res.1)), (a_standing, .inl (cI, 24, .inl res.2.1))] (va_A [(a_this, .inr (2, [.int v_pitches, .ref a_rows, .ref a_rents, .ref a_roofs, .int v_traders, .ref a_trades, .ref a_fronts, .ref a_limits, .ref a_needy, .ref a_clashes, .int v_covers, .ref a_starts, .ref a_standing, .int v_coversBusy])), (a_roofs, .inl (cZ, 24, .inl v_roofs)), (a_fronts, .inl (cI, 8, .inl v_fronts)), (a_needy, .inl (cZ, 8, .inl v_needy)), (a_starts, .inl (cI, 8, .inl v_starts)), (a_standing, .inl (cI, 24, .inl v_standing))] sz)) 0 0 (va_A [(a_this, .inr (2, [.int v_pitches, .ref a_rows, .ref a_rents, .ref a_roofs, .int v_traders, .ref a_trades, .ref a_fronts, .ref a_limits, .ref a_needy, .ref a_clashes, .int v_covers, .ref a_starts, .ref a_standing, .int v_coversBusy])), (a_roofs, .inl (cZ, 24, .inl v_roofs)), (a_fronts, .inl (cI, 8, .inl v_fronts)), (a_needy, .inl (cZ, 8, .inl v_needy)), (a_starts, .inl (cI, 8, .inl v_starts)), (a_standing, .inl (cI, 24, .inl v_standing))] sz) := by
  refine z_met (cc := cX2_seat) (maxL := 3) (ret := none) (by decide) rfl (Nat.le_of_ble_eq_true rfl) ?_
  intro p e s m below meth c ls E hsz hw hl
  obtain ⟨⟨hx, hb, hml, hown, hts⟩, hr, hlocks⟩ := id E
  have hl : lv_has ls 3 [(0, .ref a_this), (1, .int x1), (2, .int x2)] := hl
  unfold f_X2_seat at hf
  refine lv_aload_n hx hb dX2_seat_0 rfl (lv_at hl 0 rfl) ?_
  refine lv_iload_n hx hb dX2_seat_1 rfl (lv_at hl 2 rfl) ?_
  refine lv_aload_n hx hb dX2_seat_2 rfl (lv_at hl 0 rfl) ?_
  refine z_get E.1 hw in_wsX20 0 rfl rfl 6 (z_lt rfl) mw_22 (v := .ref a_fronts) rfl dX2_seat_3 ?_
  refine lv_iload_n hx hb dX2_seat_6 rfl (lv_at hl 1 rfl) ?_
  obtain ⟨h_1, hf⟩ := oA_elim hf
  refine z_iald E.1 hw 2 0 rfl rfl h_1 dX2_seat_7 ?_
  refine lv_iload_n hx hb dX2_seat_8 rfl (lv_at hl 1 rfl) ?_
  obtain ⟨v_2, h_3, hf⟩ := oB_elim hf
  refine z_callVv (ws' := [(a_this, .inr (2, [.int v_pitches, .ref a_rows, .ref a_rents, .ref a_roofs, .int v_traders, .ref a_trades, .ref a_fronts, .ref a_limits, .ref a_needy, .ref a_clashes, .int v_covers, .ref a_starts, .ref a_standing, .int v_coversBusy])), (a_roofs, .inl (cZ, 24, .inl v_roofs)), (a_fronts, .inl (cI, 8, .inl v_fronts)), (a_needy, .inl (cZ, 8, .inl v_needy)), (a_starts, .inl (cI, 8, .inl v_starts)), (a_standing, .inl (cI, 24, .inl v_2))]) (wr := [(a_roofs, .inl (cZ, 24, .inl v_roofs)), (a_fronts, .inl (cI, 8, .inl v_fronts)), (a_needy, .inl (cZ, 8, .inl v_needy)), (a_starts, .inl (cI, 8, .inl v_starts))]) (As := [.int x2, .int (v_fronts (x1).toNatClampNeg), .int x1]) (rest := []) E.1 hl hw (c_X2_settle h_3) (cwV 3 hts (z_gV mw_133 mw_134 mw_135 mw_9 mw_136) rfl rfl rfl (by decide +kernel) ⟨(Nat.le_of_ble_eq_true rfl), (Nat.le_of_ble_eq_true rfl)⟩) 6 [(0, 1), (5, 1)] [(1, 4)] rfl rfl rfl rfl rfl rfl (by decide +kernel) rfl (q0 := 0) rfl rfl rfl (Nat.le_of_ble_eq_true rfl) dX2_seat_9 ⟨Nat.le_of_ble_eq_true rfl, Nat.le_of_ble_eq_true rfl⟩ (fun H locs hw => ?_)
  refine lv_aload_n hx hb dX2_seat_12 rfl (lv_at hl 0 rfl) ?_
  refine z_get E.1 hw in_wsX20 0 rfl rfl 11 (z_lt rfl) mw_27 (v := .ref a_starts) rfl dX2_seat_13 ?_
  refine lv_iload_n hx hb dX2_seat_16 rfl (lv_at hl 1 rfl) ?_
  refine lv_iload_n hx hb dX2_seat_17 rfl (lv_at hl 2 rfl) ?_
  obtain ⟨h_4, hf⟩ := oA_elim hf
  obtain ⟨v_5, e_v_5, hf⟩ := oL_elim hf
  refine z_iast (ws' := [(a_this, .inr (2, [.int v_pitches, .ref a_rows, .ref a_rents, .ref a_roofs, .int v_traders, .ref a_trades, .ref a_fronts, .ref a_limits, .ref a_needy, .ref a_clashes, .int v_covers, .ref a_starts, .ref a_standing, .int v_coversBusy])), (a_roofs, .inl (cZ, 24, .inl v_roofs)), (a_fronts, .inl (cI, 8, .inl v_fronts)), (a_needy, .inl (cZ, 8, .inl v_needy)), (a_starts, .inl (cI, 8, .inl v_5)), (a_standing, .inl (cI, 24, .inl v_2))]) E.1 hw 4 0 rfl rfl h_4 (by subst e_v_5; rfl) dX2_seat_18 (fun H locs hw => ?_)
  refine lv_aload_n hx hb dX2_seat_19 rfl (lv_at hl 0 rfl) ?_
  refine lv_dup hx hb dX2_seat_20 rfl ?_
  refine z_get E.1 hw in_wsX20 0 rfl rfl 13 (z_lt rfl) mw_29 (v := .int v_coversBusy) rfl dX2_seat_21 ?_
  refine lv_aload_n hx hb dX2_seat_24 rfl (lv_at hl 0 rfl) ?_
  refine lv_iload_n hx hb dX2_seat_25 rfl (lv_at hl 1 rfl) ?_
  refine lv_iload_n hx hb dX2_seat_26 rfl (lv_at hl 2 rfl) ?_
  obtain ⟨r_6, h_7, hf⟩ := oB_elim hf
  refine z_callVi (ws' := [(a_this, .inr (2, [.int v_pitches, .ref a_rows, .ref a_rents, .ref a_roofs, .int v_traders, .ref a_trades, .ref a_fronts, .ref a_limits, .ref a_needy, .ref a_clashes, .int v_covers, .ref a_starts, .ref a_standing, .int v_coversBusy])), (a_roofs, .inl (cZ, 24, .inl v_roofs)), (a_fronts, .inl (cI, 8, .inl v_fronts)), (a_needy, .inl (cZ, 8, .inl v_needy)), (a_starts, .inl (cI, 8, .inl v_5)), (a_standing, .inl (cI, 24, .inl v_2))]) (wr := [(a_starts, .inl (cI, 8, .inl v_5)), (a_standing, .inl (cI, 24, .inl v_2))]) (As := [.int x1, .int x2]) (rest := [.int v_coversBusy, .ref a_this]) E.1 hl hw (c_X2_coversFor h_7) (cwV 2 hts (z_gV mw_83 mw_84 mw_85 mw_9 mw_86) rfl rfl rfl (by decide +kernel) ⟨(Nat.le_of_ble_eq_true rfl), (Nat.le_of_ble_eq_true rfl)⟩) 6 [(0, 4)] [(4, 2)] rfl rfl rfl rfl rfl rfl (by decide +kernel) rfl (q0 := 0) rfl rfl rfl (Nat.le_of_ble_eq_true rfl) dX2_seat_27 ⟨Nat.le_of_ble_eq_true rfl, Nat.le_of_ble_eq_true rfl⟩ (fun H locs hw => ?_)
  refine lv_iadd hx hb dX2_seat_30 ?_
  obtain ⟨y_8, e_y_8, hf⟩ := oL_elim hf
  refine z_top e_y_8 ?_
  refine z_put (ws' := [(a_this, .inr (2, [.int v_pitches, .ref a_rows, .ref a_rents, .ref a_roofs, .int v_traders, .ref a_trades, .ref a_fronts, .ref a_limits, .ref a_needy, .ref a_clashes, .int v_covers, .ref a_starts, .ref a_standing, .int y_8])), (a_roofs, .inl (cZ, 24, .inl v_roofs)), (a_fronts, .inl (cI, 8, .inl v_fronts)), (a_needy, .inl (cZ, 8, .inl v_needy)), (a_starts, .inl (cI, 8, .inl v_5)), (a_standing, .inl (cI, 24, .inl v_2))]) E.1 hw in_wsX20 tyX2 tyX2_ok nmX2 0 rfl rfl 13 (z_lt rfl) mw_29 rfl rfl rfl (z_lt rfl) rfl dX2_seat_31 (fun H locs hw => ?_)
  cases hf
  exact z_vret E rfl hw dX2_seat_34
end
/-! X2_blockRent -/
section
variable {p : Program} {l : Launch} {e : Env} {s : State} {m : MethodId} {args : Array Value} {below : List Frame} {meth : Method} {c : Code} {D : va_G} {A : Nat → Prop} {cI cZ cM : ClassId} {a_this a_rows a_rents a_roofs a_trades a_fronts a_limits a_needy a_clashes a_starts a_standing : Nat} {v_traders : Int32} {v_covers : Int32} {v_coversBusy : Int32} {res : Int32}
def rmX2_blockRent : Room := { frames := 0, cells := 0, slots := 0, locals := 0 }
abbrev zwX2_blockRent : List Cond := Cond.code yX2_blockRent cX2_blockRent 6 (some .int) :: wsAll
set_option maxHeartbeats 4000000 in
set_option maxRecDepth 100000 in
theorem w_X2_blockRent_15 {n : Nat} {v_fronts : Nat → Int32} (E : zE p s m args meth c cX2_blockRent 6 (some .int) zwX2_blockRent RX2) : ∀ (fu : Nat), ∀ (x3 : Int32) (x4 : Int32) (x5 : Int32) (v_pitches : Int32) (v_rents : Nat → Int32), f_X2_blockRent_15 n fu x3 x4 x5 v_pitches v_rents = some res → ∀ (H : Heap) (locs : List Loc) (ls : Array Slot), zW D (zT cI cZ cM) A s [(a_this, .inr (2, [.int v_pitches, .ref a_rows, .ref a_rents, .ref a_roofs, .int v_traders, .ref a_trades, .ref a_fronts, .ref a_limits, .ref a_needy, .ref a_clashes, .int v_covers, .ref a_starts, .ref a_standing, .int v_coversBusy])), (a_rents, .inl (cI, 24, .inl v_rents)), (a_fronts, .inl (cI, 8, .inl v_fronts))] H locs → lv_has ls 6 [(0, .ref a_this), (3, .int x3), (4, .int x4), (5, .int x5)] → W p l e rmX2_blockRent s m args below meth c H locs 0 0 (MQ below (zQi D (zT cI cZ cM) res [(a_this, .inr (2, [.int v_pitches, .ref a_rows, .ref a_rents, .ref a_roofs, .int v_traders, .ref a_trades, .ref a_fronts, .ref a_limits, .ref a_needy, .ref a_clashes, .int v_covers, .ref a_starts, .ref a_standing, .int v_coversBusy])), (a_rents, .inl (cI, 24, .inl v_rents)), (a_fronts, .inl (cI, 8, .inl v_fronts))] A) args s 0 0 A) (F0 m 15 ls []) := by
  obtain ⟨⟨hx, hb, hml, hown, hts⟩, hr, hlocks⟩ := id E
  intro fu
  induction fu with
  | zero => intro x3 x4 x5 v_pitches v_rents hf; rw [f_X2_blockRent_15.eq_1] at hf; cases hf
  | succ fu ih =>
    intro x3 x4 x5 v_pitches v_rents hf H locs ls hw hl
    rw [f_X2_blockRent_15.eq_2] at hf
    refine lv_iload hx hb dX2_blockRent_15 (lv_at hl 3 rfl) ?_
    refine lv_iload hx hb dX2_blockRent_17 (lv_at hl 2 rfl) ?_
    refine lv_icmp_ge (tgt := 47) hx hb dX2_blockRent_19 (by decide) (fun hc => ?_) (fun hc => ?_)
    · have hf := oI_pos hc hf
      refine lv_iload_n hx hb dX2_blockRent_47 rfl (lv_at hl 1 rfl) ?_
      cases hf
      exact z_iret E rfl hw dX2_blockRent_48
    · have hf := oI_neg hc hf
      refine lv_iload hx hb dX2_blockRent_22 (lv_at hl 3 rfl) ?_
      refine lv_aload_n hx hb dX2_blockRent_24 rfl (lv_at hl 0 rfl) ?_
      refine z_get E.1 hw in_wsX20 0 rfl rfl 0 (z_lt rfl) mw_14 (v := .int v_pitches) rfl dX2_blockRent_25 ?_
      refine lv_icmp_ge (tgt := 47) hx hb dX2_blockRent_28 (by decide) (fun hc => ?_) (fun hc => ?_)
      · have hf := oI_pos hc hf
        refine lv_iload_n hx hb dX2_blockRent_47 rfl (lv_at hl 1 rfl) ?_
        cases hf
        exact z_iret E rfl hw dX2_blockRent_48
      · have hf := oI_neg hc hf
        refine lv_iload_n hx hb dX2_blockRent_31 rfl (lv_at hl 1 rfl) ?_
        refine lv_aload_n hx hb dX2_blockRent_32 rfl (lv_at hl 0 rfl) ?_
        refine z_get E.1 hw in_wsX20 0 rfl rfl 2 (z_lt rfl) mw_17 (v := .ref a_rents) rfl dX2_blockRent_33 ?_
        refine lv_iload hx hb dX2_blockRent_36 (lv_at hl 3 rfl) ?_
        obtain ⟨h_1, hf⟩ := oA_elim hf
        refine z_iald E.1 hw 1 0 rfl rfl h_1 dX2_blockRent_38 ?_
        refine lv_iadd hx hb dX2_blockRent_39 ?_
        obtain ⟨y_2, e_y_2, hf⟩ := oL_elim hf
        refine z_top e_y_2 ?_
        refine lv_istore_n (lv' := [(3, .int y_2), (0, .ref a_this), (4, .int x4), (5, .int x5)]) hx hb dX2_blockRent_40 rfl hl (z_lt rfl) rfl (fun ls hl => ?_)
        refine lv_iinc (v := (x5 + (1 : Int32))) (lv' := [(5, .int (x5 + (1 : Int32))), (3, .int y_2), (0, .ref a_this), (4, .int x4)]) hx hb dX2_blockRent_41 hl (k := 3) rfl rfl (z_lt rfl) rfl (fun ls hl => ?_)
        refine lv_goto (tgt := 15) hx hb dX2_blockRent_44 (by decide) ?_
        exact ih _ _ _ _ _ hf _ _ _ hw (lv_sub hl [2, 1, 3, 0] rfl)
set_option maxHeartbeats 4000000 in
set_option maxRecDepth 100000 in
theorem c_X2_blockRent {l : Launch} {D : va_G} {cI cZ cM : ClassId} {a_this a_rows a_rents a_roofs a_trades a_fronts a_limits a_needy a_clashes a_starts a_standing : Nat} {v_traders : Int32} {v_covers : Int32} {v_coversBusy : Int32} {res : Int32} {sz : Nat} {n : Nat} {v_pitches : Int32} {v_rents : Nat → Int32} {v_fronts : Nat → Int32} {x1 : Int32} {x2 : Int32} (hf : f_X2_blockRent n v_pitches v_rents v_fronts x1 x2 = some res) : Met l yX2_blockRent zwX2_blockRent rmX2_blockRent (zPc D (zT cI cZ cM) [.ref a_this, .int x1, .int x2] [(a_this, .inr (2, [.int v_pitches, .ref a_rows, .ref a_rents, .ref a_roofs, .int v_traders, .ref a_trades, .ref a_fronts, .ref a_limits, .ref a_needy, .ref a_clashes, .int v_covers, .ref a_starts, .ref a_standing, .int v_coversBusy])), (a_rents, .inl (cI, 24, .inl v_rents)), (a_fronts, .inl (cI, 8, .inl v_fronts))] sz) (zQi D (zT cI cZ cM) res [(a_this, .inr (2, [.int v_pitches, .ref a_rows, .ref a_rents, .ref a_roofs, .int v_traders, .ref a_trades, .ref a_fronts, .ref a_limits, .ref a_needy, .ref a_clashes, .int v_covers, .ref a_starts, .ref a_standing, .int v_coversBusy])), (a_rents, .inl (cI, 24, .inl v_rents)), (a_fronts, .inl (cI, 8, .inl v_fronts))] (va_A [(a_this, .inr (2, [.int v_pitches, .ref a_rows, .ref a_rents, .ref a_roofs, .int v_traders, .ref a_trades, .ref a_fronts, .ref a_limits, .ref a_needy, .ref a_clashes, .int v_covers, .ref a_starts, .ref a_standing, .int v_coversBusy])), (a_rents, .inl (cI, 24, .inl v_rents)), (a_fronts, .inl (cI, 8, .inl v_fronts))] sz)) 0 0 (va_A [(a_this, .inr (2, [.int v_pitches, .ref a_rows, .ref a_rents, .ref a_roofs, .int v_traders, .ref a_trades, .ref a_fronts, .ref a_limits, .ref a_needy, .ref a_clashes, .int v_covers, .ref a_starts, .ref a_standing, .int v_coversBusy])), (a_rents, .inl (cI, 24, .inl v_rents)), (a_fronts, .inl (cI, 8, .inl v_fronts))] sz) := by
  refine z_met (cc := cX2_blockRent) (maxL := 6) (ret := (some .int)) (by decide) rfl (Nat.le_of_ble_eq_true rfl) ?_
  intro p e s m below meth c ls E hsz hw hl
  obtain ⟨⟨hx, hb, hml, hown, hts⟩, hr, hlocks⟩ := id E
  have hl : lv_has ls 6 [(0, .ref a_this), (1, .int x1), (2, .int x2)] := hl
  unfold f_X2_blockRent at hf
  refine lv_iconst (v := 0) hx hb dX2_blockRent_0 (by decide) ?_
  refine lv_istore_n (lv' := [(3, .int (0 : Int32)), (0, .ref a_this), (1, .int x1), (2, .int x2)]) hx hb dX2_blockRent_1 rfl hl (z_lt rfl) rfl (fun ls hl => ?_)
  refine lv_iload_n hx hb dX2_blockRent_2 rfl (lv_at hl 3 rfl) ?_
  refine lv_aload_n hx hb dX2_blockRent_3 rfl (lv_at hl 1 rfl) ?_
  refine z_get E.1 hw in_wsX20 0 rfl rfl 6 (z_lt rfl) mw_22 (v := .ref a_fronts) rfl dX2_blockRent_4 ?_
  refine lv_iload_n hx hb dX2_blockRent_7 rfl (lv_at hl 2 rfl) ?_
  obtain ⟨h_3, hf⟩ := oA_elim hf
  refine z_iald E.1 hw 2 0 rfl rfl h_3 dX2_blockRent_8 ?_
  refine lv_iadd hx hb dX2_blockRent_9 ?_
  obtain ⟨y_4, e_y_4, hf⟩ := oL_elim hf
  refine z_top e_y_4 ?_
  refine lv_istore (lv' := [(4, .int y_4), (3, .int (0 : Int32)), (0, .ref a_this), (1, .int x1), (2, .int x2)]) hx hb dX2_blockRent_10 hl (z_lt rfl) rfl (fun ls hl => ?_)
  refine lv_iload_n hx hb dX2_blockRent_12 rfl (lv_at hl 4 rfl) ?_
  refine lv_istore (lv' := [(5, .int x2), (4, .int y_4), (3, .int (0 : Int32)), (0, .ref a_this), (1, .int x1), (2, .int x2)]) hx hb dX2_blockRent_13 hl (z_lt rfl) rfl (fun ls hl => ?_)
  exact w_X2_blockRent_15 E  n _ _ _ _ _ hf _ _ _ hw (lv_sub hl [3, 2, 1, 0] rfl)
end
/-! X2_shareRow -/
section
variable {p : Program} {l : Launch} {e : Env} {s : State} {m : MethodId} {args : Array Value} {below : List Frame} {meth : Method} {c : Code} {D : va_G} {A : Nat → Prop} {cI cZ cM : ClassId} {a_this a_rows a_rents a_roofs a_trades a_fronts a_limits a_needy a_clashes a_starts a_standing : Nat} {v_traders : Int32} {v_covers : Int32} {v_coversBusy : Int32} {res : Int32}
def rmX2_shareRow : Room := { frames := 0, cells := 0, slots := 0, locals := 0 }
abbrev zwX2_shareRow : List Cond := Cond.code yX2_shareRow cX2_shareRow 3 (some .boolean) :: wsAll
set_option maxHeartbeats 4000000 in
set_option maxRecDepth 100000 in
theorem c_X2_shareRow {l : Launch} {D : va_G} {cI cZ cM : ClassId} {a_this a_rows a_rents a_roofs a_trades a_fronts a_limits a_needy a_clashes a_starts a_standing : Nat} {v_traders : Int32} {v_covers : Int32} {v_coversBusy : Int32} {res : Int32} {sz : Nat} {v_pitches : Int32} {v_rows : Nat → Int32} {x1 : Int32} {x2 : Int32} (hf : f_X2_shareRow v_pitches v_rows x1 x2 = some res) : Met l yX2_shareRow zwX2_shareRow rmX2_shareRow (zPc D (zT cI cZ cM) [.ref a_this, .int x1, .int x2] [(a_this, .inr (2, [.int v_pitches, .ref a_rows, .ref a_rents, .ref a_roofs, .int v_traders, .ref a_trades, .ref a_fronts, .ref a_limits, .ref a_needy, .ref a_clashes, .int v_covers, .ref a_starts, .ref a_standing, .int v_coversBusy])), (a_rows, .inl (cI, 24, .inl v_rows))] sz) (zQi D (zT cI cZ cM) res [(a_this, .inr (2, [.int v_pitches, .ref a_rows, .ref a_rents, .ref a_roofs, .int v_traders, .ref a_trades, .ref a_fronts, .ref a_limits, .ref a_needy, .ref a_clashes, .int v_covers, .ref a_starts, .ref a_standing, .int v_coversBusy])), (a_rows, .inl (cI, 24, .inl v_rows))] (va_A [(a_this, .inr (2, [.int v_pitches, .ref a_rows, .ref a_rents, .ref a_roofs, .int v_traders, .ref a_trades, .ref a_fronts, .ref a_limits, .ref a_needy, .ref a_clashes, .int v_covers, .ref a_starts, .ref a_standing, .int v_coversBusy])), (a_rows, .inl (cI, 24, .inl v_rows))] sz)) 0 0 (va_A [(a_this, .inr (2, [.int v_pitches, .ref a_rows, .ref a_rents, .ref a_roofs, .int v_traders, .ref a_trades, .ref a_fronts, .ref a_limits, .ref a_needy, .ref a_clashes, .int v_covers, .ref a_starts, .ref a_standing, .int v_coversBusy])), (a_rows, .inl (cI, 24, .inl v_rows))] sz) := by
  refine z_met (cc := cX2_shareRow) (maxL := 3) (ret := (some .boolean)) (by decide) rfl (Nat.le_of_ble_eq_true rfl) ?_
  intro p e s m below meth c ls E hsz hw hl
  obtain ⟨⟨hx, hb, hml, hown, hts⟩, hr, hlocks⟩ := id E
  have hl : lv_has ls 3 [(0, .ref a_this), (1, .int x1), (2, .int x2)] := hl
  unfold f_X2_shareRow at hf
  refine lv_iload_n hx hb dX2_shareRow_0 rfl (lv_at hl 1 rfl) ?_
  refine lv_if_lt (tgt := 36) hx hb dX2_shareRow_1 (by decide) (fun hc => ?_) (fun hc => ?_)
  · have hf := oI_pos hc hf
    refine lv_iconst (v := 0) hx hb dX2_shareRow_36 (by decide) ?_
    cases hf
    exact z_zret E rfl z_n0 hw dX2_shareRow_37
  · have hf := oI_neg hc hf
    refine lv_iload_n hx hb dX2_shareRow_4 rfl (lv_at hl 1 rfl) ?_
    refine lv_iload_n hx hb dX2_shareRow_5 rfl (lv_at hl 2 rfl) ?_
    refine lv_icmp_gt (tgt := 36) hx hb dX2_shareRow_6 (by decide) (fun hc => ?_) (fun hc => ?_)
    · have hf := oI_pos hc hf
      refine lv_iconst (v := 0) hx hb dX2_shareRow_36 (by decide) ?_
      cases hf
      exact z_zret E rfl z_n0 hw dX2_shareRow_37
    · have hf := oI_neg hc hf
      refine lv_iload_n hx hb dX2_shareRow_9 rfl (lv_at hl 2 rfl) ?_
      refine lv_aload_n hx hb dX2_shareRow_10 rfl (lv_at hl 0 rfl) ?_
      refine z_get E.1 hw in_wsX20 0 rfl rfl 0 (z_lt rfl) mw_14 (v := .int v_pitches) rfl dX2_shareRow_11 ?_
      refine lv_icmp_ge (tgt := 36) hx hb dX2_shareRow_14 (by decide) (fun hc => ?_) (fun hc => ?_)
      · have hf := oI_pos hc hf
        refine lv_iconst (v := 0) hx hb dX2_shareRow_36 (by decide) ?_
        cases hf
        exact z_zret E rfl z_n0 hw dX2_shareRow_37
      · have hf := oI_neg hc hf
        refine lv_aload_n hx hb dX2_shareRow_17 rfl (lv_at hl 0 rfl) ?_
        refine z_get E.1 hw in_wsX20 0 rfl rfl 1 (z_lt rfl) mw_16 (v := .ref a_rows) rfl dX2_shareRow_18 ?_
        refine lv_iload_n hx hb dX2_shareRow_21 rfl (lv_at hl 1 rfl) ?_
        obtain ⟨h_1, hf⟩ := oA_elim hf
        refine z_iald E.1 hw 1 0 rfl rfl h_1 dX2_shareRow_22 ?_
        refine lv_aload_n hx hb dX2_shareRow_23 rfl (lv_at hl 0 rfl) ?_
        refine z_get E.1 hw in_wsX20 0 rfl rfl 1 (z_lt rfl) mw_16 (v := .ref a_rows) rfl dX2_shareRow_24 ?_
        refine lv_iload_n hx hb dX2_shareRow_27 rfl (lv_at hl 2 rfl) ?_
        obtain ⟨h_2, hf⟩ := oA_elim hf
        refine z_iald E.1 hw 1 0 rfl rfl h_2 dX2_shareRow_28 ?_
        refine lv_icmp_ne (tgt := 36) hx hb dX2_shareRow_29 (by decide) (fun hc => ?_) (fun hc => ?_)
        · have hf := oI_neg hc hf
          refine lv_iconst (v := 0) hx hb dX2_shareRow_36 (by decide) ?_
          cases hf
          exact z_zret E rfl z_n0 hw dX2_shareRow_37
        · have hf := oI_pos hc hf
          refine lv_iconst (v := 1) hx hb dX2_shareRow_32 (by decide) ?_
          refine lv_goto (tgt := 37) hx hb dX2_shareRow_33 (by decide) ?_
          cases hf
          exact z_zret E rfl z_n1 hw dX2_shareRow_37
end
/-! X2_isInOneRow -/
section
variable {p : Program} {l : Launch} {e : Env} {s : State} {m : MethodId} {args : Array Value} {below : List Frame} {meth : Method} {c : Code} {D : va_G} {A : Nat → Prop} {cI cZ cM : ClassId} {a_this a_rows a_rents a_roofs a_trades a_fronts a_limits a_needy a_clashes a_starts a_standing : Nat} {v_traders : Int32} {v_covers : Int32} {v_coversBusy : Int32} {res : Int32}
def rmX2_isInOneRow : Room := { frames := 1, cells := 0, slots := 0, locals := 22 }
abbrev zwX2_isInOneRow : List Cond := Cond.code yX2_isInOneRow cX2_isInOneRow 3 (some .boolean) :: wsAll
set_option maxHeartbeats 4000000 in
set_option maxRecDepth 100000 in
theorem c_X2_isInOneRow {l : Launch} {D : va_G} {cI cZ cM : ClassId} {a_this a_rows a_rents a_roofs a_trades a_fronts a_limits a_needy a_clashes a_starts a_standing : Nat} {v_traders : Int32} {v_covers : Int32} {v_coversBusy : Int32} {res : Int32} {sz : Nat} {v_pitches : Int32} {v_rows : Nat → Int32} {v_fronts : Nat → Int32} {x1 : Int32} {x2 : Int32} (hf : f_X2_isInOneRow v_pitches v_rows v_fronts x1 x2 = some res) : Met l yX2_isInOneRow zwX2_isInOneRow rmX2_isInOneRow (zPc D (zT cI cZ cM) [.ref a_this, .int x1, .int x2] [(a_this, .inr (2, [.int v_pitches, .ref a_rows, .ref a_rents, .ref a_roofs, .int v_traders, .ref a_trades, .ref a_fronts, .ref a_limits, .ref a_needy, .ref a_clashes, .int v_covers, .ref a_starts, .ref a_standing, .int v_coversBusy])), (a_rows, .inl (cI, 24, .inl v_rows)), (a_fronts, .inl (cI, 8, .inl v_fronts))] sz) (zQi D (zT cI cZ cM) res [(a_this, .inr (2, [.int v_pitches, .ref a_rows, .ref a_rents, .ref a_roofs, .int v_traders, .ref a_trades, .ref a_fronts, .ref a_limits, .ref a_needy, .ref a_clashes, .int v_covers, .ref a_starts, .ref a_standing, .int v_coversBusy])), (a_rows, .inl (cI, 24, .inl v_rows)), (a_fronts, .inl (cI, 8, .inl v_fronts))] (va_A [(a_this, .inr (2, [.int v_pitches, .ref a_rows, .ref a_rents, .ref a_roofs, .int v_traders, .ref a_trades, .ref a_fronts, .ref a_limits, .ref a_needy, .ref a_clashes, .int v_covers, .ref a_starts, .ref a_standing, .int v_coversBusy])), (a_rows, .inl (cI, 24, .inl v_rows)), (a_fronts, .inl (cI, 8, .inl v_fronts))] sz)) 0 0 (va_A [(a_this, .inr (2, [.int v_pitches, .ref a_rows, .ref a_rents, .ref a_roofs, .int v_traders, .ref a_trades, .ref a_fronts, .ref a_limits, .ref a_needy, .ref a_clashes, .int v_covers, .ref a_starts, .ref a_standing, .int v_coversBusy])), (a_rows, .inl (cI, 24, .inl v_rows)), (a_fronts, .inl (cI, 8, .inl v_fronts))] sz) := by
  refine z_met (cc := cX2_isInOneRow) (maxL := 3) (ret := (some .boolean)) (by decide) rfl (Nat.le_of_ble_eq_true rfl) ?_
  intro p e s m below meth c ls E hsz hw hl
  obtain ⟨⟨hx, hb, hml, hown, hts⟩, hr, hlocks⟩ := id E
  have hl : lv_has ls 3 [(0, .ref a_this), (1, .int x1), (2, .int x2)] := hl
  unfold f_X2_isInOneRow at hf
  refine lv_aload_n hx hb dX2_isInOneRow_0 rfl (lv_at hl 0 rfl) ?_
  refine lv_iload_n hx hb dX2_isInOneRow_1 rfl (lv_at hl 2 rfl) ?_
  refine lv_iload_n hx hb dX2_isInOneRow_2 rfl (lv_at hl 2 rfl) ?_
  refine lv_aload_n hx hb dX2_isInOneRow_3 rfl (lv_at hl 0 rfl) ?_
  refine z_get E.1 hw in_wsX20 0 rfl rfl 6 (z_lt rfl) mw_22 (v := .ref a_fronts) rfl dX2_isInOneRow_4 ?_
  refine lv_iload_n hx hb dX2_isInOneRow_7 rfl (lv_at hl 1 rfl) ?_
  obtain ⟨h_1, hf⟩ := oA_elim hf
  refine z_iald E.1 hw 2 0 rfl rfl h_1 dX2_isInOneRow_8 ?_
  refine lv_iadd hx hb dX2_isInOneRow_9 ?_
  refine lv_iconst (v := 1) hx hb dX2_isInOneRow_10 (by decide) ?_
  refine lv_isub hx hb dX2_isInOneRow_11 ?_
  obtain ⟨r_2, h_3, hf⟩ := oB_elim hf
  refine z_callVi (ws' := [(a_this, .inr (2, [.int v_pitches, .ref a_rows, .ref a_rents, .ref a_roofs, .int v_traders, .ref a_trades, .ref a_fronts, .ref a_limits, .ref a_needy, .ref a_clashes, .int v_covers, .ref a_starts, .ref a_standing, .int v_coversBusy])), (a_rows, .inl (cI, 24, .inl v_rows)), (a_fronts, .inl (cI, 8, .inl v_fronts))]) (wr := [(a_fronts, .inl (cI, 8, .inl v_fronts))]) (As := [.int x2, .int ((x2 + (v_fronts (x1).toNatClampNeg)) - (1 : Int32))]) (rest := []) E.1 hl hw (c_X2_shareRow h_3) (cwV 2 hts (z_gV mw_71 mw_72 mw_73 mw_9 mw_74) rfl rfl rfl (by decide +kernel) ⟨(Nat.le_of_ble_eq_true rfl), (Nat.le_of_ble_eq_true rfl)⟩) 3 [(0, 2)] [(2, 1)] rfl rfl rfl rfl rfl rfl (by decide +kernel) rfl (q0 := 0) rfl rfl rfl (Nat.le_of_ble_eq_true rfl) dX2_isInOneRow_12 ⟨Nat.le_of_ble_eq_true rfl, Nat.le_of_ble_eq_true rfl⟩ (fun H locs hw => ?_)
  obtain ⟨h_4, hf⟩ := oG_elim hf
  cases hf
  exact z_zret E rfl (z_nar h_4) hw dX2_isInOneRow_15
end
/-! X2_isBlockFree -/
section
variable {p : Program} {l : Launch} {e : Env} {s : State} {m : MethodId} {args : Array Value} {below : List Frame} {meth : Method} {c : Code} {D : va_G} {A : Nat → Prop} {cI cZ cM : ClassId} {a_this a_rows a_rents a_roofs a_trades a_fronts a_limits a_needy a_clashes a_starts a_standing : Nat} {v_traders : Int32} {v_covers : Int32} {v_coversBusy : Int32} {res : Int32}
def rmX2_isBlockFree : Room := { frames := 0, cells := 0, slots := 0, locals := 0 }
abbrev zwX2_isBlockFree : List Cond := Cond.code yX2_isBlockFree cX2_isBlockFree 5 (some .boolean) :: wsAll
set_option maxHeartbeats 4000000 in
set_option maxRecDepth 100000 in
theorem w_X2_isBlockFree_12 {n : Nat} {v_fronts : Nat → Int32} (E : zE p s m args meth c cX2_isBlockFree 5 (some .boolean) zwX2_isBlockFree RX2) : ∀ (fu : Nat), ∀ (x3 : Int32) (x4 : Int32) (v_pitches : Int32) (v_standing : Nat → Int32), f_X2_isBlockFree_12 n fu x3 x4 v_pitches v_standing = some res → ∀ (H : Heap) (locs : List Loc) (ls : Array Slot), zW D (zT cI cZ cM) A s [(a_this, .inr (2, [.int v_pitches, .ref a_rows, .ref a_rents, .ref a_roofs, .int v_traders, .ref a_trades, .ref a_fronts, .ref a_limits, .ref a_needy, .ref a_clashes, .int v_covers, .ref a_starts, .ref a_standing, .int v_coversBusy])), (a_fronts, .inl (cI, 8, .inl v_fronts)), (a_standing, .inl (cI, 24, .inl v_standing))] H locs → lv_has ls 5 [(0, .ref a_this), (3, .int x3), (4, .int x4)] → W p l e rmX2_isBlockFree s m args below meth c H locs 0 0 (MQ below (zQi D (zT cI cZ cM) res [(a_this, .inr (2, [.int v_pitches, .ref a_rows, .ref a_rents, .ref a_roofs, .int v_traders, .ref a_trades, .ref a_fronts, .ref a_limits, .ref a_needy, .ref a_clashes, .int v_covers, .ref a_starts, .ref a_standing, .int v_coversBusy])), (a_fronts, .inl (cI, 8, .inl v_fronts)), (a_standing, .inl (cI, 24, .inl v_standing))] A) args s 0 0 A) (F0 m 12 ls []) := by
  obtain ⟨⟨hx, hb, hml, hown, hts⟩, hr, hlocks⟩ := id E
  intro fu
  induction fu with
  | zero => intro x3 x4 v_pitches v_standing hf; rw [f_X2_isBlockFree_12.eq_1] at hf; cases hf
  | succ fu ih =>
    intro x3 x4 v_pitches v_standing hf H locs ls hw hl
    rw [f_X2_isBlockFree_12.eq_2] at hf
    refine lv_iload hx hb dX2_isBlockFree_12 (lv_at hl 2 rfl) ?_
    refine lv_iload_n hx hb dX2_isBlockFree_14 rfl (lv_at hl 1 rfl) ?_
    refine lv_icmp_ge (tgt := 46) hx hb dX2_isBlockFree_15 (by decide) (fun hc => ?_) (fun hc => ?_)
    · have hf := oI_pos hc hf
      refine lv_iconst (v := 1) hx hb dX2_isBlockFree_46 (by decide) ?_
      cases hf
      exact z_zret E rfl z_n1 hw dX2_isBlockFree_47
    · have hf := oI_neg hc hf
      refine lv_iload hx hb dX2_isBlockFree_18 (lv_at hl 2 rfl) ?_
      refine lv_aload_n hx hb dX2_isBlockFree_20 rfl (lv_at hl 0 rfl) ?_
      refine z_get E.1 hw in_wsX20 0 rfl rfl 0 (z_lt rfl) mw_14 (v := .int v_pitches) rfl dX2_isBlockFree_21 ?_
      refine lv_icmp_ge (tgt := 46) hx hb dX2_isBlockFree_24 (by decide) (fun hc => ?_) (fun hc => ?_)
      · have hf := oI_pos hc hf
        refine lv_iconst (v := 1) hx hb dX2_isBlockFree_46 (by decide) ?_
        cases hf
        exact z_zret E rfl z_n1 hw dX2_isBlockFree_47
      · have hf := oI_neg hc hf
        refine lv_aload_n hx hb dX2_isBlockFree_27 rfl (lv_at hl 0 rfl) ?_
        refine z_get E.1 hw in_wsX20 0 rfl rfl 12 (z_lt rfl) mw_28 (v := .ref a_standing) rfl dX2_isBlockFree_28 ?_
        refine lv_iload hx hb dX2_isBlockFree_31 (lv_at hl 2 rfl) ?_
        obtain ⟨h_1, hf⟩ := oA_elim hf
        refine z_iald E.1 hw 2 0 rfl rfl h_1 dX2_isBlockFree_33 ?_
        refine lv_iconst (v := -1) hx hb dX2_isBlockFree_34 (by decide) ?_
        refine lv_icmp_eq (tgt := 40) hx hb dX2_isBlockFree_35 (by decide) (fun hc => ?_) (fun hc => ?_)
        · have hf := oI_pos hc hf
          refine lv_iinc (v := (x4 + (1 : Int32))) (lv' := [(4, .int (x4 + (1 : Int32))), (0, .ref a_this), (3, .int x3)]) hx hb dX2_isBlockFree_40 hl (k := 2) rfl rfl (z_lt rfl) rfl (fun ls hl => ?_)
          refine lv_goto (tgt := 12) hx hb dX2_isBlockFree_43 (by decide) ?_
          exact ih _ _ _ _ hf _ _ _ hw (lv_sub hl [1, 2, 0] rfl)
        · have hf := oI_neg hc hf
          refine lv_iconst (v := 0) hx hb dX2_isBlockFree_38 (by decide) ?_
          cases hf
          exact z_zret E rfl z_n0 hw dX2_isBlockFree_39
set_option maxHeartbeats 4000000 in
set_option maxRecDepth 100000 in
theorem c_X2_isBlockFree {l : Launch} {D : va_G} {cI cZ cM : ClassId} {a_this a_rows a_rents a_roofs a_trades a_fronts a_limits a_needy a_clashes a_starts a_standing : Nat} {v_traders : Int32} {v_covers : Int32} {v_coversBusy : Int32} {res : Int32} {sz : Nat} {n : Nat} {v_pitches : Int32} {v_fronts : Nat → Int32} {v_standing : Nat → Int32} {x1 : Int32} {x2 : Int32} (hf : f_X2_isBlockFree n v_pitches v_fronts v_standing x1 x2 = some res) : Met l yX2_isBlockFree zwX2_isBlockFree rmX2_isBlockFree (zPc D (zT cI cZ cM) [.ref a_this, .int x1, .int x2] [(a_this, .inr (2, [.int v_pitches, .ref a_rows, .ref a_rents, .ref a_roofs, .int v_traders, .ref a_trades, .ref a_fronts, .ref a_limits, .ref a_needy, .ref a_clashes, .int v_covers, .ref a_starts, .ref a_standing, .int v_coversBusy])), (a_fronts, .inl (cI, 8, .inl v_fronts)), (a_standing, .inl (cI, 24, .inl v_standing))] sz) (zQi D (zT cI cZ cM) res [(a_this, .inr (2, [.int v_pitches, .ref a_rows, .ref a_rents, .ref a_roofs, .int v_traders, .ref a_trades, .ref a_fronts, .ref a_limits, .ref a_needy, .ref a_clashes, .int v_covers, .ref a_starts, .ref a_standing, .int v_coversBusy])), (a_fronts, .inl (cI, 8, .inl v_fronts)), (a_standing, .inl (cI, 24, .inl v_standing))] (va_A [(a_this, .inr (2, [.int v_pitches, .ref a_rows, .ref a_rents, .ref a_roofs, .int v_traders, .ref a_trades, .ref a_fronts, .ref a_limits, .ref a_needy, .ref a_clashes, .int v_covers, .ref a_starts, .ref a_standing, .int v_coversBusy])), (a_fronts, .inl (cI, 8, .inl v_fronts)), (a_standing, .inl (cI, 24, .inl v_standing))] sz)) 0 0 (va_A [(a_this, .inr (2, [.int v_pitches, .ref a_rows, .ref a_rents, .ref a_roofs, .int v_traders, .ref a_trades, .ref a_fronts, .ref a_limits, .ref a_needy, .ref a_clashes, .int v_covers, .ref a_starts, .ref a_standing, .int v_coversBusy])), (a_fronts, .inl (cI, 8, .inl v_fronts)), (a_standing, .inl (cI, 24, .inl v_standing))] sz) := by
  refine z_met (cc := cX2_isBlockFree) (maxL := 5) (ret := (some .boolean)) (by decide) rfl (Nat.le_of_ble_eq_true rfl) ?_
  intro p e s m below meth c ls E hsz hw hl
  obtain ⟨⟨hx, hb, hml, hown, hts⟩, hr, hlocks⟩ := id E
  have hl : lv_has ls 5 [(0, .ref a_this), (1, .int x1), (2, .int x2)] := hl
  unfold f_X2_isBlockFree at hf
  refine lv_iload_n hx hb dX2_isBlockFree_0 rfl (lv_at hl 2 rfl) ?_
  refine lv_aload_n hx hb dX2_isBlockFree_1 rfl (lv_at hl 0 rfl) ?_
  refine z_get E.1 hw in_wsX20 0 rfl rfl 6 (z_lt rfl) mw_22 (v := .ref a_fronts) rfl dX2_isBlockFree_2 ?_
  refine lv_iload_n hx hb dX2_isBlockFree_5 rfl (lv_at hl 1 rfl) ?_
  obtain ⟨h_2, hf⟩ := oA_elim hf
  refine z_iald E.1 hw 1 0 rfl rfl h_2 dX2_isBlockFree_6 ?_
  refine lv_iadd hx hb dX2_isBlockFree_7 ?_
  obtain ⟨y_3, e_y_3, hf⟩ := oL_elim hf
  refine z_top e_y_3 ?_
  refine lv_istore_n (lv' := [(3, .int y_3), (0, .ref a_this), (1, .int x1), (2, .int x2)]) hx hb dX2_isBlockFree_8 rfl hl (z_lt rfl) rfl (fun ls hl => ?_)
  refine lv_iload_n hx hb dX2_isBlockFree_9 rfl (lv_at hl 3 rfl) ?_
  refine lv_istore (lv' := [(4, .int x2), (3, .int y_3), (0, .ref a_this), (1, .int x1), (2, .int x2)]) hx hb dX2_isBlockFree_10 hl (z_lt rfl) rfl (fun ls hl => ?_)
  exact w_X2_isBlockFree_12 E  n _ _ _ _ hf _ _ _ hw (lv_sub hl [2, 1, 0] rfl)
end
/-! X2_affords -/
section
variable {p : Program} {l : Launch} {e : Env} {s : State} {m : MethodId} {args : Array Value} {below : List Frame} {meth : Method} {c : Code} {D : va_G} {A : Nat → Prop} {cI cZ cM : ClassId} {a_this a_rows a_rents a_roofs a_trades a_fronts a_limits a_needy a_clashes a_starts a_standing : Nat} {v_traders : Int32} {v_covers : Int32} {v_coversBusy : Int32} {res : Int32}
def rmX2_affords : Room := { frames := 1, cells := 0, slots := 0, locals := 25 }
abbrev zwX2_affords : List Cond := Cond.code yX2_affords cX2_affords 3 (some .boolean) :: wsAll
set_option maxHeartbeats 4000000 in
set_option maxRecDepth 100000 in
theorem c_X2_affords {l : Launch} {D : va_G} {cI cZ cM : ClassId} {a_this a_rows a_rents a_roofs a_trades a_fronts a_limits a_needy a_clashes a_starts a_standing : Nat} {v_traders : Int32} {v_covers : Int32} {v_coversBusy : Int32} {res : Int32} {sz : Nat} {n : Nat} {v_pitches : Int32} {v_rents : Nat → Int32} {v_fronts : Nat → Int32} {v_limits : Nat → Int32} {x1 : Int32} {x2 : Int32} (hf : f_X2_affords n v_pitches v_rents v_fronts v_limits x1 x2 = some res) : Met l yX2_affords zwX2_affords rmX2_affords (zPc D (zT cI cZ cM) [.ref a_this, .int x1, .int x2] [(a_this, .inr (2, [.int v_pitches, .ref a_rows, .ref a_rents, .ref a_roofs, .int v_traders, .ref a_trades, .ref a_fronts, .ref a_limits, .ref a_needy, .ref a_clashes, .int v_covers, .ref a_starts, .ref a_standing, .int v_coversBusy])), (a_rents, .inl (cI, 24, .inl v_rents)), (a_fronts, .inl (cI, 8, .inl v_fronts)), (a_limits, .inl (cI, 8, .inl v_limits))] sz) (zQi D (zT cI cZ cM) res [(a_this, .inr (2, [.int v_pitches, .ref a_rows, .ref a_rents, .ref a_roofs, .int v_traders, .ref a_trades, .ref a_fronts, .ref a_limits, .ref a_needy, .ref a_clashes, .int v_covers, .ref a_starts, .ref a_standing, .int v_coversBusy])), (a_rents, .inl (cI, 24, .inl v_rents)), (a_fronts, .inl (cI, 8, .inl v_fronts)), (a_limits, .inl (cI, 8, .inl v_limits))] (va_A [(a_this, .inr (2, [.int v_pitches, .ref a_rows, .ref a_rents, .ref a_roofs, .int v_traders, .ref a_trades, .ref a_fronts, .ref a_limits, .ref a_needy, .ref a_clashes, .int v_covers, .ref a_starts, .ref a_standing, .int v_coversBusy])), (a_rents, .inl (cI, 24, .inl v_rents)), (a_fronts, .inl (cI, 8, .inl v_fronts)), (a_limits, .inl (cI, 8, .inl v_limits))] sz)) 0 0 (va_A [(a_this, .inr (2, [.int v_pitches, .ref a_rows, .ref a_rents, .ref a_roofs, .int v_traders, .ref a_trades, .ref a_fronts, .ref a_limits, .ref a_needy, .ref a_clashes, .int v_covers, .ref a_starts, .ref a_standing, .int v_coversBusy])), (a_rents, .inl (cI, 24, .inl v_rents)), (a_fronts, .inl (cI, 8, .inl v_fronts)), (a_limits, .inl (cI, 8, .inl v_limits))] sz) := by
  refine z_met (cc := cX2_affords) (maxL := 3) (ret := (some .boolean)) (by decide) rfl (Nat.le_of_ble_eq_true rfl) ?_
  intro p e s m below meth c ls E hsz hw hl
  obtain ⟨⟨hx, hb, hml, hown, hts⟩, hr, hlocks⟩ := id E
  have hl : lv_has ls 3 [(0, .ref a_this), (1, .int x1), (2, .int x2)] := hl
  unfold f_X2_affords at hf
  refine lv_aload_n hx hb dX2_affords_0 rfl (lv_at hl 0 rfl) ?_
  refine lv_iload_n hx hb dX2_affords_1 rfl (lv_at hl 1 rfl) ?_
  refine lv_iload_n hx hb dX2_affords_2 rfl (lv_at hl 2 rfl) ?_
  obtain ⟨r_1, h_2, hf⟩ := oB_elim hf
  refine z_callVi (ws' := [(a_this, .inr (2, [.int v_pitches, .ref a_rows, .ref a_rents, .ref a_roofs, .int v_traders, .ref a_trades, .ref a_fronts, .ref a_limits, .ref a_needy, .ref a_clashes, .int v_covers, .ref a_starts, .ref a_standing, .int v_coversBusy])), (a_rents, .inl (cI, 24, .inl v_rents)), (a_fronts, .inl (cI, 8, .inl v_fronts)), (a_limits, .inl (cI, 8, .inl v_limits))]) (wr := [(a_limits, .inl (cI, 8, .inl v_limits))]) (As := [.int x1, .int x2]) (rest := []) E.1 hl hw (c_X2_blockRent h_2) (cwV 2 hts (z_gV mw_55 mw_56 mw_57 mw_9 mw_58) rfl rfl rfl (by decide +kernel) ⟨(Nat.le_of_ble_eq_true rfl), (Nat.le_of_ble_eq_true rfl)⟩) 4 [(0, 3)] [(3, 1)] rfl rfl rfl rfl rfl rfl (by decide +kernel) rfl (q0 := 0) rfl rfl rfl (Nat.le_of_ble_eq_true rfl) dX2_affords_3 ⟨Nat.le_of_ble_eq_true rfl, Nat.le_of_ble_eq_true rfl⟩ (fun H locs hw => ?_)
  refine lv_aload_n hx hb dX2_affords_6 rfl (lv_at hl 0 rfl) ?_
  refine z_get E.1 hw in_wsX20 0 rfl rfl 7 (z_lt rfl) mw_23 (v := .ref a_limits) rfl dX2_affords_7 ?_
  refine lv_iload_n hx hb dX2_affords_10 rfl (lv_at hl 1 rfl) ?_
  obtain ⟨h_3, hf⟩ := oA_elim hf
  refine z_iald E.1 hw 3 0 rfl rfl h_3 dX2_affords_11 ?_
  refine lv_icmp_gt (tgt := 19) hx hb dX2_affords_12 (by decide) (fun hc => ?_) (fun hc => ?_)
  · have hf := oI_pos hc hf
    refine lv_iconst (v := 0) hx hb dX2_affords_19 (by decide) ?_
    cases hf
    exact z_zret E rfl z_n0 hw dX2_affords_20
  · have hf := oI_neg hc hf
    refine lv_iconst (v := 1) hx hb dX2_affords_15 (by decide) ?_
    refine lv_goto (tgt := 20) hx hb dX2_affords_16 (by decide) ?_
    cases hf
    exact z_zret E rfl z_n1 hw dX2_affords_20
end
/-! X2_clashesWith -/
section
variable {p : Program} {l : Launch} {e : Env} {s : State} {m : MethodId} {args : Array Value} {below : List Frame} {meth : Method} {c : Code} {D : va_G} {A : Nat → Prop} {cI cZ cM : ClassId} {a_this a_rows a_rents a_roofs a_trades a_fronts a_limits a_needy a_clashes a_starts a_standing : Nat} {v_pitches : Int32} {v_traders : Int32} {v_covers : Int32} {v_coversBusy : Int32} {res : Int32}
def rmX2_clashesWith : Room := { frames := 0, cells := 0, slots := 0, locals := 0 }
abbrev zwX2_clashesWith : List Cond := Cond.code yX2_clashesWith cX2_clashesWith 3 (some .boolean) :: wsAll
set_option maxHeartbeats 4000000 in
set_option maxRecDepth 100000 in
theorem c_X2_clashesWith {l : Launch} {D : va_G} {cI cZ cM : ClassId} {a_this a_rows a_rents a_roofs a_trades a_fronts a_limits a_needy a_clashes a_starts a_standing : Nat} {v_pitches : Int32} {v_traders : Int32} {v_covers : Int32} {v_coversBusy : Int32} {res : Int32} {sz : Nat} {v_trades : Nat → Int32} {v_clashes : Nat → Int32} {x1 : Int32} {x2 : Int32} (hf : f_X2_clashesWith v_trades v_clashes x1 x2 = some res) : Met l yX2_clashesWith zwX2_clashesWith rmX2_clashesWith (zPc D (zT cI cZ cM) [.ref a_this, .int x1, .int x2] [(a_this, .inr (2, [.int v_pitches, .ref a_rows, .ref a_rents, .ref a_roofs, .int v_traders, .ref a_trades, .ref a_fronts, .ref a_limits, .ref a_needy, .ref a_clashes, .int v_covers, .ref a_starts, .ref a_standing, .int v_coversBusy])), (a_trades, .inl (cI, 8, .inl v_trades)), (a_clashes, .inl (cI, 8, .inl v_clashes))] sz) (zQi D (zT cI cZ cM) res [(a_this, .inr (2, [.int v_pitches, .ref a_rows, .ref a_rents, .ref a_roofs, .int v_traders, .ref a_trades, .ref a_fronts, .ref a_limits, .ref a_needy, .ref a_clashes, .int v_covers, .ref a_starts, .ref a_standing, .int v_coversBusy])), (a_trades, .inl (cI, 8, .inl v_trades)), (a_clashes, .inl (cI, 8, .inl v_clashes))] (va_A [(a_this, .inr (2, [.int v_pitches, .ref a_rows, .ref a_rents, .ref a_roofs, .int v_traders, .ref a_trades, .ref a_fronts, .ref a_limits, .ref a_needy, .ref a_clashes, .int v_covers, .ref a_starts, .ref a_standing, .int v_coversBusy])), (a_trades, .inl (cI, 8, .inl v_trades)), (a_clashes, .inl (cI, 8, .inl v_clashes))] sz)) 0 0 (va_A [(a_this, .inr (2, [.int v_pitches, .ref a_rows, .ref a_rents, .ref a_roofs, .int v_traders, .ref a_trades, .ref a_fronts, .ref a_limits, .ref a_needy, .ref a_clashes, .int v_covers, .ref a_starts, .ref a_standing, .int v_coversBusy])), (a_trades, .inl (cI, 8, .inl v_trades)), (a_clashes, .inl (cI, 8, .inl v_clashes))] sz) := by
  refine z_met (cc := cX2_clashesWith) (maxL := 3) (ret := (some .boolean)) (by decide) rfl (Nat.le_of_ble_eq_true rfl) ?_
  intro p e s m below meth c ls E hsz hw hl
  obtain ⟨⟨hx, hb, hml, hown, hts⟩, hr, hlocks⟩ := id E
  have hl : lv_has ls 3 [(0, .ref a_this), (1, .int x1), (2, .int x2)] := hl
  unfold f_X2_clashesWith at hf
  refine lv_iload_n hx hb dX2_clashesWith_0 rfl (lv_at hl 2 rfl) ?_
  refine lv_iconst (v := -1) hx hb dX2_clashesWith_1 (by decide) ?_
  refine lv_icmp_eq (tgt := 32) hx hb dX2_clashesWith_2 (by decide) (fun hc => ?_) (fun hc => ?_)
  · have hf := oI_pos hc hf
    refine lv_iconst (v := 0) hx hb dX2_clashesWith_32 (by decide) ?_
    cases hf
    exact z_zret E rfl z_n0 hw dX2_clashesWith_33
  · have hf := oI_neg hc hf
    refine lv_aload_n hx hb dX2_clashesWith_5 rfl (lv_at hl 0 rfl) ?_
    refine z_get E.1 hw in_wsX20 0 rfl rfl 9 (z_lt rfl) mw_25 (v := .ref a_clashes) rfl dX2_clashesWith_6 ?_
    refine lv_aload_n hx hb dX2_clashesWith_9 rfl (lv_at hl 0 rfl) ?_
    refine z_get E.1 hw in_wsX20 0 rfl rfl 5 (z_lt rfl) mw_21 (v := .ref a_trades) rfl dX2_clashesWith_10 ?_
    refine lv_iload_n hx hb dX2_clashesWith_13 rfl (lv_at hl 1 rfl) ?_
    obtain ⟨h_1, hf⟩ := oA_elim hf
    refine z_iald E.1 hw 1 0 rfl rfl h_1 dX2_clashesWith_14 ?_
    obtain ⟨h_2, hf⟩ := oA_elim hf
    refine z_iald E.1 hw 2 0 rfl rfl h_2 dX2_clashesWith_15 ?_
    refine lv_aload_n hx hb dX2_clashesWith_16 rfl (lv_at hl 0 rfl) ?_
    refine z_get E.1 hw in_wsX20 0 rfl rfl 5 (z_lt rfl) mw_21 (v := .ref a_trades) rfl dX2_clashesWith_17 ?_
    refine lv_iload_n hx hb dX2_clashesWith_20 rfl (lv_at hl 2 rfl) ?_
    obtain ⟨h_3, hf⟩ := oA_elim hf
    refine z_iald E.1 hw 1 0 rfl rfl h_3 dX2_clashesWith_21 ?_
    refine lv_ishr hx hb dX2_clashesWith_22 ?_
    refine lv_iconst (v := 1) hx hb dX2_clashesWith_23 (by decide) ?_
    refine lv_iand hx hb dX2_clashesWith_24 ?_
    refine lv_if_eq (tgt := 32) hx hb dX2_clashesWith_25 (by decide) (fun hc => ?_) (fun hc => ?_)
    · have hf := oI_pos hc hf
      refine lv_iconst (v := 0) hx hb dX2_clashesWith_32 (by decide) ?_
      cases hf
      exact z_zret E rfl z_n0 hw dX2_clashesWith_33
    · have hf := oI_neg hc hf
      refine lv_iconst (v := 1) hx hb dX2_clashesWith_28 (by decide) ?_
      refine lv_goto (tgt := 33) hx hb dX2_clashesWith_29 (by decide) ?_
      cases hf
      exact z_zret E rfl z_n1 hw dX2_clashesWith_33
end
/-! X2_clashesBeside -/
section
variable {p : Program} {l : Launch} {e : Env} {s : State} {m : MethodId} {args : Array Value} {below : List Frame} {meth : Method} {c : Code} {D : va_G} {A : Nat → Prop} {cI cZ cM : ClassId} {a_this a_rows a_rents a_roofs a_trades a_fronts a_limits a_needy a_clashes a_starts a_standing : Nat} {v_traders : Int32} {v_covers : Int32} {v_coversBusy : Int32} {res : Int32}
def rmX2_clashesBeside : Room := { frames := 1, cells := 0, slots := 0, locals := 22 }
abbrev zwX2_clashesBeside : List Cond := Cond.code yX2_clashesBeside cX2_clashesBeside 4 (some .boolean) :: wsAll
set_option maxHeartbeats 4000000 in
set_option maxRecDepth 100000 in
theorem w_X2_clashesBeside_65 {v_pitches : Int32} {v_rows : Nat → Int32} {v_trades : Nat → Int32} {v_fronts : Nat → Int32} {v_clashes : Nat → Int32} {v_standing : Nat → Int32} (E : zE p s m args meth c cX2_clashesBeside 4 (some .boolean) zwX2_clashesBeside RX2) : f_X2_clashesBeside_65 = some res → ∀ (H : Heap) (locs : List Loc) (ls : Array Slot), zW D (zT cI cZ cM) A s [(a_this, .inr (2, [.int v_pitches, .ref a_rows, .ref a_rents, .ref a_roofs, .int v_traders, .ref a_trades, .ref a_fronts, .ref a_limits, .ref a_needy, .ref a_clashes, .int v_covers, .ref a_starts, .ref a_standing, .int v_coversBusy])), (a_rows, .inl (cI, 24, .inl v_rows)), (a_trades, .inl (cI, 8, .inl v_trades)), (a_fronts, .inl (cI, 8, .inl v_fronts)), (a_clashes, .inl (cI, 8, .inl v_clashes)), (a_standing, .inl (cI, 24, .inl v_standing))] H locs → lv_has ls 4 [] → W p l e rmX2_clashesBeside s m args below meth c H locs 0 0 (MQ below (zQi D (zT cI cZ cM) res [(a_this, .inr (2, [.int v_pitches, .ref a_rows, .ref a_rents, .ref a_roofs, .int v_traders, .ref a_trades, .ref a_fronts, .ref a_limits, .ref a_needy, .ref a_clashes, .int v_covers, .ref a_starts, .ref a_standing, .int v_coversBusy])), (a_rows, .inl (cI, 24, .inl v_rows)), (a_trades, .inl (cI, 8, .inl v_trades)), (a_fronts, .inl (cI, 8, .inl v_fronts)), (a_clashes, .inl (cI, 8, .inl v_clashes)), (a_standing, .inl (cI, 24, .inl v_standing))] A) args s 0 0 A) (F0 m 65 ls []) := by
  obtain ⟨⟨hx, hb, hml, hown, hts⟩, hr, hlocks⟩ := id E
  intro  hf H locs ls hw hl
  unfold f_X2_clashesBeside_65 at hf
  refine lv_iconst (v := 1) hx hb dX2_clashesBeside_65 (by decide) ?_
  refine lv_goto (tgt := 70) hx hb dX2_clashesBeside_66 (by decide) ?_
  cases hf
  exact z_zret E rfl z_n1 hw dX2_clashesBeside_70
set_option maxHeartbeats 4000000 in
set_option maxRecDepth 100000 in
theorem w_X2_clashesBeside_38 {v_fronts : Nat → Int32} (E : zE p s m args meth c cX2_clashesBeside 4 (some .boolean) zwX2_clashesBeside RX2) : ∀ (x1 : Int32) (x3 : Int32) (v_pitches : Int32) (v_rows : Nat → Int32) (v_trades : Nat → Int32) (v_clashes : Nat → Int32) (v_standing : Nat → Int32), f_X2_clashesBeside_38 x1 x3 v_pitches v_rows v_trades v_clashes v_standing = some res → ∀ (H : Heap) (locs : List Loc) (ls : Array Slot), zW D (zT cI cZ cM) A s [(a_this, .inr (2, [.int v_pitches, .ref a_rows, .ref a_rents, .ref a_roofs, .int v_traders, .ref a_trades, .ref a_fronts, .ref a_limits, .ref a_needy, .ref a_clashes, .int v_covers, .ref a_starts, .ref a_standing, .int v_coversBusy])), (a_rows, .inl (cI, 24, .inl v_rows)), (a_trades, .inl (cI, 8, .inl v_trades)), (a_fronts, .inl (cI, 8, .inl v_fronts)), (a_clashes, .inl (cI, 8, .inl v_clashes)), (a_standing, .inl (cI, 24, .inl v_standing))] H locs → lv_has ls 4 [(0, .ref a_this), (1, .int x1), (3, .int x3)] → W p l e rmX2_clashesBeside s m args below meth c H locs 0 0 (MQ below (zQi D (zT cI cZ cM) res [(a_this, .inr (2, [.int v_pitches, .ref a_rows, .ref a_rents, .ref a_roofs, .int v_traders, .ref a_trades, .ref a_fronts, .ref a_limits, .ref a_needy, .ref a_clashes, .int v_covers, .ref a_starts, .ref a_standing, .int v_coversBusy])), (a_rows, .inl (cI, 24, .inl v_rows)), (a_trades, .inl (cI, 8, .inl v_trades)), (a_fronts, .inl (cI, 8, .inl v_fronts)), (a_clashes, .inl (cI, 8, .inl v_clashes)), (a_standing, .inl (cI, 24, .inl v_standing))] A) args s 0 0 A) (F0 m 38 ls []) := by
  obtain ⟨⟨hx, hb, hml, hown, hts⟩, hr, hlocks⟩ := id E
  intro x1 x3 v_pitches v_rows v_trades v_clashes v_standing hf H locs ls hw hl
  unfold f_X2_clashesBeside_38 at hf
  refine lv_aload_n hx hb dX2_clashesBeside_38 rfl (lv_at hl 0 rfl) ?_
  refine lv_iload_n hx hb dX2_clashesBeside_39 rfl (lv_at hl 2 rfl) ?_
  refine lv_iload_n hx hb dX2_clashesBeside_40 rfl (lv_at hl 2 rfl) ?_
  refine lv_iconst (v := 1) hx hb dX2_clashesBeside_41 (by decide) ?_
  refine lv_iadd hx hb dX2_clashesBeside_42 ?_
  obtain ⟨r_1, h_2, hf⟩ := oB_elim hf
  refine z_callVi (ws' := [(a_this, .inr (2, [.int v_pitches, .ref a_rows, .ref a_rents, .ref a_roofs, .int v_traders, .ref a_trades, .ref a_fronts, .ref a_limits, .ref a_needy, .ref a_clashes, .int v_covers, .ref a_starts, .ref a_standing, .int v_coversBusy])), (a_rows, .inl (cI, 24, .inl v_rows)), (a_trades, .inl (cI, 8, .inl v_trades)), (a_fronts, .inl (cI, 8, .inl v_fronts)), (a_clashes, .inl (cI, 8, .inl v_clashes)), (a_standing, .inl (cI, 24, .inl v_standing))]) (wr := [(a_trades, .inl (cI, 8, .inl v_trades)), (a_fronts, .inl (cI, 8, .inl v_fronts)), (a_clashes, .inl (cI, 8, .inl v_clashes)), (a_standing, .inl (cI, 24, .inl v_standing))]) (As := [.int x3, .int (x3 + (1 : Int32))]) (rest := []) E.1 hl hw (c_X2_shareRow h_2) (cwV 2 hts (z_gV mw_71 mw_72 mw_73 mw_9 mw_74) rfl rfl rfl (by decide +kernel) ⟨(Nat.le_of_ble_eq_true rfl), (Nat.le_of_ble_eq_true rfl)⟩) 6 [(0, 2)] [(2, 4)] rfl rfl rfl rfl rfl rfl (by decide +kernel) rfl (q0 := 0) rfl rfl rfl (Nat.le_of_ble_eq_true rfl) dX2_clashesBeside_43 ⟨Nat.le_of_ble_eq_true rfl, Nat.le_of_ble_eq_true rfl⟩ (fun H locs hw => ?_)
  refine lv_if_eq (tgt := 69) hx hb dX2_clashesBeside_46 (by decide) (fun hc => ?_) (fun hc => ?_)
  · have hf := oI_pos hc hf
    refine lv_iconst (v := 0) hx hb dX2_clashesBeside_69 (by decide) ?_
    cases hf
    exact z_zret E rfl z_n0 hw dX2_clashesBeside_70
  · have hf := oI_neg hc hf
    refine lv_aload_n hx hb dX2_clashesBeside_49 rfl (lv_at hl 0 rfl) ?_
    refine lv_iload_n hx hb dX2_clashesBeside_50 rfl (lv_at hl 1 rfl) ?_
    refine lv_aload_n hx hb dX2_clashesBeside_51 rfl (lv_at hl 0 rfl) ?_
    refine z_get E.1 hw in_wsX20 0 rfl rfl 12 (z_lt rfl) mw_28 (v := .ref a_standing) rfl dX2_clashesBeside_52 ?_
    refine lv_iload_n hx hb dX2_clashesBeside_55 rfl (lv_at hl 2 rfl) ?_
    refine lv_iconst (v := 1) hx hb dX2_clashesBeside_56 (by decide) ?_
    refine lv_iadd hx hb dX2_clashesBeside_57 ?_
    obtain ⟨h_3, hf⟩ := oA_elim hf
    refine z_iald E.1 hw 5 0 rfl rfl h_3 dX2_clashesBeside_58 ?_
    obtain ⟨r_4, h_5, hf⟩ := oB_elim hf
    refine z_callVi (ws' := [(a_this, .inr (2, [.int v_pitches, .ref a_rows, .ref a_rents, .ref a_roofs, .int v_traders, .ref a_trades, .ref a_fronts, .ref a_limits, .ref a_needy, .ref a_clashes, .int v_covers, .ref a_starts, .ref a_standing, .int v_coversBusy])), (a_rows, .inl (cI, 24, .inl v_rows)), (a_trades, .inl (cI, 8, .inl v_trades)), (a_fronts, .inl (cI, 8, .inl v_fronts)), (a_clashes, .inl (cI, 8, .inl v_clashes)), (a_standing, .inl (cI, 24, .inl v_standing))]) (wr := [(a_rows, .inl (cI, 24, .inl v_rows)), (a_fronts, .inl (cI, 8, .inl v_fronts)), (a_standing, .inl (cI, 24, .inl v_standing))]) (As := [.int x1, .int (v_standing ((x3 + (1 : Int32))).toNatClampNeg)]) (rest := []) E.1 hl hw (c_X2_clashesWith h_5) (cwV 2 hts (z_gV mw_95 mw_96 mw_97 mw_9 mw_98) rfl rfl rfl (by decide +kernel) ⟨(Nat.le_of_ble_eq_true rfl), (Nat.le_of_ble_eq_true rfl)⟩) 6 [(0, 1), (2, 1), (4, 1)] [(1, 1), (3, 1), (5, 1)] rfl rfl rfl rfl rfl rfl (by decide +kernel) rfl (q0 := 0) rfl rfl rfl (Nat.le_of_ble_eq_true rfl) dX2_clashesBeside_59 ⟨Nat.le_of_ble_eq_true rfl, Nat.le_of_ble_eq_true rfl⟩ (fun H locs hw => ?_)
    refine lv_if_eq (tgt := 69) hx hb dX2_clashesBeside_62 (by decide) (fun hc => ?_) (fun hc => ?_)
    · have hf := oI_pos hc hf
      refine lv_iconst (v := 0) hx hb dX2_clashesBeside_69 (by decide) ?_
      cases hf
      exact z_zret E rfl z_n0 hw dX2_clashesBeside_70
    · have hf := oI_neg hc hf
      exact w_X2_clashesBeside_65 E   hf _ _ _ hw (lv_sub hl [] rfl)
set_option maxHeartbeats 4000000 in
set_option maxRecDepth 100000 in
theorem c_X2_clashesBeside {l : Launch} {D : va_G} {cI cZ cM : ClassId} {a_this a_rows a_rents a_roofs a_trades a_fronts a_limits a_needy a_clashes a_starts a_standing : Nat} {v_traders : Int32} {v_covers : Int32} {v_coversBusy : Int32} {res : Int32} {sz : Nat} {v_pitches : Int32} {v_rows : Nat → Int32} {v_trades : Nat → Int32} {v_fronts : Nat → Int32} {v_clashes : Nat → Int32} {v_standing : Nat → Int32} {x1 : Int32} {x2 : Int32} (hf : f_X2_clashesBeside v_pitches v_rows v_trades v_fronts v_clashes v_standing x1 x2 = some res) : Met l yX2_clashesBeside zwX2_clashesBeside rmX2_clashesBeside (zPc D (zT cI cZ cM) [.ref a_this, .int x1, .int x2] [(a_this, .inr (2, [.int v_pitches, .ref a_rows, .ref a_rents, .ref a_roofs, .int v_traders, .ref a_trades, .ref a_fronts, .ref a_limits, .ref a_needy, .ref a_clashes, .int v_covers, .ref a_starts, .ref a_standing, .int v_coversBusy])), (a_rows, .inl (cI, 24, .inl v_rows)), (a_trades, .inl (cI, 8, .inl v_trades)), (a_fronts, .inl (cI, 8, .inl v_fronts)), (a_clashes, .inl (cI, 8, .inl v_clashes)), (a_standing, .inl (cI, 24, .inl v_standing))] sz) (zQi D (zT cI cZ cM) res [(a_this, .inr (2, [.int v_pitches, .ref a_rows, .ref a_rents, .ref a_roofs, .int v_traders, .ref a_trades, .ref a_fronts, .ref a_limits, .ref a_needy, .ref a_clashes, .int v_covers, .ref a_starts, .ref a_standing, .int v_coversBusy])), (a_rows, .inl (cI, 24, .inl v_rows)), (a_trades, .inl (cI, 8, .inl v_trades)), (a_fronts, .inl (cI, 8, .inl v_fronts)), (a_clashes, .inl (cI, 8, .inl v_clashes)), (a_standing, .inl (cI, 24, .inl v_standing))] (va_A [(a_this, .inr (2, [.int v_pitches, .ref a_rows, .ref a_rents, .ref a_roofs, .int v_traders, .ref a_trades, .ref a_fronts, .ref a_limits, .ref a_needy, .ref a_clashes, .int v_covers, .ref a_starts, .ref a_standing, .int v_coversBusy])), (a_rows, .inl (cI, 24, .inl v_rows)), (a_trades, .inl (cI, 8, .inl v_trades)), (a_fronts, .inl (cI, 8, .inl v_fronts)), (a_clashes, .inl (cI, 8, .inl v_clashes)), (a_standing, .inl (cI, 24, .inl v_standing))] sz)) 0 0 (va_A [(a_this, .inr (2, [.int v_pitches, .ref a_rows, .ref a_rents, .ref a_roofs, .int v_traders, .ref a_trades, .ref a_fronts, .ref a_limits, .ref a_needy, .ref a_clashes, .int v_covers, .ref a_starts, .ref a_standing, .int v_coversBusy])), (a_rows, .inl (cI, 24, .inl v_rows)), (a_trades, .inl (cI, 8, .inl v_trades)), (a_fronts, .inl (cI, 8, .inl v_fronts)), (a_clashes, .inl (cI, 8, .inl v_clashes)), (a_standing, .inl (cI, 24, .inl v_standing))] sz) := by
  refine z_met (cc := cX2_clashesBeside) (maxL := 4) (ret := (some .boolean)) (by decide) rfl (Nat.le_of_ble_eq_true rfl) ?_
  intro p e s m below meth c ls E hsz hw hl
  obtain ⟨⟨hx, hb, hml, hown, hts⟩, hr, hlocks⟩ := id E
  have hl : lv_has ls 4 [(0, .ref a_this), (1, .int x1), (2, .int x2)] := hl
  unfold f_X2_clashesBeside at hf
  refine lv_iload_n hx hb dX2_clashesBeside_0 rfl (lv_at hl 2 rfl) ?_
  refine lv_aload_n hx hb dX2_clashesBeside_1 rfl (lv_at hl 0 rfl) ?_
  refine z_get E.1 hw in_wsX20 0 rfl rfl 6 (z_lt rfl) mw_22 (v := .ref a_fronts) rfl dX2_clashesBeside_2 ?_
  refine lv_iload_n hx hb dX2_clashesBeside_5 rfl (lv_at hl 1 rfl) ?_
  obtain ⟨h_6, hf⟩ := oA_elim hf
  refine z_iald E.1 hw 3 0 rfl rfl h_6 dX2_clashesBeside_6 ?_
  refine lv_iadd hx hb dX2_clashesBeside_7 ?_
  refine lv_iconst (v := 1) hx hb dX2_clashesBeside_8 (by decide) ?_
  refine lv_isub hx hb dX2_clashesBeside_9 ?_
  obtain ⟨y_7, e_y_7, hf⟩ := oL_elim hf
  refine z_top e_y_7 ?_
  refine lv_istore_n (lv' := [(3, .int y_7), (0, .ref a_this), (1, .int x1), (2, .int x2)]) hx hb dX2_clashesBeside_10 rfl hl (z_lt rfl) rfl (fun ls hl => ?_)
  refine lv_aload_n hx hb dX2_clashesBeside_11 rfl (lv_at hl 1 rfl) ?_
  refine lv_iload_n hx hb dX2_clashesBeside_12 rfl (lv_at hl 3 rfl) ?_
  refine lv_iconst (v := 1) hx hb dX2_clashesBeside_13 (by decide) ?_
  refine lv_isub hx hb dX2_clashesBeside_14 ?_
  refine lv_iload_n hx hb dX2_clashesBeside_15 rfl (lv_at hl 3 rfl) ?_
  obtain ⟨r_8, h_9, hf⟩ := oB_elim hf
  refine z_callVi (ws' := [(a_this, .inr (2, [.int v_pitches, .ref a_rows, .ref a_rents, .ref a_roofs, .int v_traders, .ref a_trades, .ref a_fronts, .ref a_limits, .ref a_needy, .ref a_clashes, .int v_covers, .ref a_starts, .ref a_standing, .int v_coversBusy])), (a_rows, .inl (cI, 24, .inl v_rows)), (a_trades, .inl (cI, 8, .inl v_trades)), (a_fronts, .inl (cI, 8, .inl v_fronts)), (a_clashes, .inl (cI, 8, .inl v_clashes)), (a_standing, .inl (cI, 24, .inl v_standing))]) (wr := [(a_trades, .inl (cI, 8, .inl v_trades)), (a_fronts, .inl (cI, 8, .inl v_fronts)), (a_clashes, .inl (cI, 8, .inl v_clashes)), (a_standing, .inl (cI, 24, .inl v_standing))]) (As := [.int (x2 - (1 : Int32)), .int x2]) (rest := []) E.1 hl hw (c_X2_shareRow h_9) (cwV 2 hts (z_gV mw_71 mw_72 mw_73 mw_9 mw_74) rfl rfl rfl (by decide +kernel) ⟨(Nat.le_of_ble_eq_true rfl), (Nat.le_of_ble_eq_true rfl)⟩) 6 [(0, 2)] [(2, 4)] rfl rfl rfl rfl rfl rfl (by decide +kernel) rfl (q0 := 0) rfl rfl rfl (Nat.le_of_ble_eq_true rfl) dX2_clashesBeside_16 ⟨Nat.le_of_ble_eq_true rfl, Nat.le_of_ble_eq_true rfl⟩ (fun H locs hw => ?_)
  refine lv_if_eq (tgt := 38) hx hb dX2_clashesBeside_19 (by decide) (fun hc => ?_) (fun hc => ?_)
  · have hf := oI_pos hc hf
    exact w_X2_clashesBeside_38 E  _ _ _ _ _ _ _ hf _ _ _ hw (lv_sub hl [1, 2, 0] rfl)
  · have hf := oI_neg hc hf
    refine lv_aload_n hx hb dX2_clashesBeside_22 rfl (lv_at hl 1 rfl) ?_
    refine lv_iload_n hx hb dX2_clashesBeside_23 rfl (lv_at hl 2 rfl) ?_
    refine lv_aload_n hx hb dX2_clashesBeside_24 rfl (lv_at hl 1 rfl) ?_
    refine z_get E.1 hw in_wsX20 0 rfl rfl 12 (z_lt rfl) mw_28 (v := .ref a_standing) rfl dX2_clashesBeside_25 ?_
    refine lv_iload_n hx hb dX2_clashesBeside_28 rfl (lv_at hl 3 rfl) ?_
    refine lv_iconst (v := 1) hx hb dX2_clashesBeside_29 (by decide) ?_
    refine lv_isub hx hb dX2_clashesBeside_30 ?_
    obtain ⟨h_10, hf⟩ := oA_elim hf
    refine z_iald E.1 hw 5 0 rfl rfl h_10 dX2_clashesBeside_31 ?_
    obtain ⟨r_11, h_12, hf⟩ := oB_elim hf
    refine z_callVi (ws' := [(a_this, .inr (2, [.int v_pitches, .ref a_rows, .ref a_rents, .ref a_roofs, .int v_traders, .ref a_trades, .ref a_fronts, .ref a_limits, .ref a_needy, .ref a_clashes, .int v_covers, .ref a_starts, .ref a_standing, .int v_coversBusy])), (a_rows, .inl (cI, 24, .inl v_rows)), (a_trades, .inl (cI, 8, .inl v_trades)), (a_fronts, .inl (cI, 8, .inl v_fronts)), (a_clashes, .inl (cI, 8, .inl v_clashes)), (a_standing, .inl (cI, 24, .inl v_standing))]) (wr := [(a_rows, .inl (cI, 24, .inl v_rows)), (a_fronts, .inl (cI, 8, .inl v_fronts)), (a_standing, .inl (cI, 24, .inl v_standing))]) (As := [.int x1, .int (v_standing ((x2 - (1 : Int32))).toNatClampNeg)]) (rest := []) E.1 hl hw (c_X2_clashesWith h_12) (cwV 2 hts (z_gV mw_95 mw_96 mw_97 mw_9 mw_98) rfl rfl rfl (by decide +kernel) ⟨(Nat.le_of_ble_eq_true rfl), (Nat.le_of_ble_eq_true rfl)⟩) 6 [(0, 1), (2, 1), (4, 1)] [(1, 1), (3, 1), (5, 1)] rfl rfl rfl rfl rfl rfl (by decide +kernel) rfl (q0 := 0) rfl rfl rfl (Nat.le_of_ble_eq_true rfl) dX2_clashesBeside_32 ⟨Nat.le_of_ble_eq_true rfl, Nat.le_of_ble_eq_true rfl⟩ (fun H locs hw => ?_)
    refine lv_if_ne (tgt := 65) hx hb dX2_clashesBeside_35 (by decide) (fun hc => ?_) (fun hc => ?_)
    · have hf := oI_neg hc hf
      exact w_X2_clashesBeside_65 E   hf _ _ _ hw (lv_sub hl [] rfl)
    · have hf := oI_pos hc hf
      exact w_X2_clashesBeside_38 E  _ _ _ _ _ _ _ hf _ _ _ hw (lv_sub hl [1, 2, 0] rfl)
end
/-! X2_hindrance -/
section
variable {p : Program} {l : Launch} {e : Env} {s : State} {m : MethodId} {args : Array Value} {below : List Frame} {meth : Method} {c : Code} {D : va_G} {A : Nat → Prop} {cI cZ cM : ClassId} {a_this a_rows a_rents a_roofs a_trades a_fronts a_limits a_needy a_clashes a_starts a_standing : Nat} {v_traders : Int32} {res : Int32}
def rmX2_hindrance : Room := { frames := 2, cells := 0, slots := 0, locals := 47 }
abbrev zwX2_hindrance : List Cond := Cond.code yX2_hindrance cX2_hindrance 3 (some .int) :: wsAll
set_option maxHeartbeats 4000000 in
set_option maxRecDepth 100000 in
theorem c_X2_hindrance {l : Launch} {D : va_G} {cI cZ cM : ClassId} {a_this a_rows a_rents a_roofs a_trades a_fronts a_limits a_needy a_clashes a_starts a_standing : Nat} {v_traders : Int32} {res : Int32} {sz : Nat} {n : Nat} {v_pitches : Int32} {v_rows : Nat → Int32} {v_rents : Nat → Int32} {v_roofs : Nat → Int32} {v_trades : Nat → Int32} {v_fronts : Nat → Int32} {v_limits : Nat → Int32} {v_needy : Nat → Int32} {v_clashes : Nat → Int32} {v_covers : Int32} {v_starts : Nat → Int32} {v_standing : Nat → Int32} {v_coversBusy : Int32} {x1 : Int32} {x2 : Int32} (hf : f_X2_hindrance n v_pitches v_rows v_rents v_roofs v_trades v_fronts v_limits v_needy v_clashes v_covers v_starts v_standing v_coversBusy x1 x2 = some res) : Met l yX2_hindrance zwX2_hindrance rmX2_hindrance (zPc D (zT cI cZ cM) [.ref a_this, .int x1, .int x2] [(a_this, .inr (2, [.int v_pitches, .ref a_rows, .ref a_rents, .ref a_roofs, .int v_traders, .ref a_trades, .ref a_fronts, .ref a_limits, .ref a_needy, .ref a_clashes, .int v_covers, .ref a_starts, .ref a_standing, .int v_coversBusy])), (a_rows, .inl (cI, 24, .inl v_rows)), (a_rents, .inl (cI, 24, .inl v_rents)), (a_roofs, .inl (cZ, 24, .inl v_roofs)), (a_trades, .inl (cI, 8, .inl v_trades)), (a_fronts, .inl (cI, 8, .inl v_fronts)), (a_limits, .inl (cI, 8, .inl v_limits)), (a_needy, .inl (cZ, 8, .inl v_needy)), (a_clashes, .inl (cI, 8, .inl v_clashes)), (a_starts, .inl (cI, 8, .inl v_starts)), (a_standing, .inl (cI, 24, .inl v_standing))] sz) (zQi D (zT cI cZ cM) res [(a_this, .inr (2, [.int v_pitches, .ref a_rows, .ref a_rents, .ref a_roofs, .int v_traders, .ref a_trades, .ref a_fronts, .ref a_limits, .ref a_needy, .ref a_clashes, .int v_covers, .ref a_starts, .ref a_standing, .int v_coversBusy])), (a_rows, .inl (cI, 24, .inl v_rows)), (a_rents, .inl (cI, 24, .inl v_rents)), (a_roofs, .inl (cZ, 24, .inl v_roofs)), (a_trades, .inl (cI, 8, .inl v_trades)), (a_fronts, .inl (cI, 8, .inl v_fronts)), (a_limits, .inl (cI, 8, .inl v_limits)), (a_needy, .inl (cZ, 8, .inl v_needy)), (a_clashes, .inl (cI, 8, .inl v_clashes)), (a_starts, .inl (cI, 8, .inl v_starts)), (a_standing, .inl (cI, 24, .inl v_standing))] (va_A [(a_this, .inr (2, [.int v_pitches, .ref a_rows, .ref a_rents, .ref a_roofs, .int v_traders, .ref a_trades, .ref a_fronts, .ref a_limits, .ref a_needy, .ref a_clashes, .int v_covers, .ref a_starts, .ref a_standing, .int v_coversBusy])), (a_rows, .inl (cI, 24, .inl v_rows)), (a_rents, .inl (cI, 24, .inl v_rents)), (a_roofs, .inl (cZ, 24, .inl v_roofs)), (a_trades, .inl (cI, 8, .inl v_trades)), (a_fronts, .inl (cI, 8, .inl v_fronts)), (a_limits, .inl (cI, 8, .inl v_limits)), (a_needy, .inl (cZ, 8, .inl v_needy)), (a_clashes, .inl (cI, 8, .inl v_clashes)), (a_starts, .inl (cI, 8, .inl v_starts)), (a_standing, .inl (cI, 24, .inl v_standing))] sz)) 0 0 (va_A [(a_this, .inr (2, [.int v_pitches, .ref a_rows, .ref a_rents, .ref a_roofs, .int v_traders, .ref a_trades, .ref a_fronts, .ref a_limits, .ref a_needy, .ref a_clashes, .int v_covers, .ref a_starts, .ref a_standing, .int v_coversBusy])), (a_rows, .inl (cI, 24, .inl v_rows)), (a_rents, .inl (cI, 24, .inl v_rents)), (a_roofs, .inl (cZ, 24, .inl v_roofs)), (a_trades, .inl (cI, 8, .inl v_trades)), (a_fronts, .inl (cI, 8, .inl v_fronts)), (a_limits, .inl (cI, 8, .inl v_limits)), (a_needy, .inl (cZ, 8, .inl v_needy)), (a_clashes, .inl (cI, 8, .inl v_clashes)), (a_starts, .inl (cI, 8, .inl v_starts)), (a_standing, .inl (cI, 24, .inl v_standing))] sz) := by
  refine z_met (cc := cX2_hindrance) (maxL := 3) (ret := (some .int)) (by decide) rfl (Nat.le_of_ble_eq_true rfl) ?_
  intro p e s m below meth c ls E hsz hw hl
  obtain ⟨⟨hx, hb, hml, hown, hts⟩, hr, hlocks⟩ := id E
  have hl : lv_has ls 3 [(0, .ref a_this), (1, .int x1), (2, .int x2)] := hl
  unfold f_X2_hindrance at hf
  refine lv_aload_n hx hb dX2_hindrance_0 rfl (lv_at hl 0 rfl) ?_
  refine lv_iload_n hx hb dX2_hindrance_1 rfl (lv_at hl 1 rfl) ?_
  obtain ⟨r_1, h_2, hf⟩ := oB_elim hf
  refine z_callVi (ws' := [(a_this, .inr (2, [.int v_pitches, .ref a_rows, .ref a_rents, .ref a_roofs, .int v_traders, .ref a_trades, .ref a_fronts, .ref a_limits, .ref a_needy, .ref a_clashes, .int v_covers, .ref a_starts, .ref a_standing, .int v_coversBusy])), (a_rows, .inl (cI, 24, .inl v_rows)), (a_rents, .inl (cI, 24, .inl v_rents)), (a_roofs, .inl (cZ, 24, .inl v_roofs)), (a_trades, .inl (cI, 8, .inl v_trades)), (a_fronts, .inl (cI, 8, .inl v_fronts)), (a_limits, .inl (cI, 8, .inl v_limits)), (a_needy, .inl (cZ, 8, .inl v_needy)), (a_clashes, .inl (cI, 8, .inl v_clashes)), (a_starts, .inl (cI, 8, .inl v_starts)), (a_standing, .inl (cI, 24, .inl v_standing))]) (wr := [(a_rows, .inl (cI, 24, .inl v_rows)), (a_rents, .inl (cI, 24, .inl v_rents)), (a_roofs, .inl (cZ, 24, .inl v_roofs)), (a_trades, .inl (cI, 8, .inl v_trades)), (a_fronts, .inl (cI, 8, .inl v_fronts)), (a_limits, .inl (cI, 8, .inl v_limits)), (a_needy, .inl (cZ, 8, .inl v_needy)), (a_clashes, .inl (cI, 8, .inl v_clashes)), (a_standing, .inl (cI, 24, .inl v_standing))]) (As := [.int x1]) (rest := []) E.1 hl hw (c_X2_isSeated h_2) (cwV 1 hts (z_gV mw_63 mw_64 mw_65 mw_9 mw_66) rfl rfl rfl (by decide +kernel) ⟨(Nat.le_of_ble_eq_true rfl), (Nat.le_of_ble_eq_true rfl)⟩) 11 [(0, 1), (9, 1)] [(1, 8), (10, 1)] rfl rfl rfl rfl rfl rfl (by decide +kernel) rfl (q0 := 0) rfl rfl rfl (Nat.le_of_ble_eq_true rfl) dX2_hindrance_2 ⟨Nat.le_of_ble_eq_true rfl, Nat.le_of_ble_eq_true rfl⟩ (fun H locs hw => ?_)
  refine lv_if_eq (tgt := 10) hx hb dX2_hindrance_5 (by decide) (fun hc => ?_) (fun hc => ?_)
  · have hf := oI_pos hc hf
    refine lv_aload_n hx hb dX2_hindrance_10 rfl (lv_at hl 0 rfl) ?_
    refine lv_iload_n hx hb dX2_hindrance_11 rfl (lv_at hl 1 rfl) ?_
    refine lv_iload_n hx hb dX2_hindrance_12 rfl (lv_at hl 2 rfl) ?_
    obtain ⟨r_3, h_4, hf⟩ := oB_elim hf
    refine z_callVi (ws' := [(a_this, .inr (2, [.int v_pitches, .ref a_rows, .ref a_rents, .ref a_roofs, .int v_traders, .ref a_trades, .ref a_fronts, .ref a_limits, .ref a_needy, .ref a_clashes, .int v_covers, .ref a_starts, .ref a_standing, .int v_coversBusy])), (a_rows, .inl (cI, 24, .inl v_rows)), (a_rents, .inl (cI, 24, .inl v_rents)), (a_roofs, .inl (cZ, 24, .inl v_roofs)), (a_trades, .inl (cI, 8, .inl v_trades)), (a_fronts, .inl (cI, 8, .inl v_fronts)), (a_limits, .inl (cI, 8, .inl v_limits)), (a_needy, .inl (cZ, 8, .inl v_needy)), (a_clashes, .inl (cI, 8, .inl v_clashes)), (a_starts, .inl (cI, 8, .inl v_starts)), (a_standing, .inl (cI, 24, .inl v_standing))]) (wr := [(a_rents, .inl (cI, 24, .inl v_rents)), (a_roofs, .inl (cZ, 24, .inl v_roofs)), (a_trades, .inl (cI, 8, .inl v_trades)), (a_limits, .inl (cI, 8, .inl v_limits)), (a_needy, .inl (cZ, 8, .inl v_needy)), (a_clashes, .inl (cI, 8, .inl v_clashes)), (a_starts, .inl (cI, 8, .inl v_starts)), (a_standing, .inl (cI, 24, .inl v_standing))]) (As := [.int x1, .int x2]) (rest := []) E.1 hl hw (c_X2_isInOneRow h_4) (cwV 2 hts (z_gV mw_67 mw_68 mw_69 mw_9 mw_70) rfl rfl rfl (by decide +kernel) ⟨(Nat.le_of_ble_eq_true rfl), (Nat.le_of_ble_eq_true rfl)⟩) 11 [(0, 2), (5, 1)] [(2, 3), (6, 5)] rfl rfl rfl rfl rfl rfl (by decide +kernel) rfl (q0 := 0) rfl rfl rfl (Nat.le_of_ble_eq_true rfl) dX2_hindrance_13 ⟨Nat.le_of_ble_eq_true rfl, Nat.le_of_ble_eq_true rfl⟩ (fun H locs hw => ?_)
    refine lv_if_ne (tgt := 21) hx hb dX2_hindrance_16 (by decide) (fun hc => ?_) (fun hc => ?_)
    · have hf := oI_neg hc hf
      refine lv_aload_n hx hb dX2_hindrance_21 rfl (lv_at hl 0 rfl) ?_
      refine lv_iload_n hx hb dX2_hindrance_22 rfl (lv_at hl 1 rfl) ?_
      refine lv_iload_n hx hb dX2_hindrance_23 rfl (lv_at hl 2 rfl) ?_
      obtain ⟨r_5, h_6, hf⟩ := oB_elim hf
      refine z_callVi (ws' := [(a_this, .inr (2, [.int v_pitches, .ref a_rows, .ref a_rents, .ref a_roofs, .int v_traders, .ref a_trades, .ref a_fronts, .ref a_limits, .ref a_needy, .ref a_clashes, .int v_covers, .ref a_starts, .ref a_standing, .int v_coversBusy])), (a_rows, .inl (cI, 24, .inl v_rows)), (a_rents, .inl (cI, 24, .inl v_rents)), (a_roofs, .inl (cZ, 24, .inl v_roofs)), (a_trades, .inl (cI, 8, .inl v_trades)), (a_fronts, .inl (cI, 8, .inl v_fronts)), (a_limits, .inl (cI, 8, .inl v_limits)), (a_needy, .inl (cZ, 8, .inl v_needy)), (a_clashes, .inl (cI, 8, .inl v_clashes)), (a_starts, .inl (cI, 8, .inl v_starts)), (a_standing, .inl (cI, 24, .inl v_standing))]) (wr := [(a_rows, .inl (cI, 24, .inl v_rows)), (a_rents, .inl (cI, 24, .inl v_rents)), (a_roofs, .inl (cZ, 24, .inl v_roofs)), (a_trades, .inl (cI, 8, .inl v_trades)), (a_limits, .inl (cI, 8, .inl v_limits)), (a_needy, .inl (cZ, 8, .inl v_needy)), (a_clashes, .inl (cI, 8, .inl v_clashes)), (a_starts, .inl (cI, 8, .inl v_starts))]) (As := [.int x1, .int x2]) (rest := []) E.1 hl hw (c_X2_isBlockFree h_6) (cwV 2 hts (z_gV mw_75 mw_76 mw_77 mw_9 mw_78) rfl rfl rfl (by decide +kernel) ⟨(Nat.le_of_ble_eq_true rfl), (Nat.le_of_ble_eq_true rfl)⟩) 11 [(0, 1), (5, 1), (10, 1)] [(1, 4), (6, 4)] rfl rfl rfl rfl rfl rfl (by decide +kernel) rfl (q0 := 0) rfl rfl rfl (Nat.le_of_ble_eq_true rfl) dX2_hindrance_24 ⟨Nat.le_of_ble_eq_true rfl, Nat.le_of_ble_eq_true rfl⟩ (fun H locs hw => ?_)
      refine lv_if_ne (tgt := 32) hx hb dX2_hindrance_27 (by decide) (fun hc => ?_) (fun hc => ?_)
      · have hf := oI_neg hc hf
        refine lv_aload_n hx hb dX2_hindrance_32 rfl (lv_at hl 0 rfl) ?_
        refine lv_iload_n hx hb dX2_hindrance_33 rfl (lv_at hl 1 rfl) ?_
        refine lv_iload_n hx hb dX2_hindrance_34 rfl (lv_at hl 2 rfl) ?_
        obtain ⟨r_7, h_8, hf⟩ := oB_elim hf
        refine z_callVi (ws' := [(a_this, .inr (2, [.int v_pitches, .ref a_rows, .ref a_rents, .ref a_roofs, .int v_traders, .ref a_trades, .ref a_fronts, .ref a_limits, .ref a_needy, .ref a_clashes, .int v_covers, .ref a_starts, .ref a_standing, .int v_coversBusy])), (a_rows, .inl (cI, 24, .inl v_rows)), (a_rents, .inl (cI, 24, .inl v_rents)), (a_roofs, .inl (cZ, 24, .inl v_roofs)), (a_trades, .inl (cI, 8, .inl v_trades)), (a_fronts, .inl (cI, 8, .inl v_fronts)), (a_limits, .inl (cI, 8, .inl v_limits)), (a_needy, .inl (cZ, 8, .inl v_needy)), (a_clashes, .inl (cI, 8, .inl v_clashes)), (a_starts, .inl (cI, 8, .inl v_starts)), (a_standing, .inl (cI, 24, .inl v_standing))]) (wr := [(a_rows, .inl (cI, 24, .inl v_rows)), (a_roofs, .inl (cZ, 24, .inl v_roofs)), (a_trades, .inl (cI, 8, .inl v_trades)), (a_needy, .inl (cZ, 8, .inl v_needy)), (a_clashes, .inl (cI, 8, .inl v_clashes)), (a_starts, .inl (cI, 8, .inl v_starts)), (a_standing, .inl (cI, 24, .inl v_standing))]) (As := [.int x1, .int x2]) (rest := []) E.1 hl hw (c_X2_affords h_8) (cwV 2 hts (z_gV mw_79 mw_80 mw_81 mw_9 mw_82) rfl rfl rfl (by decide +kernel) ⟨(Nat.le_of_ble_eq_true rfl), (Nat.le_of_ble_eq_true rfl)⟩) 11 [(0, 1), (2, 1), (5, 2)] [(1, 1), (3, 2), (7, 4)] rfl rfl rfl rfl rfl rfl (by decide +kernel) rfl (q0 := 0) rfl rfl rfl (Nat.le_of_ble_eq_true rfl) dX2_hindrance_35 ⟨Nat.le_of_ble_eq_true rfl, Nat.le_of_ble_eq_true rfl⟩ (fun H locs hw => ?_)
        refine lv_if_ne (tgt := 43) hx hb dX2_hindrance_38 (by decide) (fun hc => ?_) (fun hc => ?_)
        · have hf := oI_neg hc hf
          refine lv_aload_n hx hb dX2_hindrance_43 rfl (lv_at hl 0 rfl) ?_
          refine z_get E.1 hw in_wsX20 0 rfl rfl 13 (z_lt rfl) mw_29 (v := .int v_coversBusy) rfl dX2_hindrance_44 ?_
          refine lv_aload_n hx hb dX2_hindrance_47 rfl (lv_at hl 0 rfl) ?_
          refine lv_iload_n hx hb dX2_hindrance_48 rfl (lv_at hl 1 rfl) ?_
          refine lv_iload_n hx hb dX2_hindrance_49 rfl (lv_at hl 2 rfl) ?_
          obtain ⟨r_9, h_10, hf⟩ := oB_elim hf
          refine z_callVi (ws' := [(a_this, .inr (2, [.int v_pitches, .ref a_rows, .ref a_rents, .ref a_roofs, .int v_traders, .ref a_trades, .ref a_fronts, .ref a_limits, .ref a_needy, .ref a_clashes, .int v_covers, .ref a_starts, .ref a_standing, .int v_coversBusy])), (a_rows, .inl (cI, 24, .inl v_rows)), (a_rents, .inl (cI, 24, .inl v_rents)), (a_roofs, .inl (cZ, 24, .inl v_roofs)), (a_trades, .inl (cI, 8, .inl v_trades)), (a_fronts, .inl (cI, 8, .inl v_fronts)), (a_limits, .inl (cI, 8, .inl v_limits)), (a_needy, .inl (cZ, 8, .inl v_needy)), (a_clashes, .inl (cI, 8, .inl v_clashes)), (a_starts, .inl (cI, 8, .inl v_starts)), (a_standing, .inl (cI, 24, .inl v_standing))]) (wr := [(a_rows, .inl (cI, 24, .inl v_rows)), (a_rents, .inl (cI, 24, .inl v_rents)), (a_trades, .inl (cI, 8, .inl v_trades)), (a_limits, .inl (cI, 8, .inl v_limits)), (a_clashes, .inl (cI, 8, .inl v_clashes)), (a_starts, .inl (cI, 8, .inl v_starts)), (a_standing, .inl (cI, 24, .inl v_standing))]) (As := [.int x1, .int x2]) (rest := [.int v_coversBusy]) E.1 hl hw (c_X2_coversFor h_10) (cwV 2 hts (z_gV mw_83 mw_84 mw_85 mw_9 mw_86) rfl rfl rfl (by decide +kernel) ⟨(Nat.le_of_ble_eq_true rfl), (Nat.le_of_ble_eq_true rfl)⟩) 11 [(0, 1), (3, 1), (5, 1), (7, 1)] [(1, 2), (4, 1), (6, 1), (8, 3)] rfl rfl rfl rfl rfl rfl (by decide +kernel) rfl (q0 := 0) rfl rfl rfl (Nat.le_of_ble_eq_true rfl) dX2_hindrance_50 ⟨Nat.le_of_ble_eq_true rfl, Nat.le_of_ble_eq_true rfl⟩ (fun H locs hw => ?_)
          refine lv_iadd hx hb dX2_hindrance_53 ?_
          refine lv_aload_n hx hb dX2_hindrance_54 rfl (lv_at hl 0 rfl) ?_
          refine z_get E.1 hw in_wsX20 0 rfl rfl 10 (z_lt rfl) mw_26 (v := .int v_covers) rfl dX2_hindrance_55 ?_
          refine lv_icmp_le (tgt := 63) hx hb dX2_hindrance_58 (by decide) (fun hc => ?_) (fun hc => ?_)
          · have hf := oI_pos hc hf
            refine lv_aload_n hx hb dX2_hindrance_63 rfl (lv_at hl 0 rfl) ?_
            refine lv_iload_n hx hb dX2_hindrance_64 rfl (lv_at hl 1 rfl) ?_
            refine lv_iload_n hx hb dX2_hindrance_65 rfl (lv_at hl 2 rfl) ?_
            obtain ⟨r_11, h_12, hf⟩ := oB_elim hf
            refine z_callVi (ws' := [(a_this, .inr (2, [.int v_pitches, .ref a_rows, .ref a_rents, .ref a_roofs, .int v_traders, .ref a_trades, .ref a_fronts, .ref a_limits, .ref a_needy, .ref a_clashes, .int v_covers, .ref a_starts, .ref a_standing, .int v_coversBusy])), (a_rows, .inl (cI, 24, .inl v_rows)), (a_rents, .inl (cI, 24, .inl v_rents)), (a_roofs, .inl (cZ, 24, .inl v_roofs)), (a_trades, .inl (cI, 8, .inl v_trades)), (a_fronts, .inl (cI, 8, .inl v_fronts)), (a_limits, .inl (cI, 8, .inl v_limits)), (a_needy, .inl (cZ, 8, .inl v_needy)), (a_clashes, .inl (cI, 8, .inl v_clashes)), (a_starts, .inl (cI, 8, .inl v_starts)), (a_standing, .inl (cI, 24, .inl v_standing))]) (wr := [(a_rents, .inl (cI, 24, .inl v_rents)), (a_roofs, .inl (cZ, 24, .inl v_roofs)), (a_limits, .inl (cI, 8, .inl v_limits)), (a_needy, .inl (cZ, 8, .inl v_needy)), (a_starts, .inl (cI, 8, .inl v_starts))]) (As := [.int x1, .int x2]) (rest := []) E.1 hl hw (c_X2_clashesBeside h_12) (cwV 2 hts (z_gV mw_91 mw_92 mw_93 mw_9 mw_94) rfl rfl rfl (by decide +kernel) ⟨(Nat.le_of_ble_eq_true rfl), (Nat.le_of_ble_eq_true rfl)⟩) 11 [(0, 2), (4, 2), (8, 1), (10, 1)] [(2, 2), (6, 2), (9, 1)] rfl rfl rfl rfl rfl rfl (by decide +kernel) rfl (q0 := 0) rfl rfl rfl (Nat.le_of_ble_eq_true rfl) dX2_hindrance_66 ⟨Nat.le_of_ble_eq_true rfl, Nat.le_of_ble_eq_true rfl⟩ (fun H locs hw => ?_)
            refine lv_if_eq (tgt := 77) hx hb dX2_hindrance_69 (by decide) (fun hc => ?_) (fun hc => ?_)
            · have hf := oI_pos hc hf
              refine lv_iconst (v := 0) hx hb dX2_hindrance_77 (by decide) ?_
              cases hf
              exact z_iret E rfl hw dX2_hindrance_78
            · have hf := oI_neg hc hf
              refine lv_bipush (v := 6) hx hb dX2_hindrance_72 (by decide) ?_
              refine lv_goto (tgt := 78) hx hb dX2_hindrance_74 (by decide) ?_
              cases hf
              exact z_iret E rfl hw dX2_hindrance_78
          · have hf := oI_neg hc hf
            refine lv_iconst (v := 5) hx hb dX2_hindrance_61 (by decide) ?_
            cases hf
            exact z_iret E rfl hw dX2_hindrance_62
        · have hf := oI_pos hc hf
          refine lv_iconst (v := 4) hx hb dX2_hindrance_41 (by decide) ?_
          cases hf
          exact z_iret E rfl hw dX2_hindrance_42
      · have hf := oI_pos hc hf
        refine lv_iconst (v := 3) hx hb dX2_hindrance_30 (by decide) ?_
        cases hf
        exact z_iret E rfl hw dX2_hindrance_31
    · have hf := oI_pos hc hf
      refine lv_iconst (v := 2) hx hb dX2_hindrance_19 (by decide) ?_
      cases hf
      exact z_iret E rfl hw dX2_hindrance_20
  · have hf := oI_neg hc hf
    refine lv_iconst (v := 1) hx hb dX2_hindrance_8 (by decide) ?_
    cases hf
    exact z_iret E rfl hw dX2_hindrance_9
end
/-! X2_dearestStart -/
section
variable {p : Program} {l : Launch} {e : Env} {s : State} {m : MethodId} {args : Array Value} {below : List Frame} {meth : Method} {c : Code} {D : va_G} {A : Nat → Prop} {cI cZ cM : ClassId} {a_this a_rows a_rents a_roofs a_trades a_fronts a_limits a_needy a_clashes a_starts a_standing : Nat} {v_traders : Int32} {res : Int32}
def rmX2_dearestStart : Room := { frames := 3, cells := 0, slots := 0, locals := 69 }
abbrev zwX2_dearestStart : List Cond := Cond.code yX2_dearestStart cX2_dearestStart 7 (some .int) :: wsAll
set_option maxHeartbeats 4000000 in
set_option maxRecDepth 100000 in
theorem w_X2_dearestStart_56 {n : Nat} (E : zE p s m args meth c cX2_dearestStart 7 (some .int) zwX2_dearestStart RX2) {k8 : Int32 → Int32 → Int32 → Int32 → Int32 → Int32 → (Nat → Int32) → (Nat → Int32) → (Nat → Int32) → (Nat → Int32) → (Nat → Int32) → (Nat → Int32) → (Nat → Int32) → (Nat → Int32) → Int32 → (Nat → Int32) → (Nat → Int32) → Int32 → Option (Int32)} (hk8 : ∀ (x1 : Int32) (x2 : Int32) (x3 : Int32) (x4 : Int32) (x5 : Int32) (v_pitches : Int32) (v_rows : Nat → Int32) (v_rents : Nat → Int32) (v_roofs : Nat → Int32) (v_trades : Nat → Int32) (v_fronts : Nat → Int32) (v_limits : Nat → Int32) (v_needy : Nat → Int32) (v_clashes : Nat → Int32) (v_covers : Int32) (v_starts : Nat → Int32) (v_standing : Nat → Int32) (v_coversBusy : Int32), k8 x1 x2 x3 x4 x5 v_pitches v_rows v_rents v_roofs v_trades v_fronts v_limits v_needy v_clashes v_covers v_starts v_standing v_coversBusy = some res → ∀ (H : Heap) (locs : List Loc) (ls : Array Slot), zW D (zT cI cZ cM) A s [(a_this, .inr (2, [.int v_pitches, .ref a_rows, .ref a_rents, .ref a_roofs, .int v_traders, .ref a_trades, .ref a_fronts, .ref a_limits, .ref a_needy, .ref a_clashes, .int v_covers, .ref a_starts, .ref a_standing, .int v_coversBusy])), (a_rows, .inl (cI, 24, .inl v_rows)), (a_rents, .inl (cI, 24, .inl v_rents)), (a_roofs, .inl (cZ, 24, .inl v_roofs)), (a_trades, .inl (cI, 8, .inl v_trades)), (a_fronts, .inl (cI, 8, .inl v_fronts)), (a_limits, .inl (cI, 8, .inl v_limits)), (a_needy, .inl (cZ, 8, .inl v_needy)), (a_clashes, .inl (cI, 8, .inl v_clashes)), (a_starts, .inl (cI, 8, .inl v_starts)), (a_standing, .inl (cI, 24, .inl v_standing))] H locs → lv_has ls 7 [(0, .ref a_this), (1, .int x1), (2, .int x2), (3, .int x3), (4, .int x4), (5, .int x5)] → W p l e rmX2_dearestStart s m args below meth c H locs 0 0 (MQ below (zQi D (zT cI cZ cM) res [(a_this, .inr (2, [.int v_pitches, .ref a_rows, .ref a_rents, .ref a_roofs, .int v_traders, .ref a_trades, .ref a_fronts, .ref a_limits, .ref a_needy, .ref a_clashes, .int v_covers, .ref a_starts, .ref a_standing, .int v_coversBusy])), (a_rows, .inl (cI, 24, .inl v_rows)), (a_rents, .inl (cI, 24, .inl v_rents)), (a_roofs, .inl (cZ, 24, .inl v_roofs)), (a_trades, .inl (cI, 8, .inl v_trades)), (a_fronts, .inl (cI, 8, .inl v_fronts)), (a_limits, .inl (cI, 8, .inl v_limits)), (a_needy, .inl (cZ, 8, .inl v_needy)), (a_clashes, .inl (cI, 8, .inl v_clashes)), (a_starts, .inl (cI, 8, .inl v_starts)), (a_standing, .inl (cI, 24, .inl v_standing))] A) args s 0 0 A) (F0 m 8 ls [])) : ∀ (x1 : Int32) (x2 : Int32) (x3 : Int32) (x4 : Int32) (x5 : Int32) (v_pitches : Int32) (v_rows : Nat → Int32) (v_rents : Nat → Int32) (v_roofs : Nat → Int32) (v_trades : Nat → Int32) (v_fronts : Nat → Int32) (v_limits : Nat → Int32) (v_needy : Nat → Int32) (v_clashes : Nat → Int32) (v_covers : Int32) (v_starts : Nat → Int32) (v_standing : Nat → Int32) (v_coversBusy : Int32), f_X2_dearestStart_56 n k8 x1 x2 x3 x4 x5 v_pitches v_rows v_rents v_roofs v_trades v_fronts v_limits v_needy v_clashes v_covers v_starts v_standing v_coversBusy = some res → ∀ (H : Heap) (locs : List Loc) (ls : Array Slot), zW D (zT cI cZ cM) A s [(a_this, .inr (2, [.int v_pitches, .ref a_rows, .ref a_rents, .ref a_roofs, .int v_traders, .ref a_trades, .ref a_fronts, .ref a_limits, .ref a_needy, .ref a_clashes, .int v_covers, .ref a_starts, .ref a_standing, .int v_coversBusy])), (a_rows, .inl (cI, 24, .inl v_rows)), (a_rents, .inl (cI, 24, .inl v_rents)), (a_roofs, .inl (cZ, 24, .inl v_roofs)), (a_trades, .inl (cI, 8, .inl v_trades)), (a_fronts, .inl (cI, 8, .inl v_fronts)), (a_limits, .inl (cI, 8, .inl v_limits)), (a_needy, .inl (cZ, 8, .inl v_needy)), (a_clashes, .inl (cI, 8, .inl v_clashes)), (a_starts, .inl (cI, 8, .inl v_starts)), (a_standing, .inl (cI, 24, .inl v_standing))] H locs → lv_has ls 7 [(0, .ref a_this), (1, .int x1), (2, .int x2), (3, .int x3), (4, .int x4), (5, .int x5)] → W p l e rmX2_dearestStart s m args below meth c H locs 0 0 (MQ below (zQi D (zT cI cZ cM) res [(a_this, .inr (2, [.int v_pitches, .ref a_rows, .ref a_rents, .ref a_roofs, .int v_traders, .ref a_trades, .ref a_fronts, .ref a_limits, .ref a_needy, .ref a_clashes, .int v_covers, .ref a_starts, .ref a_standing, .int v_coversBusy])), (a_rows, .inl (cI, 24, .inl v_rows)), (a_rents, .inl (cI, 24, .inl v_rents)), (a_roofs, .inl (cZ, 24, .inl v_roofs)), (a_trades, .inl (cI, 8, .inl v_trades)), (a_fronts, .inl (cI, 8, .inl v_fronts)), (a_limits, .inl (cI, 8, .inl v_limits)), (a_needy, .inl (cZ, 8, .inl v_needy)), (a_clashes, .inl (cI, 8, .inl v_clashes)), (a_starts, .inl (cI, 8, .inl v_starts)), (a_standing, .inl (cI, 24, .inl v_standing))] A) args s 0 0 A) (F0 m 56 ls []) := by
  obtain ⟨⟨hx, hb, hml, hown, hts⟩, hr, hlocks⟩ := id E
  intro x1 x2 x3 x4 x5 v_pitches v_rows v_rents v_roofs v_trades v_fronts v_limits v_needy v_clashes v_covers v_starts v_standing v_coversBusy hf H locs ls hw hl
  unfold f_X2_dearestStart_56 at hf
  refine lv_iinc (v := (x5 + (1 : Int32))) (lv' := [(5, .int (x5 + (1 : Int32))), (0, .ref a_this), (1, .int x1), (2, .int x2), (3, .int x3), (4, .int x4)]) hx hb dX2_dearestStart_56 hl (k := 5) rfl rfl (z_lt rfl) rfl (fun ls hl => ?_)
  refine lv_goto (tgt := 8) hx hb dX2_dearestStart_59 (by decide) ?_
  exact hk8 _ _ _ _ _ _ _ _ _ _ _ _ _ _ _ _ _ _ hf _ _ _ hw (lv_sub hl [1, 2, 3, 4, 5, 0] rfl)
set_option maxHeartbeats 4000000 in
set_option maxRecDepth 100000 in
theorem w_X2_dearestStart_8 {n : Nat} (E : zE p s m args meth c cX2_dearestStart 7 (some .int) zwX2_dearestStart RX2) : ∀ (fu : Nat), ∀ (x1 : Int32) (x2 : Int32) (x3 : Int32) (x4 : Int32) (x5 : Int32) (v_pitches : Int32) (v_rows : Nat → Int32) (v_rents : Nat → Int32) (v_roofs : Nat → Int32) (v_trades : Nat → Int32) (v_fronts : Nat → Int32) (v_limits : Nat → Int32) (v_needy : Nat → Int32) (v_clashes : Nat → Int32) (v_covers : Int32) (v_starts : Nat → Int32) (v_standing : Nat → Int32) (v_coversBusy : Int32), f_X2_dearestStart_8 n fu x1 x2 x3 x4 x5 v_pitches v_rows v_rents v_roofs v_trades v_fronts v_limits v_needy v_clashes v_covers v_starts v_standing v_coversBusy = some res → ∀ (H : Heap) (locs : List Loc) (ls : Array Slot), zW D (zT cI cZ cM) A s [(a_this, .inr (2, [.int v_pitches, .ref a_rows, .ref a_rents, .ref a_roofs, .int v_traders, .ref a_trades, .ref a_fronts, .ref a_limits, .ref a_needy, .ref a_clashes, .int v_covers, .ref a_starts, .ref a_standing, .int v_coversBusy])), (a_rows, .inl (cI, 24, .inl v_rows)), (a_rents, .inl (cI, 24, .inl v_rents)), (a_roofs, .inl (cZ, 24, .inl v_roofs)), (a_trades, .inl (cI, 8, .inl v_trades)), (a_fronts, .inl (cI, 8, .inl v_fronts)), (a_limits, .inl (cI, 8, .inl v_limits)), (a_needy, .inl (cZ, 8, .inl v_needy)), (a_clashes, .inl (cI, 8, .inl v_clashes)), (a_starts, .inl (cI, 8, .inl v_starts)), (a_standing, .inl (cI, 24, .inl v_standing))] H locs → lv_has ls 7 [(0, .ref a_this), (1, .int x1), (2, .int x2), (3, .int x3), (4, .int x4), (5, .int x5)] → W p l e rmX2_dearestStart s m args below meth c H locs 0 0 (MQ below (zQi D (zT cI cZ cM) res [(a_this, .inr (2, [.int v_pitches, .ref a_rows, .ref a_rents, .ref a_roofs, .int v_traders, .ref a_trades, .ref a_fronts, .ref a_limits, .ref a_needy, .ref a_clashes, .int v_covers, .ref a_starts, .ref a_standing, .int v_coversBusy])), (a_rows, .inl (cI, 24, .inl v_rows)), (a_rents, .inl (cI, 24, .inl v_rents)), (a_roofs, .inl (cZ, 24, .inl v_roofs)), (a_trades, .inl (cI, 8, .inl v_trades)), (a_fronts, .inl (cI, 8, .inl v_fronts)), (a_limits, .inl (cI, 8, .inl v_limits)), (a_needy, .inl (cZ, 8, .inl v_needy)), (a_clashes, .inl (cI, 8, .inl v_clashes)), (a_starts, .inl (cI, 8, .inl v_starts)), (a_standing, .inl (cI, 24, .inl v_standing))] A) args s 0 0 A) (F0 m 8 ls []) := by
  obtain ⟨⟨hx, hb, hml, hown, hts⟩, hr, hlocks⟩ := id E
  intro fu
  induction fu with
  | zero => intro x1 x2 x3 x4 x5 v_pitches v_rows v_rents v_roofs v_trades v_fronts v_limits v_needy v_clashes v_covers v_starts v_standing v_coversBusy hf; rw [f_X2_dearestStart_8.eq_1] at hf; cases hf
  | succ fu ih =>
    intro x1 x2 x3 x4 x5 v_pitches v_rows v_rents v_roofs v_trades v_fronts v_limits v_needy v_clashes v_covers v_starts v_standing v_coversBusy hf H locs ls hw hl
    rw [f_X2_dearestStart_8.eq_2] at hf
    refine lv_iload hx hb dX2_dearestStart_8 (lv_at hl 5 rfl) ?_
    refine lv_aload_n hx hb dX2_dearestStart_10 rfl (lv_at hl 0 rfl) ?_
    refine z_get E.1 hw in_wsX20 0 rfl rfl 0 (z_lt rfl) mw_14 (v := .int v_pitches) rfl dX2_dearestStart_11 ?_
    refine lv_icmp_ge (tgt := 62) hx hb dX2_dearestStart_14 (by decide) (fun hc => ?_) (fun hc => ?_)
    · have hf := oI_pos hc hf
      refine lv_iload_n hx hb dX2_dearestStart_62 rfl (lv_at hl 3 rfl) ?_
      cases hf
      exact z_iret E rfl hw dX2_dearestStart_63
    · have hf := oI_neg hc hf
      refine lv_aload_n hx hb dX2_dearestStart_17 rfl (lv_at hl 0 rfl) ?_
      refine lv_iload_n hx hb dX2_dearestStart_18 rfl (lv_at hl 1 rfl) ?_
      refine lv_iload hx hb dX2_dearestStart_19 (lv_at hl 5 rfl) ?_
      obtain ⟨r_1, h_2, hf⟩ := oB_elim hf
      refine z_callVi (ws' := [(a_this, .inr (2, [.int v_pitches, .ref a_rows, .ref a_rents, .ref a_roofs, .int v_traders, .ref a_trades, .ref a_fronts, .ref a_limits, .ref a_needy, .ref a_clashes, .int v_covers, .ref a_starts, .ref a_standing, .int v_coversBusy])), (a_rows, .inl (cI, 24, .inl v_rows)), (a_rents, .inl (cI, 24, .inl v_rents)), (a_roofs, .inl (cZ, 24, .inl v_roofs)), (a_trades, .inl (cI, 8, .inl v_trades)), (a_fronts, .inl (cI, 8, .inl v_fronts)), (a_limits, .inl (cI, 8, .inl v_limits)), (a_needy, .inl (cZ, 8, .inl v_needy)), (a_clashes, .inl (cI, 8, .inl v_clashes)), (a_starts, .inl (cI, 8, .inl v_starts)), (a_standing, .inl (cI, 24, .inl v_standing))]) (wr := [(a_rows, .inl (cI, 24, .inl v_rows)), (a_roofs, .inl (cZ, 24, .inl v_roofs)), (a_trades, .inl (cI, 8, .inl v_trades)), (a_limits, .inl (cI, 8, .inl v_limits)), (a_needy, .inl (cZ, 8, .inl v_needy)), (a_clashes, .inl (cI, 8, .inl v_clashes)), (a_starts, .inl (cI, 8, .inl v_starts)), (a_standing, .inl (cI, 24, .inl v_standing))]) (As := [.int x1, .int x5]) (rest := []) E.1 hl hw (c_X2_blockRent h_2) (cwV 2 hts (z_gV mw_55 mw_56 mw_57 mw_9 mw_58) rfl rfl rfl (by decide +kernel) ⟨(Nat.le_of_ble_eq_true rfl), (Nat.le_of_ble_eq_true rfl)⟩) 11 [(0, 1), (2, 1), (5, 1)] [(1, 1), (3, 2), (6, 5)] rfl rfl rfl rfl rfl rfl (by decide +kernel) rfl (q0 := 0) rfl rfl rfl (Nat.le_of_ble_eq_true rfl) dX2_dearestStart_21 ⟨Nat.le_of_ble_eq_true rfl, Nat.le_of_ble_eq_true rfl⟩ (fun H locs hw => ?_)
      refine lv_istore (lv' := [(6, .int r_1), (0, .ref a_this), (1, .int x1), (2, .int x2), (3, .int x3), (4, .int x4), (5, .int x5)]) hx hb dX2_dearestStart_24 hl (z_lt rfl) rfl (fun ls hl => ?_)
      refine lv_iload hx hb dX2_dearestStart_26 (lv_at hl 0 rfl) ?_
      refine lv_iload hx hb dX2_dearestStart_28 (lv_at hl 5 rfl) ?_
      refine lv_icmp_le (tgt := 56) hx hb dX2_dearestStart_30 (by decide) (fun hc => ?_) (fun hc => ?_)
      · have hf := oI_pos hc hf
        exact w_X2_dearestStart_56 E ih _ _ _ _ _ _ _ _ _ _ _ _ _ _ _ _ _ _ hf _ _ _ hw (lv_sub hl [1, 2, 3, 4, 5, 6] rfl)
      · have hf := oI_neg hc hf
        refine lv_iload hx hb dX2_dearestStart_33 (lv_at hl 6 rfl) ?_
        refine lv_iload_n hx hb dX2_dearestStart_35 rfl (lv_at hl 3 rfl) ?_
        refine lv_icmp_eq (tgt := 56) hx hb dX2_dearestStart_36 (by decide) (fun hc => ?_) (fun hc => ?_)
        · have hf := oI_pos hc hf
          exact w_X2_dearestStart_56 E ih _ _ _ _ _ _ _ _ _ _ _ _ _ _ _ _ _ _ hf _ _ _ hw (lv_sub hl [1, 2, 3, 4, 5, 6] rfl)
        · have hf := oI_neg hc hf
          refine lv_aload_n hx hb dX2_dearestStart_39 rfl (lv_at hl 1 rfl) ?_
          refine lv_iload_n hx hb dX2_dearestStart_40 rfl (lv_at hl 2 rfl) ?_
          refine lv_iload hx hb dX2_dearestStart_41 (lv_at hl 6 rfl) ?_
          obtain ⟨r_3, h_4, hf⟩ := oB_elim hf
          refine z_callVi (ws' := [(a_this, .inr (2, [.int v_pitches, .ref a_rows, .ref a_rents, .ref a_roofs, .int v_traders, .ref a_trades, .ref a_fronts, .ref a_limits, .ref a_needy, .ref a_clashes, .int v_covers, .ref a_starts, .ref a_standing, .int v_coversBusy])), (a_rows, .inl (cI, 24, .inl v_rows)), (a_rents, .inl (cI, 24, .inl v_rents)), (a_roofs, .inl (cZ, 24, .inl v_roofs)), (a_trades, .inl (cI, 8, .inl v_trades)), (a_fronts, .inl (cI, 8, .inl v_fronts)), (a_limits, .inl (cI, 8, .inl v_limits)), (a_needy, .inl (cZ, 8, .inl v_needy)), (a_clashes, .inl (cI, 8, .inl v_clashes)), (a_starts, .inl (cI, 8, .inl v_starts)), (a_standing, .inl (cI, 24, .inl v_standing))]) (wr := []) (As := [.int x1, .int x5]) (rest := []) E.1 hl hw (c_X2_hindrance h_4) (cwV 2 hts (z_gV mw_59 mw_60 mw_61 mw_9 mw_62) rfl rfl rfl (by decide +kernel) ⟨(Nat.le_of_ble_eq_true rfl), (Nat.le_of_ble_eq_true rfl)⟩) 11 [(0, 11)] [] rfl rfl rfl rfl rfl rfl (by decide +kernel) rfl (q0 := 0) rfl rfl rfl (Nat.le_of_ble_eq_true rfl) dX2_dearestStart_43 ⟨Nat.le_of_ble_eq_true rfl, Nat.le_of_ble_eq_true rfl⟩ (fun H locs hw => ?_)
          refine lv_if_ne (tgt := 56) hx hb dX2_dearestStart_46 (by decide) (fun hc => ?_) (fun hc => ?_)
          · have hf := oI_neg hc hf
            exact w_X2_dearestStart_56 E ih _ _ _ _ _ _ _ _ _ _ _ _ _ _ _ _ _ _ hf _ _ _ hw (lv_sub hl [1, 2, 3, 4, 5, 6] rfl)
          · have hf := oI_pos hc hf
            refine lv_iload hx hb dX2_dearestStart_49 (lv_at hl 0 rfl) ?_
            refine lv_istore (lv' := [(4, .int r_1), (6, .int r_1), (0, .ref a_this), (1, .int x1), (2, .int x2), (3, .int x3), (5, .int x5)]) hx hb dX2_dearestStart_51 hl (z_lt rfl) rfl (fun ls hl => ?_)
            refine lv_iload hx hb dX2_dearestStart_53 (lv_at hl 6 rfl) ?_
            refine lv_istore_n (lv' := [(3, .int x5), (4, .int r_1), (6, .int r_1), (0, .ref a_this), (1, .int x1), (2, .int x2), (5, .int x5)]) hx hb dX2_dearestStart_55 rfl hl (z_lt rfl) rfl (fun ls hl => ?_)
            exact w_X2_dearestStart_56 E ih _ _ _ _ _ _ _ _ _ _ _ _ _ _ _ _ _ _ hf _ _ _ hw (lv_sub hl [3, 4, 5, 0, 1, 6] rfl)
set_option maxHeartbeats 4000000 in
set_option maxRecDepth 100000 in
theorem c_X2_dearestStart {l : Launch} {D : va_G} {cI cZ cM : ClassId} {a_this a_rows a_rents a_roofs a_trades a_fronts a_limits a_needy a_clashes a_starts a_standing : Nat} {v_traders : Int32} {res : Int32} {sz : Nat} {n : Nat} {v_pitches : Int32} {v_rows : Nat → Int32} {v_rents : Nat → Int32} {v_roofs : Nat → Int32} {v_trades : Nat → Int32} {v_fronts : Nat → Int32} {v_limits : Nat → Int32} {v_needy : Nat → Int32} {v_clashes : Nat → Int32} {v_covers : Int32} {v_starts : Nat → Int32} {v_standing : Nat → Int32} {v_coversBusy : Int32} {x1 : Int32} {x2 : Int32} (hf : f_X2_dearestStart n v_pitches v_rows v_rents v_roofs v_trades v_fronts v_limits v_needy v_clashes v_covers v_starts v_standing v_coversBusy x1 x2 = some res) : Met l yX2_dearestStart zwX2_dearestStart rmX2_dearestStart (zPc D (zT cI cZ cM) [.ref a_this, .int x1, .int x2] [(a_this, .inr (2, [.int v_pitches, .ref a_rows, .ref a_rents, .ref a_roofs, .int v_traders, .ref a_trades, .ref a_fronts, .ref a_limits, .ref a_needy, .ref a_clashes, .int v_covers, .ref a_starts, .ref a_standing, .int v_coversBusy])), (a_rows, .inl (cI, 24, .inl v_rows)), (a_rents, .inl (cI, 24, .inl v_rents)), (a_roofs, .inl (cZ, 24, .inl v_roofs)), (a_trades, .inl (cI, 8, .inl v_trades)), (a_fronts, .inl (cI, 8, .inl v_fronts)), (a_limits, .inl (cI, 8, .inl v_limits)), (a_needy, .inl (cZ, 8, .inl v_needy)), (a_clashes, .inl (cI, 8, .inl v_clashes)), (a_starts, .inl (cI, 8, .inl v_starts)), (a_standing, .inl (cI, 24, .inl v_standing))] sz) (zQi D (zT cI cZ cM) res [(a_this, .inr (2, [.int v_pitches, .ref a_rows, .ref a_rents, .ref a_roofs, .int v_traders, .ref a_trades, .ref a_fronts, .ref a_limits, .ref a_needy, .ref a_clashes, .int v_covers, .ref a_starts, .ref a_standing, .int v_coversBusy])), (a_rows, .inl (cI, 24, .inl v_rows)), (a_rents, .inl (cI, 24, .inl v_rents)), (a_roofs, .inl (cZ, 24, .inl v_roofs)), (a_trades, .inl (cI, 8, .inl v_trades)), (a_fronts, .inl (cI, 8, .inl v_fronts)), (a_limits, .inl (cI, 8, .inl v_limits)), (a_needy, .inl (cZ, 8, .inl v_needy)), (a_clashes, .inl (cI, 8, .inl v_clashes)), (a_starts, .inl (cI, 8, .inl v_starts)), (a_standing, .inl (cI, 24, .inl v_standing))] (va_A [(a_this, .inr (2, [.int v_pitches, .ref a_rows, .ref a_rents, .ref a_roofs, .int v_traders, .ref a_trades, .ref a_fronts, .ref a_limits, .ref a_needy, .ref a_clashes, .int v_covers, .ref a_starts, .ref a_standing, .int v_coversBusy])), (a_rows, .inl (cI, 24, .inl v_rows)), (a_rents, .inl (cI, 24, .inl v_rents)), (a_roofs, .inl (cZ, 24, .inl v_roofs)), (a_trades, .inl (cI, 8, .inl v_trades)), (a_fronts, .inl (cI, 8, .inl v_fronts)), (a_limits, .inl (cI, 8, .inl v_limits)), (a_needy, .inl (cZ, 8, .inl v_needy)), (a_clashes, .inl (cI, 8, .inl v_clashes)), (a_starts, .inl (cI, 8, .inl v_starts)), (a_standing, .inl (cI, 24, .inl v_standing))] sz)) 0 0 (va_A [(a_this, .inr (2, [.int v_pitches, .ref a_rows, .ref a_rents, .ref a_roofs, .int v_traders, .ref a_trades, .ref a_fronts, .ref a_limits, .ref a_needy, .ref a_clashes, .int v_covers, .ref a_starts, .ref a_standing, .int v_coversBusy])), (a_rows, .inl (cI, 24, .inl v_rows)), (a_rents, .inl (cI, 24, .inl v_rents)), (a_roofs, .inl (cZ, 24, .inl v_roofs)), (a_trades, .inl (cI, 8, .inl v_trades)), (a_fronts, .inl (cI, 8, .inl v_fronts)), (a_limits, .inl (cI, 8, .inl v_limits)), (a_needy, .inl (cZ, 8, .inl v_needy)), (a_clashes, .inl (cI, 8, .inl v_clashes)), (a_starts, .inl (cI, 8, .inl v_starts)), (a_standing, .inl (cI, 24, .inl v_standing))] sz) := by
  refine z_met (cc := cX2_dearestStart) (maxL := 7) (ret := (some .int)) (by decide) rfl (Nat.le_of_ble_eq_true rfl) ?_
  intro p e s m below meth c ls E hsz hw hl
  obtain ⟨⟨hx, hb, hml, hown, hts⟩, hr, hlocks⟩ := id E
  have hl : lv_has ls 7 [(0, .ref a_this), (1, .int x1), (2, .int x2)] := hl
  unfold f_X2_dearestStart at hf
  refine lv_iconst (v := -1) hx hb dX2_dearestStart_0 (by decide) ?_
  refine lv_istore_n (lv' := [(3, .int (-1 : Int32)), (0, .ref a_this), (1, .int x1), (2, .int x2)]) hx hb dX2_dearestStart_1 rfl hl (z_lt rfl) rfl (fun ls hl => ?_)
  refine lv_iconst (v := 0) hx hb dX2_dearestStart_2 (by decide) ?_
  refine lv_istore (lv' := [(4, .int (0 : Int32)), (3, .int (-1 : Int32)), (0, .ref a_this), (1, .int x1), (2, .int x2)]) hx hb dX2_dearestStart_3 hl (z_lt rfl) rfl (fun ls hl => ?_)
  refine lv_iconst (v := 0) hx hb dX2_dearestStart_5 (by decide) ?_
  refine lv_istore (lv' := [(5, .int (0 : Int32)), (4, .int (0 : Int32)), (3, .int (-1 : Int32)), (0, .ref a_this), (1, .int x1), (2, .int x2)]) hx hb dX2_dearestStart_6 hl (z_lt rfl) rfl (fun ls hl => ?_)
  exact w_X2_dearestStart_8 E  n _ _ _ _ _ _ _ _ _ _ _ _ _ _ _ _ _ _ hf _ _ _ hw (lv_sub hl [3, 4, 5, 2, 1, 0] rfl)
end
/-! X1_sumHopes -/
section
variable {p : Program} {l : Launch} {e : Env} {s : State} {m : MethodId} {args : Array Value} {below : List Frame} {meth : Method} {c : Code} {D : va_G} {A : Nat → Prop} {cI cZ cM : ClassId} {a_this a_street a_found a_oldStarts a_walkers a_hopes a_street_rows a_street_rents a_street_roofs a_street_trades a_street_fronts a_street_limits a_street_needy a_street_clashes a_street_starts a_street_standing : Nat} {v_mostIncome : Int32} {v_fewestMoved : Int32} {v_street_traders : Int32} {res : Int32 × (Nat → Int32)}
def rmX1_sumHopes : Room := { frames := 4, cells := 0, slots := 0, locals := 95 }
abbrev zwX1_sumHopes : List Cond := Cond.code yX1_sumHopes cX1_sumHopes 4 (some .boolean) :: wsAll
set_option maxHeartbeats 4000000 in
set_option maxRecDepth 100000 in
theorem w_X1_sumHopes_11 {n : Nat} (E : zE p s m args meth c cX1_sumHopes 4 (some .boolean) zwX1_sumHopes RX1) : ∀ (fu : Nat), ∀ (x2 : Int32) (v_street_pitches : Int32) (v_street_rows : Nat → Int32) (v_street_rents : Nat → Int32) (v_street_roofs : Nat → Int32) (v_street_trades : Nat → Int32) (v_street_fronts : Nat → Int32) (v_street_limits : Nat → Int32) (v_street_needy : Nat → Int32) (v_street_clashes : Nat → Int32) (v_street_covers : Int32) (v_street_starts : Nat → Int32) (v_street_standing : Nat → Int32) (v_street_coversBusy : Int32) (v_oldStarts : Nat → Int32) (v_walkers : Nat → Int32) (v_hopes : Nat → Int32), f_X1_sumHopes_11 n fu x2 v_street_pitches v_street_rows v_street_rents v_street_roofs v_street_trades v_street_fronts v_street_limits v_street_needy v_street_clashes v_street_covers v_street_starts v_street_standing v_street_coversBusy v_oldStarts v_walkers v_hopes = some res → ∀ (H : Heap) (locs : List Loc) (ls : Array Slot), zW D (zT cI cZ cM) A s [(a_this, .inr (1, [.ref a_street, .ref a_found, .int v_mostIncome, .int v_fewestMoved, .ref a_oldStarts, .ref a_walkers, .ref a_hopes])), (a_street, .inr (2, [.int v_street_pitches, .ref a_street_rows, .ref a_street_rents, .ref a_street_roofs, .int v_street_traders, .ref a_street_trades, .ref a_street_fronts, .ref a_street_limits, .ref a_street_needy, .ref a_street_clashes, .int v_street_covers, .ref a_street_starts, .ref a_street_standing, .int v_street_coversBusy])), (a_street_rows, .inl (cI, 24, .inl v_street_rows)), (a_street_rents, .inl (cI, 24, .inl v_street_rents)), (a_street_roofs, .inl (cZ, 24, .inl v_street_roofs)), (a_street_trades, .inl (cI, 8, .inl v_street_trades)), (a_street_fronts, .inl (cI, 8, .inl v_street_fronts)), (a_street_limits, .inl (cI, 8, .inl v_street_limits)), (a_street_needy, .inl (cZ, 8, .inl v_street_needy)), (a_street_clashes, .inl (cI, 8, .inl v_street_clashes)), (a_street_starts, .inl (cI, 8, .inl v_street_starts)), (a_street_standing, .inl (cI, 24, .inl v_street_standing)), (a_oldStarts, .inl (cI, 8, .inl v_oldStarts)), (a_walkers, .inl (cI, 3, .inl v_walkers)), (a_hopes, .inl (cI, 4, .inl v_hopes))] H locs → lv_has ls 4 [(0, .ref a_this), (2, .int x2)] → W p l e rmX1_sumHopes s m args below meth c H locs 0 0 (MQ below (zQi D (zT cI cZ cM) res.1 [(a_this, .inr (1, [.ref a_street, .ref a_found, .int v_mostIncome, .int v_fewestMoved, .ref a_oldStarts, .ref a_walkers, .ref a_hopes])), (a_street, .inr (2, [.int v_street_pitches, .ref a_street_rows, .ref a_street_rents, .ref a_street_roofs, .int v_street_traders, .ref a_street_trades, .ref a_street_fronts, .ref a_street_limits, .ref a_street_needy, .ref a_street_clashes, .int v_street_covers, .ref a_street_starts, .ref a_street_standing, .int v_street_coversBusy])), (a_street_rows, .inl (cI, 24, .inl v_street_rows)), (a_street_rents, .inl (cI, 24, .inl v_street_rents)), (a_street_roofs, .inl (cZ, 24, .inl v_street_roofs)), (a_street_trades, .inl (cI, 8, .inl v_street_trades)), (a_street_fronts, .inl (cI, 8, .inl v_street_fronts)), (a_street_limits, .inl (cI, 8, .inl v_street_limits)), (a_street_needy, .inl (cZ, 8, .inl v_street_needy)), (a_street_clashes, .inl (cI, 8, .inl v_street_clashes)), (a_street_starts, .inl (cI, 8, .inl v_street_starts)), (a_street_standing, .inl (cI, 24, .inl v_street_standing)), (a_oldStarts, .inl (cI, 8, .inl v_oldStarts)), (a_walkers, .inl (cI, 3, .inl v_walkers)), (a_hopes, .inl (cI, 4, .inl res.2))] A) args s 0 0 A) (F0 m 11 ls []) := by
  obtain ⟨⟨hx, hb, hml, hown, hts⟩, hr, hlocks⟩ := id E
  intro fu
  induction fu with
  | zero => intro x2 v_street_pitches v_street_rows v_street_rents v_street_roofs v_street_trades v_street_fronts v_street_limits v_street_needy v_street_clashes v_street_covers v_street_starts v_street_standing v_street_coversBusy v_oldStarts v_walkers v_hopes hf; rw [f_X1_sumHopes_11.eq_1] at hf; cases hf
  | succ fu ih =>
    intro x2 v_street_pitches v_street_rows v_street_rents v_street_roofs v_street_trades v_street_fronts v_street_limits v_street_needy v_street_clashes v_street_covers v_street_starts v_street_standing v_street_coversBusy v_oldStarts v_walkers v_hopes hf H locs ls hw hl
    rw [f_X1_sumHopes_11.eq_2] at hf
    refine lv_iload_n hx hb dX1_sumHopes_11 rfl (lv_at hl 1 rfl) ?_
    refine lv_if_lt (tgt := 82) hx hb dX1_sumHopes_12 (by decide) (fun hc => ?_) (fun hc => ?_)
    · have hf := oI_pos hc hf
      refine lv_iconst (v := 1) hx hb dX1_sumHopes_82 (by decide) ?_
      cases hf
      exact z_zret E rfl z_n1 hw dX1_sumHopes_83
    · have hf := oI_neg hc hf
      refine lv_aload_n hx hb dX1_sumHopes_15 rfl (lv_at hl 0 rfl) ?_
      refine z_get E.1 hw in_wsX10 0 rfl rfl 0 (z_lt rfl) mw_41 (v := .ref a_street) rfl dX1_sumHopes_16 ?_
      refine lv_aload_n hx hb dX1_sumHopes_19 rfl (lv_at hl 0 rfl) ?_
      refine z_get E.1 hw in_wsX10 0 rfl rfl 5 (z_lt rfl) mw_43 (v := .ref a_walkers) rfl dX1_sumHopes_20 ?_
      refine lv_iload_n hx hb dX1_sumHopes_23 rfl (lv_at hl 1 rfl) ?_
      obtain ⟨h_1, hf⟩ := oA_elim hf
      refine z_iald E.1 hw 13 0 rfl rfl h_1 dX1_sumHopes_24 ?_
      refine lv_aload_n hx hb dX1_sumHopes_25 rfl (lv_at hl 0 rfl) ?_
      refine z_get E.1 hw in_wsX10 0 rfl rfl 4 (z_lt rfl) mw_44 (v := .ref a_oldStarts) rfl dX1_sumHopes_26 ?_
      refine lv_aload_n hx hb dX1_sumHopes_29 rfl (lv_at hl 0 rfl) ?_
      refine z_get E.1 hw in_wsX10 0 rfl rfl 5 (z_lt rfl) mw_43 (v := .ref a_walkers) rfl dX1_sumHopes_30 ?_
      refine lv_iload_n hx hb dX1_sumHopes_33 rfl (lv_at hl 1 rfl) ?_
      obtain ⟨h_2, hf⟩ := oA_elim hf
      refine z_iald E.1 hw 13 0 rfl rfl h_2 dX1_sumHopes_34 ?_
      obtain ⟨h_3, hf⟩ := oA_elim hf
      refine z_iald E.1 hw 12 0 rfl rfl h_3 dX1_sumHopes_35 ?_
      obtain ⟨r_4, h_5, hf⟩ := oB_elim hf
      refine z_callVi (ws' := [(a_this, .inr (1, [.ref a_street, .ref a_found, .int v_mostIncome, .int v_fewestMoved, .ref a_oldStarts, .ref a_walkers, .ref a_hopes])), (a_street, .inr (2, [.int v_street_pitches, .ref a_street_rows, .ref a_street_rents, .ref a_street_roofs, .int v_street_traders, .ref a_street_trades, .ref a_street_fronts, .ref a_street_limits, .ref a_street_needy, .ref a_street_clashes, .int v_street_covers, .ref a_street_starts, .ref a_street_standing, .int v_street_coversBusy])), (a_street_rows, .inl (cI, 24, .inl v_street_rows)), (a_street_rents, .inl (cI, 24, .inl v_street_rents)), (a_street_roofs, .inl (cZ, 24, .inl v_street_roofs)), (a_street_trades, .inl (cI, 8, .inl v_street_trades)), (a_street_fronts, .inl (cI, 8, .inl v_street_fronts)), (a_street_limits, .inl (cI, 8, .inl v_street_limits)), (a_street_needy, .inl (cZ, 8, .inl v_street_needy)), (a_street_clashes, .inl (cI, 8, .inl v_street_clashes)), (a_street_starts, .inl (cI, 8, .inl v_street_starts)), (a_street_standing, .inl (cI, 24, .inl v_street_standing)), (a_oldStarts, .inl (cI, 8, .inl v_oldStarts)), (a_walkers, .inl (cI, 3, .inl v_walkers)), (a_hopes, .inl (cI, 4, .inl v_hopes))]) (wr := [(a_this, .inr (1, [.ref a_street, .ref a_found, .int v_mostIncome, .int v_fewestMoved, .ref a_oldStarts, .ref a_walkers, .ref a_hopes])), (a_oldStarts, .inl (cI, 8, .inl v_oldStarts)), (a_walkers, .inl (cI, 3, .inl v_walkers)), (a_hopes, .inl (cI, 4, .inl v_hopes))]) (As := [.int (v_walkers (x2).toNatClampNeg), .int (v_oldStarts ((v_walkers (x2).toNatClampNeg)).toNatClampNeg)]) (rest := []) E.1 hl hw (c_X2_dearestStart h_5) (cwV 2 hts (z_gV mw_51 mw_52 mw_53 mw_9 mw_54) rfl rfl rfl (by decide +kernel) ⟨(Nat.le_of_ble_eq_true rfl), (Nat.le_of_ble_eq_true rfl)⟩) 15 [(1, 11)] [(0, 1), (12, 3)] rfl rfl rfl rfl rfl rfl (by decide +kernel) rfl (q0 := 0) rfl rfl rfl (Nat.le_of_ble_eq_true rfl) dX1_sumHopes_36 ⟨Nat.le_of_ble_eq_true rfl, Nat.le_of_ble_eq_true rfl⟩ (fun H locs hw => ?_)
      refine lv_istore_n (lv' := [(3, .int r_4), (0, .ref a_this), (2, .int x2)]) hx hb dX1_sumHopes_39 rfl hl (z_lt rfl) rfl (fun ls hl => ?_)
      refine lv_iload_n hx hb dX1_sumHopes_40 rfl (lv_at hl 0 rfl) ?_
      refine lv_iconst (v := -1) hx hb dX1_sumHopes_41 (by decide) ?_
      refine lv_icmp_ne (tgt := 47) hx hb dX1_sumHopes_42 (by decide) (fun hc => ?_) (fun hc => ?_)
      · have hf := oI_neg hc hf
        refine lv_aload_n hx hb dX1_sumHopes_47 rfl (lv_at hl 1 rfl) ?_
        refine z_get E.1 hw in_wsX10 0 rfl rfl 6 (z_lt rfl) mw_50 (v := .ref a_hopes) rfl dX1_sumHopes_48 ?_
        refine lv_iload_n hx hb dX1_sumHopes_51 rfl (lv_at hl 2 rfl) ?_
        refine lv_aload_n hx hb dX1_sumHopes_52 rfl (lv_at hl 1 rfl) ?_
        refine z_get E.1 hw in_wsX10 0 rfl rfl 6 (z_lt rfl) mw_50 (v := .ref a_hopes) rfl dX1_sumHopes_53 ?_
        refine lv_iload_n hx hb dX1_sumHopes_56 rfl (lv_at hl 2 rfl) ?_
        refine lv_iconst (v := 1) hx hb dX1_sumHopes_57 (by decide) ?_
        refine lv_iadd hx hb dX1_sumHopes_58 ?_
        obtain ⟨h_6, hf⟩ := oA_elim hf
        refine z_iald E.1 hw 14 0 rfl rfl h_6 dX1_sumHopes_59 ?_
        refine lv_aload_n hx hb dX1_sumHopes_60 rfl (lv_at hl 1 rfl) ?_
        refine z_get E.1 hw in_wsX10 0 rfl rfl 0 (z_lt rfl) mw_41 (v := .ref a_street) rfl dX1_sumHopes_61 ?_
        refine lv_aload_n hx hb dX1_sumHopes_64 rfl (lv_at hl 1 rfl) ?_
        refine z_get E.1 hw in_wsX10 0 rfl rfl 5 (z_lt rfl) mw_43 (v := .ref a_walkers) rfl dX1_sumHopes_65 ?_
        refine lv_iload_n hx hb dX1_sumHopes_68 rfl (lv_at hl 2 rfl) ?_
        obtain ⟨h_7, hf⟩ := oA_elim hf
        refine z_iald E.1 hw 13 0 rfl rfl h_7 dX1_sumHopes_69 ?_
        refine lv_iload_n hx hb dX1_sumHopes_70 rfl (lv_at hl 0 rfl) ?_
        obtain ⟨r_8, h_9, hf⟩ := oB_elim hf
        refine z_callVi (ws' := [(a_this, .inr (1, [.ref a_street, .ref a_found, .int v_mostIncome, .int v_fewestMoved, .ref a_oldStarts, .ref a_walkers, .ref a_hopes])), (a_street, .inr (2, [.int v_street_pitches, .ref a_street_rows, .ref a_street_rents, .ref a_street_roofs, .int v_street_traders, .ref a_street_trades, .ref a_street_fronts, .ref a_street_limits, .ref a_street_needy, .ref a_street_clashes, .int v_street_covers, .ref a_street_starts, .ref a_street_standing, .int v_street_coversBusy])), (a_street_rows, .inl (cI, 24, .inl v_street_rows)), (a_street_rents, .inl (cI, 24, .inl v_street_rents)), (a_street_roofs, .inl (cZ, 24, .inl v_street_roofs)), (a_street_trades, .inl (cI, 8, .inl v_street_trades)), (a_street_fronts, .inl (cI, 8, .inl v_street_fronts)), (a_street_limits, .inl (cI, 8, .inl v_street_limits)), (a_street_needy, .inl (cZ, 8, .inl v_street_needy)), (a_street_clashes, .inl (cI, 8, .inl v_street_clashes)), (a_street_starts, .inl (cI, 8, .inl v_street_starts)), (a_street_standing, .inl (cI, 24, .inl v_street_standing)), (a_oldStarts, .inl (cI, 8, .inl v_oldStarts)), (a_walkers, .inl (cI, 3, .inl v_walkers)), (a_hopes, .inl (cI, 4, .inl v_hopes))]) (wr := [(a_this, .inr (1, [.ref a_street, .ref a_found, .int v_mostIncome, .int v_fewestMoved, .ref a_oldStarts, .ref a_walkers, .ref a_hopes])), (a_street_rows, .inl (cI, 24, .inl v_street_rows)), (a_street_roofs, .inl (cZ, 24, .inl v_street_roofs)), (a_street_trades, .inl (cI, 8, .inl v_street_trades)), (a_street_limits, .inl (cI, 8, .inl v_street_limits)), (a_street_needy, .inl (cZ, 8, .inl v_street_needy)), (a_street_clashes, .inl (cI, 8, .inl v_street_clashes)), (a_street_starts, .inl (cI, 8, .inl v_street_starts)), (a_street_standing, .inl (cI, 24, .inl v_street_standing)), (a_oldStarts, .inl (cI, 8, .inl v_oldStarts)), (a_walkers, .inl (cI, 3, .inl v_walkers)), (a_hopes, .inl (cI, 4, .inl v_hopes))]) (As := [.int (v_walkers (x2).toNatClampNeg), .int r_4]) (rest := [.int (v_hopes ((x2 + (1 : Int32))).toNatClampNeg), .int x2, .ref a_hopes]) E.1 hl hw (c_X2_blockRent h_9) (cwV 2 hts (z_gV mw_99 mw_56 mw_57 mw_9 mw_58) rfl rfl rfl (by decide +kernel) ⟨(Nat.le_of_ble_eq_true rfl), (Nat.le_of_ble_eq_true rfl)⟩) 15 [(1, 1), (3, 1), (6, 1)] [(0, 1), (2, 1), (4, 2), (7, 8)] rfl rfl rfl rfl rfl rfl (by decide +kernel) rfl (q0 := 0) rfl rfl rfl (Nat.le_of_ble_eq_true rfl) dX1_sumHopes_71 ⟨Nat.le_of_ble_eq_true rfl, Nat.le_of_ble_eq_true rfl⟩ (fun H locs hw => ?_)
        refine lv_iadd hx hb dX1_sumHopes_74 ?_
        obtain ⟨h_10, hf⟩ := oA_elim hf
        obtain ⟨v_11, e_v_11, hf⟩ := oL_elim hf
        refine z_iast (ws' := [(a_this, .inr (1, [.ref a_street, .ref a_found, .int v_mostIncome, .int v_fewestMoved, .ref a_oldStarts, .ref a_walkers, .ref a_hopes])), (a_street, .inr (2, [.int v_street_pitches, .ref a_street_rows, .ref a_street_rents, .ref a_street_roofs, .int v_street_traders, .ref a_street_trades, .ref a_street_fronts, .ref a_street_limits, .ref a_street_needy, .ref a_street_clashes, .int v_street_covers, .ref a_street_starts, .ref a_street_standing, .int v_street_coversBusy])), (a_street_rows, .inl (cI, 24, .inl v_street_rows)), (a_street_rents, .inl (cI, 24, .inl v_street_rents)), (a_street_roofs, .inl (cZ, 24, .inl v_street_roofs)), (a_street_trades, .inl (cI, 8, .inl v_street_trades)), (a_street_fronts, .inl (cI, 8, .inl v_street_fronts)), (a_street_limits, .inl (cI, 8, .inl v_street_limits)), (a_street_needy, .inl (cZ, 8, .inl v_street_needy)), (a_street_clashes, .inl (cI, 8, .inl v_street_clashes)), (a_street_starts, .inl (cI, 8, .inl v_street_starts)), (a_street_standing, .inl (cI, 24, .inl v_street_standing)), (a_oldStarts, .inl (cI, 8, .inl v_oldStarts)), (a_walkers, .inl (cI, 3, .inl v_walkers)), (a_hopes, .inl (cI, 4, .inl v_11))]) E.1 hw 14 0 rfl rfl h_10 (by subst e_v_11; rfl) dX1_sumHopes_75 (fun H locs hw => ?_)
        refine lv_iinc (v := (x2 + (-1 : Int32))) (lv' := [(2, .int (x2 + (-1 : Int32))), (3, .int r_4), (0, .ref a_this)]) hx hb dX1_sumHopes_76 hl (k := 2) rfl rfl (z_lt rfl) rfl (fun ls hl => ?_)
        refine lv_goto (tgt := 11) hx hb dX1_sumHopes_79 (by decide) ?_
        exact ih _ _ _ _ _ _ _ _ _ _ _ _ _ _ _ _ _ hf _ _ _ hw (lv_sub hl [2, 0] rfl)
      · have hf := oI_pos hc hf
        refine lv_iconst (v := 0) hx hb dX1_sumHopes_45 (by decide) ?_
        cases hf
        exact z_zret E rfl z_n0 hw dX1_sumHopes_46
set_option maxHeartbeats 4000000 in
set_option maxRecDepth 100000 in
theorem c_X1_sumHopes {l : Launch} {D : va_G} {cI cZ cM : ClassId} {a_this a_street a_found a_oldStarts a_walkers a_hopes a_street_rows a_street_rents a_street_roofs a_street_trades a_street_fronts a_street_limits a_street_needy a_street_clashes a_street_starts a_street_standing : Nat} {v_mostIncome : Int32} {v_fewestMoved : Int32} {v_street_traders : Int32} {res : Int32 × (Nat → Int32)} {sz : Nat} {n : Nat} {v_street_pitches : Int32} {v_street_rows : Nat → Int32} {v_street_rents : Nat → Int32} {v_street_roofs : Nat → Int32} {v_street_trades : Nat → Int32} {v_street_fronts : Nat → Int32} {v_street_limits : Nat → Int32} {v_street_needy : Nat → Int32} {v_street_clashes : Nat → Int32} {v_street_covers : Int32} {v_street_starts : Nat → Int32} {v_street_standing : Nat → Int32} {v_street_coversBusy : Int32} {v_oldStarts : Nat → Int32} {v_walkers : Nat → Int32} {v_hopes : Nat → Int32} {x1 : Int32} (hf : f_X1_sumHopes n v_street_pitches v_street_rows v_street_rents v_street_roofs v_street_trades v_street_fronts v_street_limits v_street_needy v_street_clashes v_street_covers v_street_starts v_street_standing v_street_coversBusy v_oldStarts v_walkers v_hopes x1 = some res) : Met l yX1_sumHopes zwX1_sumHopes rmX1_sumHopes (zPc D (zT cI cZ cM) [.ref a_this, .int x1] [(a_this, .inr (1, [.ref a_street, .ref a_found, .int v_mostIncome, .int v_fewestMoved, .ref a_oldStarts, .ref a_walkers, .ref a_hopes])), (a_street, .inr (2, [.int v_street_pitches, .ref a_street_rows, .ref a_street_rents, .ref a_street_roofs, .int v_street_traders, .ref a_street_trades, .ref a_street_fronts, .ref a_street_limits, .ref a_street_needy, .ref a_street_clashes, .int v_street_covers, .ref a_street_starts, .ref a_street_standing, .int v_street_coversBusy])), (a_street_rows, .inl (cI, 24, .inl v_street_rows)), (a_street_rents, .inl (cI, 24, .inl v_street_rents)), (a_street_roofs, .inl (cZ, 24, .inl v_street_roofs)), (a_street_trades, .inl (cI, 8, .inl v_street_trades)), (a_street_fronts, .inl (cI, 8, .inl v_street_fronts)), (a_street_limits, .inl (cI, 8, .inl v_street_limits)), (a_street_needy, .inl (cZ, 8, .inl v_street_needy)), (a_street_clashes, .inl (cI, 8, .inl v_street_clashes)), (a_street_starts, .inl (cI, 8, .inl v_street_starts)), (a_street_standing, .inl (cI, 24, .inl v_street_standing)), (a_oldStarts, .inl (cI, 8, .inl v_oldStarts)), (a_walkers, .inl (cI, 3, .inl v_walkers)), (a_hopes, .inl (cI, 4, .inl v_hopes))] sz) (zQi D (zT cI cZ cM) res.1 [(a_this, .inr (1, [.ref a_street, .ref a_found, .int v_mostIncome, .int v_fewestMoved, .ref a_oldStarts, .ref a_walkers, .ref a_hopes])), (a_street, .inr (2, [.int v_street_pitches, .ref a_street_rows, .ref a_street_rents, .ref a_street_roofs, .int v_street_traders, .ref a_street_trades, .ref a_street_fronts, .ref a_street_limits, .ref a_street_needy, .ref a_street_clashes, .int v_street_covers, .ref a_street_starts, .ref a_street_standing, .int v_street_coversBusy])), (a_street_rows, .inl (cI, 24, .inl v_street_rows)), (a_street_rents, .inl (cI, 24, .inl v_street_rents)), (a_street_roofs, .inl (cZ, 24, .inl v_street_roofs)), (a_street_trades, .inl (cI, 8, .inl v_street_trades)), (a_street_fronts, .inl (cI, 8, .inl v_street_fronts)), (a_street_limits, .inl (cI, 8, .inl v_street_limits)), (a_street_needy, .inl (cZ, 8, .inl v_street_needy)), (a_street_clashes, .inl (cI, 8, .inl v_street_clashes)), (a_street_starts, .inl (cI, 8, .inl v_street_starts)), (a_street_standing, .inl (cI, 24, .inl v_street_standing)), (a_oldStarts, .inl (cI, 8, .inl v_oldStarts)), (a_walkers, .inl (cI, 3, .inl v_walkers)), (a_hopes, .inl (cI, 4, .inl res.2))] (va_A [(a_this, .inr (1, [.ref a_street, .ref a_found, .int v_mostIncome, .int v_fewestMoved, .ref a_oldStarts, .ref a_walkers, .ref a_hopes])), (a_street, .inr (2, [.int v_street_pitches, .ref a_street_rows, .ref a_street_rents, .ref a_street_roofs, .int v_street_traders, .ref a_street_trades, .ref a_street_fronts, .ref a_street_limits, .ref a_street_needy, .ref a_street_clashes, .int v_street_covers, .ref a_street_starts, .ref a_street_standing, .int v_street_coversBusy])), (a_street_rows, .inl (cI, 24, .inl v_street_rows)), (a_street_rents, .inl (cI, 24, .inl v_street_rents)), (a_street_roofs, .inl (cZ, 24, .inl v_street_roofs)), (a_street_trades, .inl (cI, 8, .inl v_street_trades)), (a_street_fronts, .inl (cI, 8, .inl v_street_fronts)), (a_street_limits, .inl (cI, 8, .inl v_street_limits)), (a_street_needy, .inl (cZ, 8, .inl v_street_needy)), (a_street_clashes, .inl (cI, 8, .inl v_street_clashes)), (a_street_starts, .inl (cI, 8, .inl v_street_starts)), (a_street_standing, .inl (cI, 24, .inl v_street_standing)), (a_oldStarts, .inl (cI, 8, .inl v_oldStarts)), (a_walkers, .inl (cI, 3, .inl v_walkers)), (a_hopes, .inl (cI, 4, .inl v_hopes))] sz)) 0 0 (va_A [(a_this, .inr (1, [.ref a_street, .ref a_found, .int v_mostIncome, .int v_fewestMoved, .ref a_oldStarts, .ref a_walkers, .ref a_hopes])), (a_street, .inr (2, [.int v_street_pitches, .ref a_street_rows, .ref a_street_rents, .ref a_street_roofs, .int v_street_traders, .ref a_street_trades, .ref a_street_fronts, .ref a_street_limits, .ref a_street_needy, .ref a_street_clashes, .int v_street_covers, .ref a_street_starts, .ref a_street_standing, .int v_street_coversBusy])), (a_street_rows, .inl (cI, 24, .inl v_street_rows)), (a_street_rents, .inl (cI, 24, .inl v_street_rents)), (a_street_roofs, .inl (cZ, 24, .inl v_street_roofs)), (a_street_trades, .inl (cI, 8, .inl v_street_trades)), (a_street_fronts, .inl (cI, 8, .inl v_street_fronts)), (a_street_limits, .inl (cI, 8, .inl v_street_limits)), (a_street_needy, .inl (cZ, 8, .inl v_street_needy)), (a_street_clashes, .inl (cI, 8, .inl v_street_clashes)), (a_street_starts, .inl (cI, 8, .inl v_street_starts)), (a_street_standing, .inl (cI, 24, .inl v_street_standing)), (a_oldStarts, .inl (cI, 8, .inl v_oldStarts)), (a_walkers, .inl (cI, 3, .inl v_walkers)), (a_hopes, .inl (cI, 4, .inl v_hopes))] sz) := by
  refine z_met (cc := cX1_sumHopes) (maxL := 4) (ret := (some .boolean)) (by decide) rfl (Nat.le_of_ble_eq_true rfl) ?_
  intro p e s m below meth c ls E hsz hw hl
  obtain ⟨⟨hx, hb, hml, hown, hts⟩, hr, hlocks⟩ := id E
  have hl : lv_has ls 4 [(0, .ref a_this), (1, .int x1)] := hl
  unfold f_X1_sumHopes at hf
  refine lv_aload_n hx hb dX1_sumHopes_0 rfl (lv_at hl 0 rfl) ?_
  refine z_get E.1 hw in_wsX10 0 rfl rfl 6 (z_lt rfl) mw_50 (v := .ref a_hopes) rfl dX1_sumHopes_1 ?_
  refine lv_iload_n hx hb dX1_sumHopes_4 rfl (lv_at hl 1 rfl) ?_
  refine lv_iconst (v := 1) hx hb dX1_sumHopes_5 (by decide) ?_
  refine lv_iadd hx hb dX1_sumHopes_6 ?_
  refine lv_iconst (v := 0) hx hb dX1_sumHopes_7 (by decide) ?_
  obtain ⟨h_12, hf⟩ := oA_elim hf
  obtain ⟨v_13, e_v_13, hf⟩ := oL_elim hf
  refine z_iast (ws' := [(a_this, .inr (1, [.ref a_street, .ref a_found, .int v_mostIncome, .int v_fewestMoved, .ref a_oldStarts, .ref a_walkers, .ref a_hopes])), (a_street, .inr (2, [.int v_street_pitches, .ref a_street_rows, .ref a_street_rents, .ref a_street_roofs, .int v_street_traders, .ref a_street_trades, .ref a_street_fronts, .ref a_street_limits, .ref a_street_needy, .ref a_street_clashes, .int v_street_covers, .ref a_street_starts, .ref a_street_standing, .int v_street_coversBusy])), (a_street_rows, .inl (cI, 24, .inl v_street_rows)), (a_street_rents, .inl (cI, 24, .inl v_street_rents)), (a_street_roofs, .inl (cZ, 24, .inl v_street_roofs)), (a_street_trades, .inl (cI, 8, .inl v_street_trades)), (a_street_fronts, .inl (cI, 8, .inl v_street_fronts)), (a_street_limits, .inl (cI, 8, .inl v_street_limits)), (a_street_needy, .inl (cZ, 8, .inl v_street_needy)), (a_street_clashes, .inl (cI, 8, .inl v_street_clashes)), (a_street_starts, .inl (cI, 8, .inl v_street_starts)), (a_street_standing, .inl (cI, 24, .inl v_street_standing)), (a_oldStarts, .inl (cI, 8, .inl v_oldStarts)), (a_walkers, .inl (cI, 3, .inl v_walkers)), (a_hopes, .inl (cI, 4, .inl v_13))]) E.1 hw 14 0 rfl rfl h_12 (by subst e_v_13; rfl) dX1_sumHopes_8 (fun H locs hw => ?_)
  refine lv_iload_n hx hb dX1_sumHopes_9 rfl (lv_at hl 1 rfl) ?_
  refine lv_istore_n (lv' := [(2, .int x1), (0, .ref a_this), (1, .int x1)]) hx hb dX1_sumHopes_10 rfl hl (z_lt rfl) rfl (fun ls hl => ?_)
  exact w_X1_sumHopes_11 E  n _ _ _ _ _ _ _ _ _ _ _ _ _ _ _ _ _ hf _ _ _ hw (lv_sub hl [1, 0] rfl)
end
/-! X2_totalRent -/
section
variable {p : Program} {l : Launch} {e : Env} {s : State} {m : MethodId} {args : Array Value} {below : List Frame} {meth : Method} {c : Code} {D : va_G} {A : Nat → Prop} {cI cZ cM : ClassId} {a_this a_rows a_rents a_roofs a_trades a_fronts a_limits a_needy a_clashes a_starts a_standing : Nat} {v_covers : Int32} {v_coversBusy : Int32} {res : Int32}
def rmX2_totalRent : Room := { frames := 1, cells := 0, slots := 0, locals := 25 }
abbrev zwX2_totalRent : List Cond := Cond.code yX2_totalRent cX2_totalRent 3 (some .int) :: wsAll
set_option maxHeartbeats 4000000 in
set_option maxRecDepth 100000 in
theorem w_X2_totalRent_34 {n : Nat} (E : zE p s m args meth c cX2_totalRent 3 (some .int) zwX2_totalRent RX2) {k4 : Int32 → Int32 → Int32 → (Nat → Int32) → Int32 → (Nat → Int32) → (Nat → Int32) → Option (Int32)} (hk4 : ∀ (x1 : Int32) (x2 : Int32) (v_pitches : Int32) (v_rents : Nat → Int32) (v_traders : Int32) (v_fronts : Nat → Int32) (v_starts : Nat → Int32), k4 x1 x2 v_pitches v_rents v_traders v_fronts v_starts = some res → ∀ (H : Heap) (locs : List Loc) (ls : Array Slot), zW D (zT cI cZ cM) A s [(a_this, .inr (2, [.int v_pitches, .ref a_rows, .ref a_rents, .ref a_roofs, .int v_traders, .ref a_trades, .ref a_fronts, .ref a_limits, .ref a_needy, .ref a_clashes, .int v_covers, .ref a_starts, .ref a_standing, .int v_coversBusy])), (a_rents, .inl (cI, 24, .inl v_rents)), (a_fronts, .inl (cI, 8, .inl v_fronts)), (a_starts, .inl (cI, 8, .inl v_starts))] H locs → lv_has ls 3 [(0, .ref a_this), (1, .int x1), (2, .int x2)] → W p l e rmX2_totalRent s m args below meth c H locs 0 0 (MQ below (zQi D (zT cI cZ cM) res [(a_this, .inr (2, [.int v_pitches, .ref a_rows, .ref a_rents, .ref a_roofs, .int v_traders, .ref a_trades, .ref a_fronts, .ref a_limits, .ref a_needy, .ref a_clashes, .int v_covers, .ref a_starts, .ref a_standing, .int v_coversBusy])), (a_rents, .inl (cI, 24, .inl v_rents)), (a_fronts, .inl (cI, 8, .inl v_fronts)), (a_starts, .inl (cI, 8, .inl v_starts))] A) args s 0 0 A) (F0 m 4 ls [])) : ∀ (x1 : Int32) (x2 : Int32) (v_pitches : Int32) (v_rents : Nat → Int32) (v_traders : Int32) (v_fronts : Nat → Int32) (v_starts : Nat → Int32), f_X2_totalRent_34 n k4 x1 x2 v_pitches v_rents v_traders v_fronts v_starts = some res → ∀ (H : Heap) (locs : List Loc) (ls : Array Slot), zW D (zT cI cZ cM) A s [(a_this, .inr (2, [.int v_pitches, .ref a_rows, .ref a_rents, .ref a_roofs, .int v_traders, .ref a_trades, .ref a_fronts, .ref a_limits, .ref a_needy, .ref a_clashes, .int v_covers, .ref a_starts, .ref a_standing, .int v_coversBusy])), (a_rents, .inl (cI, 24, .inl v_rents)), (a_fronts, .inl (cI, 8, .inl v_fronts)), (a_starts, .inl (cI, 8, .inl v_starts))] H locs → lv_has ls 3 [(0, .ref a_this), (1, .int x1), (2, .int x2)] → W p l e rmX2_totalRent s m args below meth c H locs 0 0 (MQ below (zQi D (zT cI cZ cM) res [(a_this, .inr (2, [.int v_pitches, .ref a_rows, .ref a_rents, .ref a_roofs, .int v_traders, .ref a_trades, .ref a_fronts, .ref a_limits, .ref a_needy, .ref a_clashes, .int v_covers, .ref a_starts, .ref a_standing, .int v_coversBusy])), (a_rents, .inl (cI, 24, .inl v_rents)), (a_fronts, .inl (cI, 8, .inl v_fronts)), (a_starts, .inl (cI, 8, .inl v_starts))] A) args s 0 0 A) (F0 m 34 ls []) := by
  obtain ⟨⟨hx, hb, hml, hown, hts⟩, hr, hlocks⟩ := id E
  intro x1 x2 v_pitches v_rents v_traders v_fronts v_starts hf H locs ls hw hl
  unfold f_X2_totalRent_34 at hf
  refine lv_iinc (v := (x2 + (1 : Int32))) (lv' := [(2, .int (x2 + (1 : Int32))), (0, .ref a_this), (1, .int x1)]) hx hb dX2_totalRent_34 hl (k := 2) rfl rfl (z_lt rfl) rfl (fun ls hl => ?_)
  refine lv_goto (tgt := 4) hx hb dX2_totalRent_37 (by decide) ?_
  exact hk4 _ _ _ _ _ _ _ hf _ _ _ hw (lv_sub hl [1, 2, 0] rfl)
set_option maxHeartbeats 4000000 in
set_option maxRecDepth 100000 in
theorem w_X2_totalRent_4 {n : Nat} (E : zE p s m args meth c cX2_totalRent 3 (some .int) zwX2_totalRent RX2) : ∀ (fu : Nat), ∀ (x1 : Int32) (x2 : Int32) (v_pitches : Int32) (v_rents : Nat → Int32) (v_traders : Int32) (v_fronts : Nat → Int32) (v_starts : Nat → Int32), f_X2_totalRent_4 n fu x1 x2 v_pitches v_rents v_traders v_fronts v_starts = some res → ∀ (H : Heap) (locs : List Loc) (ls : Array Slot), zW D (zT cI cZ cM) A s [(a_this, .inr (2, [.int v_pitches, .ref a_rows, .ref a_rents, .ref a_roofs, .int v_traders, .ref a_trades, .ref a_fronts, .ref a_limits, .ref a_needy, .ref a_clashes, .int v_covers, .ref a_starts, .ref a_standing, .int v_coversBusy])), (a_rents, .inl (cI, 24, .inl v_rents)), (a_fronts, .inl (cI, 8, .inl v_fronts)), (a_starts, .inl (cI, 8, .inl v_starts))] H locs → lv_has ls 3 [(0, .ref a_this), (1, .int x1), (2, .int x2)] → W p l e rmX2_totalRent s m args below meth c H locs 0 0 (MQ below (zQi D (zT cI cZ cM) res [(a_this, .inr (2, [.int v_pitches, .ref a_rows, .ref a_rents, .ref a_roofs, .int v_traders, .ref a_trades, .ref a_fronts, .ref a_limits, .ref a_needy, .ref a_clashes, .int v_covers, .ref a_starts, .ref a_standing, .int v_coversBusy])), (a_rents, .inl (cI, 24, .inl v_rents)), (a_fronts, .inl (cI, 8, .inl v_fronts)), (a_starts, .inl (cI, 8, .inl v_starts))] A) args s 0 0 A) (F0 m 4 ls []) := by
  obtain ⟨⟨hx, hb, hml, hown, hts⟩, hr, hlocks⟩ := id E
  intro fu
  induction fu with
  | zero => intro x1 x2 v_pitches v_rents v_traders v_fronts v_starts hf; rw [f_X2_totalRent_4.eq_1] at hf; cases hf
  | succ fu ih =>
    intro x1 x2 v_pitches v_rents v_traders v_fronts v_starts hf H locs ls hw hl
    rw [f_X2_totalRent_4.eq_2] at hf
    refine lv_iload_n hx hb dX2_totalRent_4 rfl (lv_at hl 2 rfl) ?_
    refine lv_aload_n hx hb dX2_totalRent_5 rfl (lv_at hl 0 rfl) ?_
    refine z_get E.1 hw in_wsX20 0 rfl rfl 4 (z_lt rfl) mw_20 (v := .int v_traders) rfl dX2_totalRent_6 ?_
    refine lv_icmp_ge (tgt := 40) hx hb dX2_totalRent_9 (by decide) (fun hc => ?_) (fun hc => ?_)
    · have hf := oI_pos hc hf
      refine lv_iload_n hx hb dX2_totalRent_40 rfl (lv_at hl 1 rfl) ?_
      cases hf
      exact z_iret E rfl hw dX2_totalRent_41
    · have hf := oI_neg hc hf
      refine lv_aload_n hx hb dX2_totalRent_12 rfl (lv_at hl 0 rfl) ?_
      refine lv_iload_n hx hb dX2_totalRent_13 rfl (lv_at hl 2 rfl) ?_
      obtain ⟨r_1, h_2, hf⟩ := oB_elim hf
      refine z_callVi (ws' := [(a_this, .inr (2, [.int v_pitches, .ref a_rows, .ref a_rents, .ref a_roofs, .int v_traders, .ref a_trades, .ref a_fronts, .ref a_limits, .ref a_needy, .ref a_clashes, .int v_covers, .ref a_starts, .ref a_standing, .int v_coversBusy])), (a_rents, .inl (cI, 24, .inl v_rents)), (a_fronts, .inl (cI, 8, .inl v_fronts)), (a_starts, .inl (cI, 8, .inl v_starts))]) (wr := [(a_rents, .inl (cI, 24, .inl v_rents)), (a_fronts, .inl (cI, 8, .inl v_fronts))]) (As := [.int x2]) (rest := []) E.1 hl hw (c_X2_isSeated h_2) (cwV 1 hts (z_gV mw_63 mw_64 mw_65 mw_9 mw_66) rfl rfl rfl (by decide +kernel) ⟨(Nat.le_of_ble_eq_true rfl), (Nat.le_of_ble_eq_true rfl)⟩) 4 [(0, 1), (3, 1)] [(1, 2)] rfl rfl rfl rfl rfl rfl (by decide +kernel) rfl (q0 := 0) rfl rfl rfl (Nat.le_of_ble_eq_true rfl) dX2_totalRent_14 ⟨Nat.le_of_ble_eq_true rfl, Nat.le_of_ble_eq_true rfl⟩ (fun H locs hw => ?_)
      refine lv_if_eq (tgt := 34) hx hb dX2_totalRent_17 (by decide) (fun hc => ?_) (fun hc => ?_)
      · have hf := oI_pos hc hf
        exact w_X2_totalRent_34 E ih _ _ _ _ _ _ _ hf _ _ _ hw (lv_sub hl [0, 1, 2] rfl)
      · have hf := oI_neg hc hf
        refine lv_iload_n hx hb dX2_totalRent_20 rfl (lv_at hl 1 rfl) ?_
        refine lv_aload_n hx hb dX2_totalRent_21 rfl (lv_at hl 0 rfl) ?_
        refine lv_iload_n hx hb dX2_totalRent_22 rfl (lv_at hl 2 rfl) ?_
        refine lv_aload_n hx hb dX2_totalRent_23 rfl (lv_at hl 0 rfl) ?_
        refine z_get E.1 hw in_wsX20 0 rfl rfl 11 (z_lt rfl) mw_27 (v := .ref a_starts) rfl dX2_totalRent_24 ?_
        refine lv_iload_n hx hb dX2_totalRent_27 rfl (lv_at hl 2 rfl) ?_
        obtain ⟨h_3, hf⟩ := oA_elim hf
        refine z_iald E.1 hw 3 0 rfl rfl h_3 dX2_totalRent_28 ?_
        obtain ⟨r_4, h_5, hf⟩ := oB_elim hf
        refine z_callVi (ws' := [(a_this, .inr (2, [.int v_pitches, .ref a_rows, .ref a_rents, .ref a_roofs, .int v_traders, .ref a_trades, .ref a_fronts, .ref a_limits, .ref a_needy, .ref a_clashes, .int v_covers, .ref a_starts, .ref a_standing, .int v_coversBusy])), (a_rents, .inl (cI, 24, .inl v_rents)), (a_fronts, .inl (cI, 8, .inl v_fronts)), (a_starts, .inl (cI, 8, .inl v_starts))]) (wr := [(a_starts, .inl (cI, 8, .inl v_starts))]) (As := [.int x2, .int (v_starts (x2).toNatClampNeg)]) (rest := [.int x1]) E.1 hl hw (c_X2_blockRent h_5) (cwV 2 hts (z_gV mw_55 mw_56 mw_57 mw_9 mw_58) rfl rfl rfl (by decide +kernel) ⟨(Nat.le_of_ble_eq_true rfl), (Nat.le_of_ble_eq_true rfl)⟩) 4 [(0, 3)] [(3, 1)] rfl rfl rfl rfl rfl rfl (by decide +kernel) rfl (q0 := 0) rfl rfl rfl (Nat.le_of_ble_eq_true rfl) dX2_totalRent_29 ⟨Nat.le_of_ble_eq_true rfl, Nat.le_of_ble_eq_true rfl⟩ (fun H locs hw => ?_)
        refine lv_iadd hx hb dX2_totalRent_32 ?_
        obtain ⟨y_6, e_y_6, hf⟩ := oL_elim hf
        refine z_top e_y_6 ?_
        refine lv_istore_n (lv' := [(1, .int y_6), (0, .ref a_this), (2, .int x2)]) hx hb dX2_totalRent_33 rfl hl (z_lt rfl) rfl (fun ls hl => ?_)
        exact w_X2_totalRent_34 E ih _ _ _ _ _ _ _ hf _ _ _ hw (lv_sub hl [1, 0, 2] rfl)
set_option maxHeartbeats 4000000 in
set_option maxRecDepth 100000 in
theorem c_X2_totalRent {l : Launch} {D : va_G} {cI cZ cM : ClassId} {a_this a_rows a_rents a_roofs a_trades a_fronts a_limits a_needy a_clashes a_starts a_standing : Nat} {v_covers : Int32} {v_coversBusy : Int32} {res : Int32} {sz : Nat} {n : Nat} {v_pitches : Int32} {v_rents : Nat → Int32} {v_traders : Int32} {v_fronts : Nat → Int32} {v_starts : Nat → Int32} (hf : f_X2_totalRent n v_pitches v_rents v_traders v_fronts v_starts = some res) : Met l yX2_totalRent zwX2_totalRent rmX2_totalRent (zPc D (zT cI cZ cM) [.ref a_this] [(a_this, .inr (2, [.int v_pitches, .ref a_rows, .ref a_rents, .ref a_roofs, .int v_traders, .ref a_trades, .ref a_fronts, .ref a_limits, .ref a_needy, .ref a_clashes, .int v_covers, .ref a_starts, .ref a_standing, .int v_coversBusy])), (a_rents, .inl (cI, 24, .inl v_rents)), (a_fronts, .inl (cI, 8, .inl v_fronts)), (a_starts, .inl (cI, 8, .inl v_starts))] sz) (zQi D (zT cI cZ cM) res [(a_this, .inr (2, [.int v_pitches, .ref a_rows, .ref a_rents, .ref a_roofs, .int v_traders, .ref a_trades, .ref a_fronts, .ref a_limits, .ref a_needy, .ref a_clashes, .int v_covers, .ref a_starts, .ref a_standing, .int v_coversBusy])), (a_rents, .inl (cI, 24, .inl v_rents)), (a_fronts, .inl (cI, 8, .inl v_fronts)), (a_starts, .inl (cI, 8, .inl v_starts))] (va_A [(a_this, .inr (2, [.int v_pitches, .ref a_rows, .ref a_rents, .ref a_roofs, .int v_traders, .ref a_trades, .ref a_fronts, .ref a_limits, .ref a_needy, .ref a_clashes, .int v_covers, .ref a_starts, .ref a_standing, .int v_coversBusy])), (a_rents, .inl (cI, 24, .inl v_rents)), (a_fronts, .inl (cI, 8, .inl v_fronts)), (a_starts, .inl (cI, 8, .inl v_starts))] sz)) 0 0 (va_A [(a_this, .inr (2, [.int v_pitches, .ref a_rows, .ref a_rents, .ref a_roofs, .int v_traders, .ref a_trades, .ref a_fronts, .ref a_limits, .ref a_needy, .ref a_clashes, .int v_covers, .ref a_starts, .ref a_standing, .int v_coversBusy])), (a_rents, .inl (cI, 24, .inl v_rents)), (a_fronts, .inl (cI, 8, .inl v_fronts)), (a_starts, .inl (cI, 8, .inl v_starts))] sz) := by
  refine z_met (cc := cX2_totalRent) (maxL := 3) (ret := (some .int)) (by decide) rfl (Nat.le_of_ble_eq_true rfl) ?_
  intro p e s m below meth c ls E hsz hw hl
  obtain ⟨⟨hx, hb, hml, hown, hts⟩, hr, hlocks⟩ := id E
  have hl : lv_has ls 3 [(0, .ref a_this)] := hl
  unfold f_X2_totalRent at hf
  refine lv_iconst (v := 0) hx hb dX2_totalRent_0 (by decide) ?_
  refine lv_istore_n (lv' := [(1, .int (0 : Int32)), (0, .ref a_this)]) hx hb dX2_totalRent_1 rfl hl (z_lt rfl) rfl (fun ls hl => ?_)
  refine lv_iconst (v := 0) hx hb dX2_totalRent_2 (by decide) ?_
  refine lv_istore_n (lv' := [(2, .int (0 : Int32)), (1, .int (0 : Int32)), (0, .ref a_this)]) hx hb dX2_totalRent_3 rfl hl (z_lt rfl) rfl (fun ls hl => ?_)
  exact w_X2_totalRent_4 E  n _ _ _ _ _ _ _ hf _ _ _ hw (lv_sub hl [2, 1, 0] rfl)
end
/-! X2_seatIfPossible -/
section
variable {p : Program} {l : Launch} {e : Env} {s : State} {m : MethodId} {args : Array Value} {below : List Frame} {meth : Method} {c : Code} {D : va_G} {A : Nat → Prop} {cI cZ cM : ClassId} {a_this a_rows a_rents a_roofs a_trades a_fronts a_limits a_needy a_clashes a_starts a_standing : Nat} {v_traders : Int32} {res : Int32 × (Nat → Int32) × (Nat → Int32) × Int32}
def rmX2_seatIfPossible : Room := { frames := 3, cells := 0, slots := 0, locals := 69 }
abbrev zwX2_seatIfPossible : List Cond := Cond.code yX2_seatIfPossible cX2_seatIfPossible 3 (some .boolean) :: wsAll
set_option maxHeartbeats 4000000 in
set_option maxRecDepth 100000 in
theorem c_X2_seatIfPossible {l : Launch} {D : va_G} {cI cZ cM : ClassId} {a_this a_rows a_rents a_roofs a_trades a_fronts a_limits a_needy a_clashes a_starts a_standing : Nat} {v_traders : Int32} {res : Int32 × (Nat → Int32) × (Nat → Int32) × Int32} {sz : Nat} {n : Nat} {v_pitches : Int32} {v_rows : Nat → Int32} {v_rents : Nat → Int32} {v_roofs : Nat → Int32} {v_trades : Nat → Int32} {v_fronts : Nat → Int32} {v_limits : Nat → Int32} {v_needy : Nat → Int32} {v_clashes : Nat → Int32} {v_covers : Int32} {v_starts : Nat → Int32} {v_standing : Nat → Int32} {v_coversBusy : Int32} {x1 : Int32} {x2 : Int32} (hf : f_X2_seatIfPossible n v_pitches v_rows v_rents v_roofs v_trades v_fronts v_limits v_needy v_clashes v_covers v_starts v_standing v_coversBusy x1 x2 = some res) : Met l yX2_seatIfPossible zwX2_seatIfPossible rmX2_seatIfPossible (zPc D (zT cI cZ cM) [.ref a_this, .int x1, .int x2] [(a_this, .inr (2, [.int v_pitches, .ref a_rows, .ref a_rents, .ref a_roofs, .int v_traders, .ref a_trades, .ref a_fronts, .ref a_limits, .ref a_needy, .ref a_clashes, .int v_covers, .ref a_starts, .ref a_standing, .int v_coversBusy])), (a_rows, .inl (cI, 24, .inl v_rows)), (a_rents, .inl (cI, 24, .inl v_rents)), (a_roofs, .inl (cZ, 24, .inl v_roofs)), (a_trades, .inl (cI, 8, .inl v_trades)), (a_fronts, .inl (cI, 8, .inl v_fronts)), (a_limits, .inl (cI, 8, .inl v_limits)), (a_needy, .inl (cZ, 8, .inl v_needy)), (a_clashes, .inl (cI, 8, .inl v_clashes)), (a_starts, .inl (cI, 8, .inl v_starts)), (a_standing, .inl (cI, 24, .inl v_standing))] sz) (zQi D (zT cI cZ cM) res.1 [(a_this, .inr (2, [.int v_pitches, .ref a_rows, .ref a_rents, .ref a_roofs, .int v_traders, .ref a_trades, .ref a_fronts, .ref a_limits, .ref a_needy, .ref a_clashes, .int v_covers, .ref a_starts, .ref a_standing, .int res.2.2.2])), (a_rows, .inl (cI, 24, .inl v_rows)), (a_rents, .inl (cI, 24, .inl v_rents)), (a_roofs, .inl (cZ, 24, .inl v_roofs)), (a_trades, .inl (cI, 8, .inl v_trades)), (a_fronts, .inl (cI, 8, .inl v_fronts)), (a_limits, .inl (cI, 8, .inl v_limits)), (a_needy, .inl (cZ, 8, .inl v_needy)), (a_clashes, .inl (cI, 8, .inl v_clashes)), (a_starts, .inl (cI, 8, .inl res.2.1)), (a_standing, .inl (cI, 24, .inl res.2.2.1))] (va_A [(a_this, .inr (2, [.int v_pitches, .ref a_rows, .ref a_rents, .ref a_roofs, .int v_traders, .ref a_trades, .ref a_fronts, .ref a_limits, .ref a_needy, .ref a_clashes, .int v_covers, .ref a_starts, .ref a_standing, .int v_coversBusy])), (a_rows, .inl (cI, 24, .inl v_rows)), (a_rents, .inl (cI, 24, .inl v_rents)), (a_roofs, .inl (cZ, 24, .inl v_roofs)), (a_trades, .inl (cI, 8, .inl v_trades)), (a_fronts, .inl (cI, 8, .inl v_fronts)), (a_limits, .inl (cI, 8, .inl v_limits)), (a_needy, .inl (cZ, 8, .inl v_needy)), (a_clashes, .inl (cI, 8, .inl v_clashes)), (a_starts, .inl (cI, 8, .inl v_starts)), (a_standing, .inl (cI, 24, .inl v_standing))] sz)) 0 0 (va_A [(a_this, .inr (2, [.int v_pitches, .ref a_rows, .ref a_rents, .ref a_roofs, .int v_traders, .ref a_trades, .ref a_fronts, .ref a_limits, .ref a_needy, .ref a_clashes, .int v_covers, .ref a_starts, .ref a_standing, .int v_coversBusy])), (a_rows, .inl (cI, 24, .inl v_rows)), (a_rents, .inl (cI, 24, .inl v_rents)), (a_roofs, .inl (cZ, 24, .inl v_roofs)), (a_trades, .inl (cI, 8, .inl v_trades)), (a_fronts, .inl (cI, 8, .inl v_fronts)), (a_limits, .inl (cI, 8, .inl v_limits)), (a_needy, .inl (cZ, 8, .inl v_needy)), (a_clashes, .inl (cI, 8, .inl v_clashes)), (a_starts, .inl (cI, 8, .inl v_starts)), (a_standing, .inl (cI, 24, .inl v_standing))] sz) := by
  refine z_met (cc := cX2_seatIfPossible) (maxL := 3) (ret := (some .boolean)) (by decide) rfl (Nat.le_of_ble_eq_true rfl) ?_
  intro p e s m below meth c ls E hsz hw hl
  obtain ⟨⟨hx, hb, hml, hown, hts⟩, hr, hlocks⟩ := id E
  have hl : lv_has ls 3 [(0, .ref a_this), (1, .int x1), (2, .int x2)] := hl
  unfold f_X2_seatIfPossible at hf
  refine lv_aload_n hx hb dX2_seatIfPossible_0 rfl (lv_at hl 0 rfl) ?_
  refine lv_iload_n hx hb dX2_seatIfPossible_1 rfl (lv_at hl 1 rfl) ?_
  refine lv_iload_n hx hb dX2_seatIfPossible_2 rfl (lv_at hl 2 rfl) ?_
  obtain ⟨r_1, h_2, hf⟩ := oB_elim hf
  refine z_callVi (ws' := [(a_this, .inr (2, [.int v_pitches, .ref a_rows, .ref a_rents, .ref a_roofs, .int v_traders, .ref a_trades, .ref a_fronts, .ref a_limits, .ref a_needy, .ref a_clashes, .int v_covers, .ref a_starts, .ref a_standing, .int v_coversBusy])), (a_rows, .inl (cI, 24, .inl v_rows)), (a_rents, .inl (cI, 24, .inl v_rents)), (a_roofs, .inl (cZ, 24, .inl v_roofs)), (a_trades, .inl (cI, 8, .inl v_trades)), (a_fronts, .inl (cI, 8, .inl v_fronts)), (a_limits, .inl (cI, 8, .inl v_limits)), (a_needy, .inl (cZ, 8, .inl v_needy)), (a_clashes, .inl (cI, 8, .inl v_clashes)), (a_starts, .inl (cI, 8, .inl v_starts)), (a_standing, .inl (cI, 24, .inl v_standing))]) (wr := []) (As := [.int x1, .int x2]) (rest := []) E.1 hl hw (c_X2_hindrance h_2) (cwV 2 hts (z_gV mw_59 mw_60 mw_61 mw_9 mw_62) rfl rfl rfl (by decide +kernel) ⟨(Nat.le_of_ble_eq_true rfl), (Nat.le_of_ble_eq_true rfl)⟩) 11 [(0, 11)] [] rfl rfl rfl rfl rfl rfl (by decide +kernel) rfl (q0 := 0) rfl rfl rfl (Nat.le_of_ble_eq_true rfl) dX2_seatIfPossible_3 ⟨Nat.le_of_ble_eq_true rfl, Nat.le_of_ble_eq_true rfl⟩ (fun H locs hw => ?_)
  refine lv_if_eq (tgt := 11) hx hb dX2_seatIfPossible_6 (by decide) (fun hc => ?_) (fun hc => ?_)
  · have hf := oI_pos hc hf
    refine lv_aload_n hx hb dX2_seatIfPossible_11 rfl (lv_at hl 0 rfl) ?_
    refine lv_iload_n hx hb dX2_seatIfPossible_12 rfl (lv_at hl 1 rfl) ?_
    refine lv_iload_n hx hb dX2_seatIfPossible_13 rfl (lv_at hl 2 rfl) ?_
    obtain ⟨v_3, v_4, v_5, h_6, hf⟩ := oB3_elim hf
    refine z_callVv (ws' := [(a_this, .inr (2, [.int v_pitches, .ref a_rows, .ref a_rents, .ref a_roofs, .int v_traders, .ref a_trades, .ref a_fronts, .ref a_limits, .ref a_needy, .ref a_clashes, .int v_covers, .ref a_starts, .ref a_standing, .int v_5])), (a_rows, .inl (cI, 24, .inl v_rows)), (a_rents, .inl (cI, 24, .inl v_rents)), (a_roofs, .inl (cZ, 24, .inl v_roofs)), (a_trades, .inl (cI, 8, .inl v_trades)), (a_fronts, .inl (cI, 8, .inl v_fronts)), (a_limits, .inl (cI, 8, .inl v_limits)), (a_needy, .inl (cZ, 8, .inl v_needy)), (a_clashes, .inl (cI, 8, .inl v_clashes)), (a_starts, .inl (cI, 8, .inl v_3)), (a_standing, .inl (cI, 24, .inl v_4))]) (wr := [(a_rows, .inl (cI, 24, .inl v_rows)), (a_rents, .inl (cI, 24, .inl v_rents)), (a_trades, .inl (cI, 8, .inl v_trades)), (a_limits, .inl (cI, 8, .inl v_limits)), (a_clashes, .inl (cI, 8, .inl v_clashes))]) (As := [.int x1, .int x2]) (rest := []) E.1 hl hw (c_X2_seat h_6) (cwV 2 hts (z_gV mw_129 mw_130 mw_131 mw_9 mw_132) rfl rfl rfl (by decide +kernel) ⟨(Nat.le_of_ble_eq_true rfl), (Nat.le_of_ble_eq_true rfl)⟩) 11 [(0, 1), (3, 1), (5, 1), (7, 1), (9, 2)] [(1, 2), (4, 1), (6, 1), (8, 1)] rfl rfl rfl rfl rfl rfl (by decide +kernel) rfl (q0 := 0) rfl rfl rfl (Nat.le_of_ble_eq_true rfl) dX2_seatIfPossible_14 ⟨Nat.le_of_ble_eq_true rfl, Nat.le_of_ble_eq_true rfl⟩ (fun H locs hw => ?_)
    refine lv_iconst (v := 1) hx hb dX2_seatIfPossible_17 (by decide) ?_
    cases hf
    exact z_zret E rfl z_n1 hw dX2_seatIfPossible_18
  · have hf := oI_neg hc hf
    refine lv_iconst (v := 0) hx hb dX2_seatIfPossible_9 (by decide) ?_
    cases hf
    exact z_zret E rfl z_n0 hw dX2_seatIfPossible_10
end
