/-! X3_seatBest -/
section
variable {p : Program} {l : Launch} {e : Env} {s : State} {m : MethodId} {args : Array Value} {below : List Frame} {meth : Method} {c : Code} {D : va_G} {A : Nat → Prop} {cI cZ cM : ClassId} {a_this a_street a_table a_worths a_needs a_kindsBehind a_kindOf a_barred a_street_rows a_street_rents a_street_roofs a_street_trades a_street_fronts a_street_limits a_street_needy a_street_clashes a_street_starts a_street_standing a_o1 a_o1_rows a_o1_rents a_o1_roofs a_o1_trades a_o1_fronts a_o1_limits a_o1_needy a_o1_clashes a_o1_starts a_o1_standing : Nat} {v_street_coversBusy : Int32} {v_o1_traders : Int32} {v_o1_covers : Int32} {res : (Nat → Int32) × (Nat → Int32) × Int32}
def rmX3_seatBest : Room := { frames := 3, cells := 0, slots := 0, locals := 74 }
abbrev zwX3_seatBest : List Cond := Cond.code yX3_seatBest cX3_seatBest 9 none :: wsAll
set_option maxHeartbeats 4000000 in
set_option maxRecDepth 100000 in
theorem w_X3_seatBest_128 {n : Nat} {v_street_covers : Int32} (E : zE p s m args meth c cX3_seatBest 9 none zwX3_seatBest RX3) {k23 : Int32 → Int32 → Int32 → Int32 → Int32 → Int32 → Int32 → (Nat → Int32) → (Nat → Int32) → Nat → Int32 → Int32 → Int32 → (Nat → Int32) → (Nat → Int32) → (Nat → Int32) → (Nat → Int32) → Int32 → (Nat → Int32) → (Nat → Int32) → (Nat → Int32) → (Nat → Int32) → (Nat → Int32) → Int32 → Option ((Nat → Int32) × (Nat → Int32) × Int32)} (hk23 : ∀ (x2 : Int32) (x3 : Int32) (x4 : Int32) (x5 : Int32) (x6 : Int32) (v_street_pitches : Int32) (v_street_traders : Int32) (v_street_fronts : Nat → Int32) (v_table : Nat → Int32) (n_table : Nat) (v_sets : Int32) (v_kinds : Int32) (v_levels : Int32) (v_worths : Nat → Int32) (v_needs : Nat → Int32) (v_kindsBehind : Nat → Int32) (v_barred : Nat → Int32) (v_o1_pitches : Int32) (v_o1_roofs : Nat → Int32) (v_o1_fronts : Nat → Int32) (v_o1_needy : Nat → Int32) (v_o1_starts : Nat → Int32) (v_o1_standing : Nat → Int32) (v_o1_coversBusy : Int32), k23 x2 x3 x4 x5 x6 v_street_pitches v_street_traders v_street_fronts v_table n_table v_sets v_kinds v_levels v_worths v_needs v_kindsBehind v_barred v_o1_pitches v_o1_roofs v_o1_fronts v_o1_needy v_o1_starts v_o1_standing v_o1_coversBusy = some res → ∀ (H : Heap) (locs : List Loc) (ls : Array Slot), zW D (zT cI cZ cM) A s [(a_this, .inr (3, [.ref a_street, .ref a_table, .int v_sets, .int v_kinds, .int v_levels, .ref a_worths, .ref a_needs, .ref a_kindsBehind, .ref a_kindOf, .ref a_barred])), (a_street, .inr (2, [.int v_street_pitches, .ref a_street_rows, .ref a_street_rents, .ref a_street_roofs, .int v_street_traders, .ref a_street_trades, .ref a_street_fronts, .ref a_street_limits, .ref a_street_needy, .ref a_street_clashes, .int v_street_covers, .ref a_street_starts, .ref a_street_standing, .int v_street_coversBusy])), (a_street_fronts, .inl (cI, 8, .inl v_street_fronts)), (a_table, .inl (cI, n_table, .inl v_table)), (a_worths, .inl (cI, 192, .inl v_worths)), (a_needs, .inl (cI, 192, .inl v_needs)), (a_kindsBehind, .inl (cI, 192, .inl v_kindsBehind)), (a_barred, .inl (cI, 9, .inl v_barred)), (a_o1, .inr (2, [.int v_o1_pitches, .ref a_o1_rows, .ref a_o1_rents, .ref a_o1_roofs, .int v_o1_traders, .ref a_o1_trades, .ref a_o1_fronts, .ref a_o1_limits, .ref a_o1_needy, .ref a_o1_clashes, .int v_o1_covers, .ref a_o1_starts, .ref a_o1_standing, .int v_o1_coversBusy])), (a_o1_roofs, .inl (cZ, 24, .inl v_o1_roofs)), (a_o1_fronts, .inl (cI, 8, .inl v_o1_fronts)), (a_o1_needy, .inl (cZ, 8, .inl v_o1_needy)), (a_o1_starts, .inl (cI, 8, .inl v_o1_starts)), (a_o1_standing, .inl (cI, 24, .inl v_o1_standing))] H locs → lv_has ls 9 [(0, .ref a_this), (1, .ref a_o1), (2, .int x2), (3, .int x3), (4, .int x4), (5, .int x5), (6, .int x6)] → W p l e rmX3_seatBest s m args below meth c H locs 0 0 (MQ below (zQv D (zT cI cZ cM) [(a_this, .inr (3, [.ref a_street, .ref a_table, .int v_sets, .int v_kinds, .int v_levels, .ref a_worths, .ref a_needs, .ref a_kindsBehind, .ref a_kindOf, .ref a_barred])), (a_street, .inr (2, [.int v_street_pitches, .ref a_street_rows, .ref a_street_rents, .ref a_street_roofs, .int v_street_traders, .ref a_street_trades, .ref a_street_fronts, .ref a_street_limits, .ref a_street_needy, .ref a_street_clashes, .int v_street_covers, .ref a_street_starts, .ref a_street_standing, .int v_street_coversBusy])), (a_street_fronts, .inl (cI, 8, .inl v_street_fronts)), (a_table, .inl (cI, n_table, .inl v_table)), (a_worths, .inl (cI, 192, .inl v_worths)), (a_needs, .inl (cI, 192, .inl v_needs)), (a_kindsBehind, .inl (cI, 192, .inl v_kindsBehind)), (a_barred, .inl (cI, 9, .inl v_barred)), (a_o1, .inr (2, [.int v_o1_pitches, .ref a_o1_rows, .ref a_o1_rents, .ref a_o1_roofs, .int v_o1_traders, .ref a_o1_trades, .ref a_o1_fronts, .ref a_o1_limits, .ref a_o1_needy, .ref a_o1_clashes, .int v_o1_covers, .ref a_o1_starts, .ref a_o1_standing, .int res.2.2])), (a_o1_roofs, .inl (cZ, 24, .inl v_o1_roofs)), (a_o1_fronts, .inl (cI, 8, .inl v_o1_fronts)), (a_o1_needy, .inl (cZ, 8, .inl v_o1_needy)), (a_o1_starts, .inl (cI, 8, .inl res.1)), (a_o1_standing, .inl (cI, 24, .inl res.2.1))] A) args s 0 0 A) (F0 m 23 ls [])) : ∀ (x2 : Int32) (x3 : Int32) (x4 : Int32) (x5 : Int32) (x6 : Int32) (v_street_pitches : Int32) (v_street_traders : Int32) (v_street_fronts : Nat → Int32) (v_table : Nat → Int32) (n_table : Nat) (v_sets : Int32) (v_kinds : Int32) (v_levels : Int32) (v_worths : Nat → Int32) (v_needs : Nat → Int32) (v_kindsBehind : Nat → Int32) (v_barred : Nat → Int32) (v_o1_pitches : Int32) (v_o1_roofs : Nat → Int32) (v_o1_fronts : Nat → Int32) (v_o1_needy : Nat → Int32) (v_o1_starts : Nat → Int32) (v_o1_standing : Nat → Int32) (v_o1_coversBusy : Int32), f_X3_seatBest_128 n k23 x2 x3 x4 x5 x6 v_street_pitches v_street_traders v_street_fronts v_table n_table v_sets v_kinds v_levels v_worths v_needs v_kindsBehind v_barred v_o1_pitches v_o1_roofs v_o1_fronts v_o1_needy v_o1_starts v_o1_standing v_o1_coversBusy = some res → ∀ (H : Heap) (locs : List Loc) (ls : Array Slot), zW D (zT cI cZ cM) A s [(a_this, .inr (3, [.ref a_street, .ref a_table, .int v_sets, .int v_kinds, .int v_levels, .ref a_worths, .ref a_needs, .ref a_kindsBehind, .ref a_kindOf, .ref a_barred])), (a_street, .inr (2, [.int v_street_pitches, .ref a_street_rows, .ref a_street_rents, .ref a_street_roofs, .int v_street_traders, .ref a_street_trades, .ref a_street_fronts, .ref a_street_limits, .ref a_street_needy, .ref a_street_clashes, .int v_street_covers, .ref a_street_starts, .ref a_street_standing, .int v_street_coversBusy])), (a_street_fronts, .inl (cI, 8, .inl v_street_fronts)), (a_table, .inl (cI, n_table, .inl v_table)), (a_worths, .inl (cI, 192, .inl v_worths)), (a_needs, .inl (cI, 192, .inl v_needs)), (a_kindsBehind, .inl (cI, 192, .inl v_kindsBehind)), (a_barred, .inl (cI, 9, .inl v_barred)), (a_o1, .inr (2, [.int v_o1_pitches, .ref a_o1_rows, .ref a_o1_rents, .ref a_o1_roofs, .int v_o1_traders, .ref a_o1_trades, .ref a_o1_fronts, .ref a_o1_limits, .ref a_o1_needy, .ref a_o1_clashes, .int v_o1_covers, .ref a_o1_starts, .ref a_o1_standing, .int v_o1_coversBusy])), (a_o1_roofs, .inl (cZ, 24, .inl v_o1_roofs)), (a_o1_fronts, .inl (cI, 8, .inl v_o1_fronts)), (a_o1_needy, .inl (cZ, 8, .inl v_o1_needy)), (a_o1_starts, .inl (cI, 8, .inl v_o1_starts)), (a_o1_standing, .inl (cI, 24, .inl v_o1_standing))] H locs → lv_has ls 9 [(0, .ref a_this), (1, .ref a_o1), (2, .int x2), (3, .int x3), (4, .int x4), (5, .int x5), (6, .int x6)] → W p l e rmX3_seatBest s m args below meth c H locs 0 0 (MQ below (zQv D (zT cI cZ cM) [(a_this, .inr (3, [.ref a_street, .ref a_table, .int v_sets, .int v_kinds, .int v_levels, .ref a_worths, .ref a_needs, .ref a_kindsBehind, .ref a_kindOf, .ref a_barred])), (a_street, .inr (2, [.int v_street_pitches, .ref a_street_rows, .ref a_street_rents, .ref a_street_roofs, .int v_street_traders, .ref a_street_trades, .ref a_street_fronts, .ref a_street_limits, .ref a_street_needy, .ref a_street_clashes, .int v_street_covers, .ref a_street_starts, .ref a_street_standing, .int v_street_coversBusy])), (a_street_fronts, .inl (cI, 8, .inl v_street_fronts)), (a_table, .inl (cI, n_table, .inl v_table)), (a_worths, .inl (cI, 192, .inl v_worths)), (a_needs, .inl (cI, 192, .inl v_needs)), (a_kindsBehind, .inl (cI, 192, .inl v_kindsBehind)), (a_barred, .inl (cI, 9, .inl v_barred)), (a_o1, .inr (2, [.int v_o1_pitches, .ref a_o1_rows, .ref a_o1_rents, .ref a_o1_roofs, .int v_o1_traders, .ref a_o1_trades, .ref a_o1_fronts, .ref a_o1_limits, .ref a_o1_needy, .ref a_o1_clashes, .int v_o1_covers, .ref a_o1_starts, .ref a_o1_standing, .int res.2.2])), (a_o1_roofs, .inl (cZ, 24, .inl v_o1_roofs)), (a_o1_fronts, .inl (cI, 8, .inl v_o1_fronts)), (a_o1_needy, .inl (cZ, 8, .inl v_o1_needy)), (a_o1_starts, .inl (cI, 8, .inl res.1)), (a_o1_standing, .inl (cI, 24, .inl res.2.1))] A) args s 0 0 A) (F0 m 128 ls []) := by
  obtain ⟨⟨hx, hb, hml, hown, hts⟩, hr, hlocks⟩ := id E
  intro x2 x3 x4 x5 x6 v_street_pitches v_street_traders v_street_fronts v_table n_table v_sets v_kinds v_levels v_worths v_needs v_kindsBehind v_barred v_o1_pitches v_o1_roofs v_o1_fronts v_o1_needy v_o1_starts v_o1_standing v_o1_coversBusy hf H locs ls hw hl
  unfold f_X3_seatBest_128 at hf
  refine lv_iinc (v := (x6 + (1 : Int32))) (lv' := [(6, .int (x6 + (1 : Int32))), (0, .ref a_this), (1, .ref a_o1), (2, .int x2), (3, .int x3), (4, .int x4), (5, .int x5)]) hx hb dX3_seatBest_128 hl (k := 6) rfl rfl (z_lt rfl) rfl (fun ls hl => ?_)
  refine lv_goto (tgt := 23) hx hb dX3_seatBest_131 (by decide) ?_
  exact hk23 _ _ _ _ _ _ _ _ _ _ _ _ _ _ _ _ _ _ _ _ _ _ _ _ hf _ _ _ hw (lv_sub hl [1, 2, 3, 4, 5, 6, 0] rfl)
set_option maxHeartbeats 4000000 in
set_option maxRecDepth 100000 in
theorem w_X3_seatBest_23 {n : Nat} {v_street_covers : Int32} (E : zE p s m args meth c cX3_seatBest 9 none zwX3_seatBest RX3) : ∀ (fu : Nat), ∀ (x2 : Int32) (x3 : Int32) (x4 : Int32) (x5 : Int32) (x6 : Int32) (v_street_pitches : Int32) (v_street_traders : Int32) (v_street_fronts : Nat → Int32) (v_table : Nat → Int32) (n_table : Nat) (v_sets : Int32) (v_kinds : Int32) (v_levels : Int32) (v_worths : Nat → Int32) (v_needs : Nat → Int32) (v_kindsBehind : Nat → Int32) (v_barred : Nat → Int32) (v_o1_pitches : Int32) (v_o1_roofs : Nat → Int32) (v_o1_fronts : Nat → Int32) (v_o1_needy : Nat → Int32) (v_o1_starts : Nat → Int32) (v_o1_standing : Nat → Int32) (v_o1_coversBusy : Int32), f_X3_seatBest_23 n fu x2 x3 x4 x5 x6 v_street_pitches v_street_traders v_street_fronts v_table n_table v_sets v_kinds v_levels v_worths v_needs v_kindsBehind v_barred v_o1_pitches v_o1_roofs v_o1_fronts v_o1_needy v_o1_starts v_o1_standing v_o1_coversBusy = some res → ∀ (H : Heap) (locs : List Loc) (ls : Array Slot), zW D (zT cI cZ cM) A s [(a_this, .inr (3, [.ref a_street, .ref a_table, .int v_sets, .int v_kinds, .int v_levels, .ref a_worths, .ref a_needs, .ref a_kindsBehind, .ref a_kindOf, .ref a_barred])), (a_street, .inr (2, [.int v_street_pitches, .ref a_street_rows, .ref a_street_rents, .ref a_street_roofs, .int v_street_traders, .ref a_street_trades, .ref a_street_fronts, .ref a_street_limits, .ref a_street_needy, .ref a_street_clashes, .int v_street_covers, .ref a_street_starts, .ref a_street_standing, .int v_street_coversBusy])), (a_street_fronts, .inl (cI, 8, .inl v_street_fronts)), (a_table, .inl (cI, n_table, .inl v_table)), (a_worths, .inl (cI, 192, .inl v_worths)), (a_needs, .inl (cI, 192, .inl v_needs)), (a_kindsBehind, .inl (cI, 192, .inl v_kindsBehind)), (a_barred, .inl (cI, 9, .inl v_barred)), (a_o1, .inr (2, [.int v_o1_pitches, .ref a_o1_rows, .ref a_o1_rents, .ref a_o1_roofs, .int v_o1_traders, .ref a_o1_trades, .ref a_o1_fronts, .ref a_o1_limits, .ref a_o1_needy, .ref a_o1_clashes, .int v_o1_covers, .ref a_o1_starts, .ref a_o1_standing, .int v_o1_coversBusy])), (a_o1_roofs, .inl (cZ, 24, .inl v_o1_roofs)), (a_o1_fronts, .inl (cI, 8, .inl v_o1_fronts)), (a_o1_needy, .inl (cZ, 8, .inl v_o1_needy)), (a_o1_starts, .inl (cI, 8, .inl v_o1_starts)), (a_o1_standing, .inl (cI, 24, .inl v_o1_standing))] H locs → lv_has ls 9 [(0, .ref a_this), (1, .ref a_o1), (2, .int x2), (3, .int x3), (4, .int x4), (5, .int x5), (6, .int x6)] → W p l e rmX3_seatBest s m args below meth c H locs 0 0 (MQ below (zQv D (zT cI cZ cM) [(a_this, .inr (3, [.ref a_street, .ref a_table, .int v_sets, .int v_kinds, .int v_levels, .ref a_worths, .ref a_needs, .ref a_kindsBehind, .ref a_kindOf, .ref a_barred])), (a_street, .inr (2, [.int v_street_pitches, .ref a_street_rows, .ref a_street_rents, .ref a_street_roofs, .int v_street_traders, .ref a_street_trades, .ref a_street_fronts, .ref a_street_limits, .ref a_street_needy, .ref a_street_clashes, .int v_street_covers, .ref a_street_starts, .ref a_street_standing, .int v_street_coversBusy])), (a_street_fronts, .inl (cI, 8, .inl v_street_fronts)), (a_table, .inl (cI, n_table, .inl v_table)), (a_worths, .inl (cI, 192, .inl v_worths)), (a_needs, .inl (cI, 192, .inl v_needs)), (a_kindsBehind, .inl (cI, 192, .inl v_kindsBehind)), (a_barred, .inl (cI, 9, .inl v_barred)), (a_o1, .inr (2, [.int v_o1_pitches, .ref a_o1_rows, .ref a_o1_rents, .ref a_o1_roofs, .int v_o1_traders, .ref a_o1_trades, .ref a_o1_fronts, .ref a_o1_limits, .ref a_o1_needy, .ref a_o1_clashes, .int v_o1_covers, .ref a_o1_starts, .ref a_o1_standing, .int res.2.2])), (a_o1_roofs, .inl (cZ, 24, .inl v_o1_roofs)), (a_o1_fronts, .inl (cI, 8, .inl v_o1_fronts)), (a_o1_needy, .inl (cZ, 8, .inl v_o1_needy)), (a_o1_starts, .inl (cI, 8, .inl res.1)), (a_o1_standing, .inl (cI, 24, .inl res.2.1))] A) args s 0 0 A) (F0 m 23 ls []) := by
  obtain ⟨⟨hx, hb, hml, hown, hts⟩, hr, hlocks⟩ := id E
  intro fu
  induction fu with
  | zero => intro x2 x3 x4 x5 x6 v_street_pitches v_street_traders v_street_fronts v_table n_table v_sets v_kinds v_levels v_worths v_needs v_kindsBehind v_barred v_o1_pitches v_o1_roofs v_o1_fronts v_o1_needy v_o1_starts v_o1_standing v_o1_coversBusy hf; rw [f_X3_seatBest_23.eq_1] at hf; cases hf
  | succ fu ih =>
    intro x2 x3 x4 x5 x6 v_street_pitches v_street_traders v_street_fronts v_table n_table v_sets v_kinds v_levels v_worths v_needs v_kindsBehind v_barred v_o1_pitches v_o1_roofs v_o1_fronts v_o1_needy v_o1_starts v_o1_standing v_o1_coversBusy hf H locs ls hw hl
    rw [f_X3_seatBest_23.eq_2] at hf
    refine lv_iload hx hb dX3_seatBest_23 (lv_at hl 6 rfl) ?_
    refine lv_aload_n hx hb dX3_seatBest_25 rfl (lv_at hl 0 rfl) ?_
    refine z_get E.1 hw in_wsX30 0 rfl rfl 0 (z_lt rfl) mw_182 (v := .ref a_street) rfl dX3_seatBest_26 ?_
    refine z_get E.1 hw in_wsX20 1 rfl rfl 0 (z_lt rfl) mw_201 (v := .int v_street_pitches) rfl dX3_seatBest_29 ?_
    refine lv_icmp_ge (tgt := 134) hx hb dX3_seatBest_32 (by decide) (fun hc => ?_) (fun hc => ?_)
    · have hf := oI_pos hc hf
      cases hf
      exact z_vret E rfl hw dX3_seatBest_134
    · have hf := oI_neg hc hf
      refine lv_iload hx hb dX3_seatBest_35 (lv_at hl 6 rfl) ?_
      refine lv_iload hx hb dX3_seatBest_37 (lv_at hl 5 rfl) ?_
      refine lv_icmp_ge (tgt := 45) hx hb dX3_seatBest_39 (by decide) (fun hc => ?_) (fun hc => ?_)
      · have hf := oI_pos hc hf
        refine lv_aload_n hx hb dX3_seatBest_45 rfl (lv_at hl 0 rfl) ?_
        refine lv_iload hx hb dX3_seatBest_46 (lv_at hl 6 rfl) ?_
        refine lv_iload_n hx hb dX3_seatBest_48 rfl (lv_at hl 2 rfl) ?_
        refine lv_iload_n hx hb dX3_seatBest_49 rfl (lv_at hl 3 rfl) ?_
        refine lv_iload hx hb dX3_seatBest_50 (lv_at hl 4 rfl) ?_
        obtain ⟨r_1, h_2, hf⟩ := oB_elim hf
        refine z_callVi (ws' := [(a_this, .inr (3, [.ref a_street, .ref a_table, .int v_sets, .int v_kinds, .int v_levels, .ref a_worths, .ref a_needs, .ref a_kindsBehind, .ref a_kindOf, .ref a_barred])), (a_street, .inr (2, [.int v_street_pitches, .ref a_street_rows, .ref a_street_rents, .ref a_street_roofs, .int v_street_traders, .ref a_street_trades, .ref a_street_fronts, .ref a_street_limits, .ref a_street_needy, .ref a_street_clashes, .int v_street_covers, .ref a_street_starts, .ref a_street_standing, .int v_street_coversBusy])), (a_street_fronts, .inl (cI, 8, .inl v_street_fronts)), (a_table, .inl (cI, n_table, .inl v_table)), (a_worths, .inl (cI, 192, .inl v_worths)), (a_needs, .inl (cI, 192, .inl v_needs)), (a_kindsBehind, .inl (cI, 192, .inl v_kindsBehind)), (a_barred, .inl (cI, 9, .inl v_barred)), (a_o1, .inr (2, [.int v_o1_pitches, .ref a_o1_rows, .ref a_o1_rents, .ref a_o1_roofs, .int v_o1_traders, .ref a_o1_trades, .ref a_o1_fronts, .ref a_o1_limits, .ref a_o1_needy, .ref a_o1_clashes, .int v_o1_covers, .ref a_o1_starts, .ref a_o1_standing, .int v_o1_coversBusy])), (a_o1_roofs, .inl (cZ, 24, .inl v_o1_roofs)), (a_o1_fronts, .inl (cI, 8, .inl v_o1_fronts)), (a_o1_needy, .inl (cZ, 8, .inl v_o1_needy)), (a_o1_starts, .inl (cI, 8, .inl v_o1_starts)), (a_o1_standing, .inl (cI, 24, .inl v_o1_standing))]) (wr := [(a_o1, .inr (2, [.int v_o1_pitches, .ref a_o1_rows, .ref a_o1_rents, .ref a_o1_roofs, .int v_o1_traders, .ref a_o1_trades, .ref a_o1_fronts, .ref a_o1_limits, .ref a_o1_needy, .ref a_o1_clashes, .int v_o1_covers, .ref a_o1_starts, .ref a_o1_standing, .int v_o1_coversBusy])), (a_o1_roofs, .inl (cZ, 24, .inl v_o1_roofs)), (a_o1_fronts, .inl (cI, 8, .inl v_o1_fronts)), (a_o1_needy, .inl (cZ, 8, .inl v_o1_needy)), (a_o1_starts, .inl (cI, 8, .inl v_o1_starts)), (a_o1_standing, .inl (cI, 24, .inl v_o1_standing))]) (As := [.int x6, .int x2, .int x3, .int x4]) (rest := []) E.1 hl hw (c_X3_firstChoice h_2) (cwV 4 hts (z_gV mw_267 mw_268 mw_269 mw_187 mw_236) rfl rfl rfl (by decide +kernel) ⟨(Nat.le_of_ble_eq_true rfl), (Nat.le_of_ble_eq_true rfl)⟩) 14 [(0, 8)] [(8, 6)] rfl rfl rfl rfl rfl rfl (by decide +kernel) rfl (q0 := 0) rfl rfl rfl (Nat.le_of_ble_eq_true rfl) dX3_seatBest_52 ⟨Nat.le_of_ble_eq_true rfl, Nat.le_of_ble_eq_true rfl⟩ (fun H locs hw => ?_)
        refine lv_istore (lv' := [(7, .int r_1), (0, .ref a_this), (1, .ref a_o1), (2, .int x2), (3, .int x3), (4, .int x4), (5, .int x5), (6, .int x6)]) hx hb dX3_seatBest_55 hl (z_lt rfl) rfl (fun ls hl => ?_)
        refine lv_iload hx hb dX3_seatBest_57 (lv_at hl 0 rfl) ?_
        refine lv_iconst (v := -1) hx hb dX3_seatBest_59 (by decide) ?_
        refine lv_icmp_ne (tgt := 68) hx hb dX3_seatBest_60 (by decide) (fun hc => ?_) (fun hc => ?_)
        · have hf := oI_neg hc hf
          refine lv_iload hx hb dX3_seatBest_68 (lv_at hl 0 rfl) ?_
          refine lv_bipush (v := 24) hx hb dX3_seatBest_70 (by decide) ?_
          refine lv_imul hx hb dX3_seatBest_72 ?_
          refine lv_iload hx hb dX3_seatBest_73 (lv_at hl 7 rfl) ?_
          refine lv_iadd hx hb dX3_seatBest_75 ?_
          obtain ⟨y_3, e_y_3, hf⟩ := oL_elim hf
          refine z_top e_y_3 ?_
          refine lv_istore (lv' := [(8, .int y_3), (7, .int r_1), (0, .ref a_this), (1, .ref a_o1), (2, .int x2), (3, .int x3), (4, .int x4), (5, .int x5), (6, .int x6)]) hx hb dX3_seatBest_76 hl (z_lt rfl) rfl (fun ls hl => ?_)
          refine lv_aload_n hx hb dX3_seatBest_78 rfl (lv_at hl 3 rfl) ?_
          refine lv_iload hx hb dX3_seatBest_79 (lv_at hl 1 rfl) ?_
          refine lv_iload hx hb dX3_seatBest_81 (lv_at hl 8 rfl) ?_
          obtain ⟨v_4, v_5, v_6, h_7, hf⟩ := oB3_elim hf
          refine z_callVv (ws' := [(a_this, .inr (3, [.ref a_street, .ref a_table, .int v_sets, .int v_kinds, .int v_levels, .ref a_worths, .ref a_needs, .ref a_kindsBehind, .ref a_kindOf, .ref a_barred])), (a_street, .inr (2, [.int v_street_pitches, .ref a_street_rows, .ref a_street_rents, .ref a_street_roofs, .int v_street_traders, .ref a_street_trades, .ref a_street_fronts, .ref a_street_limits, .ref a_street_needy, .ref a_street_clashes, .int v_street_covers, .ref a_street_starts, .ref a_street_standing, .int v_street_coversBusy])), (a_street_fronts, .inl (cI, 8, .inl v_street_fronts)), (a_table, .inl (cI, n_table, .inl v_table)), (a_worths, .inl (cI, 192, .inl v_worths)), (a_needs, .inl (cI, 192, .inl v_needs)), (a_kindsBehind, .inl (cI, 192, .inl v_kindsBehind)), (a_barred, .inl (cI, 9, .inl v_barred)), (a_o1, .inr (2, [.int v_o1_pitches, .ref a_o1_rows, .ref a_o1_rents, .ref a_o1_roofs, .int v_o1_traders, .ref a_o1_trades, .ref a_o1_fronts, .ref a_o1_limits, .ref a_o1_needy, .ref a_o1_clashes, .int v_o1_covers, .ref a_o1_starts, .ref a_o1_standing, .int v_6])), (a_o1_roofs, .inl (cZ, 24, .inl v_o1_roofs)), (a_o1_fronts, .inl (cI, 8, .inl v_o1_fronts)), (a_o1_needy, .inl (cZ, 8, .inl v_o1_needy)), (a_o1_starts, .inl (cI, 8, .inl v_4)), (a_o1_standing, .inl (cI, 24, .inl v_5))]) (wr := [(a_this, .inr (3, [.ref a_street, .ref a_table, .int v_sets, .int v_kinds, .int v_levels, .ref a_worths, .ref a_needs, .ref a_kindsBehind, .ref a_kindOf, .ref a_barred])), (a_street, .inr (2, [.int v_street_pitches, .ref a_street_rows, .ref a_street_rents, .ref a_street_roofs, .int v_street_traders, .ref a_street_trades, .ref a_street_fronts, .ref a_street_limits, .ref a_street_needy, .ref a_street_clashes, .int v_street_covers, .ref a_street_starts, .ref a_street_standing, .int v_street_coversBusy])), (a_street_fronts, .inl (cI, 8, .inl v_street_fronts)), (a_table, .inl (cI, n_table, .inl v_table)), (a_worths, .inl (cI, 192, .inl v_worths)), (a_needs, .inl (cI, 192, .inl v_needs)), (a_kindsBehind, .inl (cI, 192, .inl v_kindsBehind)), (a_barred, .inl (cI, 9, .inl v_barred))]) (As := [.int r_1, .int x6]) (rest := []) E.1 hl hw (c_X2_seat h_7) (cwV 2 hts (z_gV mw_270 mw_130 mw_131 mw_9 mw_132) rfl rfl rfl (by decide +kernel) ⟨(Nat.le_of_ble_eq_true rfl), (Nat.le_of_ble_eq_true rfl)⟩) 14 [(8, 6)] [(0, 8)] rfl rfl rfl rfl rfl rfl (by decide +kernel) rfl (q0 := 0) rfl rfl rfl (Nat.le_of_ble_eq_true rfl) dX3_seatBest_83 ⟨Nat.le_of_ble_eq_true rfl, Nat.le_of_ble_eq_true rfl⟩ (fun H locs hw => ?_)
          refine lv_iload_n hx hb dX3_seatBest_86 rfl (lv_at hl 4 rfl) ?_
          refine lv_iconst (v := 1) hx hb dX3_seatBest_87 (by decide) ?_
          refine lv_iload hx hb dX3_seatBest_88 (lv_at hl 1 rfl) ?_
          refine lv_ishl hx hb dX3_seatBest_90 ?_
          refine lv_ior hx hb dX3_seatBest_91 ?_
          obtain ⟨y_8, e_y_8, hf⟩ := oL_elim hf
          refine z_top e_y_8 ?_
          refine lv_istore_n (lv' := [(2, .int y_8), (8, .int y_3), (7, .int r_1), (0, .ref a_this), (1, .ref a_o1), (3, .int x3), (4, .int x4), (5, .int x5), (6, .int x6)]) hx hb dX3_seatBest_92 rfl hl (z_lt rfl) rfl (fun ls hl => ?_)
          refine lv_iload hx hb dX3_seatBest_93 (lv_at hl 6 rfl) ?_
          refine lv_aload_n hx hb dX3_seatBest_95 rfl (lv_at hl 3 rfl) ?_
          refine z_get E.1 hw in_wsX30 0 rfl rfl 6 (z_lt rfl) mw_227 (v := .ref a_needs) rfl dX3_seatBest_96 ?_
          refine lv_iload hx hb dX3_seatBest_99 (lv_at hl 1 rfl) ?_
          obtain ⟨h_9, hf⟩ := oA_elim hf
          refine z_iald E.1 hw 5 0 rfl rfl h_9 dX3_seatBest_101 ?_
          refine lv_isub hx hb dX3_seatBest_102 ?_
          obtain ⟨y_10, e_y_10, hf⟩ := oL_elim hf
          refine z_top e_y_10 ?_
          refine lv_istore (lv' := [(4, .int y_10), (2, .int y_8), (8, .int y_3), (7, .int r_1), (0, .ref a_this), (1, .ref a_o1), (3, .int x3), (5, .int x5), (6, .int x6)]) hx hb dX3_seatBest_103 hl (z_lt rfl) rfl (fun ls hl => ?_)
          refine lv_aload_n hx hb dX3_seatBest_105 rfl (lv_at hl 4 rfl) ?_
          refine z_get E.1 hw in_wsX30 0 rfl rfl 7 (z_lt rfl) mw_181 (v := .ref a_kindsBehind) rfl dX3_seatBest_106 ?_
          refine lv_iload hx hb dX3_seatBest_109 (lv_at hl 2 rfl) ?_
          obtain ⟨h_11, hf⟩ := oA_elim hf
          refine z_iald E.1 hw 6 0 rfl rfl h_11 dX3_seatBest_111 ?_
          obtain ⟨y_12, e_y_12, hf⟩ := oL_elim hf
          refine z_top e_y_12 ?_
          refine lv_istore_n (lv' := [(3, .int y_12), (4, .int y_10), (2, .int y_8), (8, .int y_3), (7, .int r_1), (0, .ref a_this), (1, .ref a_o1), (5, .int x5), (6, .int x6)]) hx hb dX3_seatBest_112 rfl hl (z_lt rfl) rfl (fun ls hl => ?_)
          refine lv_iload hx hb dX3_seatBest_113 (lv_at hl 8 rfl) ?_
          refine lv_aload_n hx hb dX3_seatBest_115 rfl (lv_at hl 5 rfl) ?_
          refine z_get E.1 hw in_wsX30 0 rfl rfl 0 (z_lt rfl) mw_182 (v := .ref a_street) rfl dX3_seatBest_116 ?_
          refine z_get E.1 hw in_wsX20 1 rfl rfl 6 (z_lt rfl) mw_183 (v := .ref a_street_fronts) rfl dX3_seatBest_119 ?_
          refine lv_iload hx hb dX3_seatBest_122 (lv_at hl 4 rfl) ?_
          obtain ⟨h_13, hf⟩ := oA_elim hf
          refine z_iald E.1 hw 2 0 rfl rfl h_13 dX3_seatBest_124 ?_
          refine lv_iadd hx hb dX3_seatBest_125 ?_
          obtain ⟨y_14, e_y_14, hf⟩ := oL_elim hf
          refine z_top e_y_14 ?_
          refine lv_istore (lv' := [(5, .int y_14), (3, .int y_12), (4, .int y_10), (2, .int y_8), (8, .int y_3), (7, .int r_1), (0, .ref a_this), (1, .ref a_o1), (6, .int x6)]) hx hb dX3_seatBest_126 hl (z_lt rfl) rfl (fun ls hl => ?_)
          exact w_X3_seatBest_128 E ih _ _ _ _ _ _ _ _ _ _ _ _ _ _ _ _ _ _ _ _ _ _ _ _ hf _ _ _ hw (lv_sub hl [6, 7, 3, 1, 2, 0, 8] rfl)
        · have hf := oI_pos hc hf
          refine lv_iconst (v := 0) hx hb dX3_seatBest_63 (by decide) ?_
          refine lv_istore_n (lv' := [(3, .int (0 : Int32)), (7, .int r_1), (0, .ref a_this), (1, .ref a_o1), (2, .int x2), (4, .int x4), (5, .int x5), (6, .int x6)]) hx hb dX3_seatBest_64 rfl hl (z_lt rfl) rfl (fun ls hl => ?_)
          refine lv_goto (tgt := 128) hx hb dX3_seatBest_65 (by decide) ?_
          exact w_X3_seatBest_128 E ih _ _ _ _ _ _ _ _ _ _ _ _ _ _ _ _ _ _ _ _ _ _ _ _ hf _ _ _ hw (lv_sub hl [2, 3, 4, 0, 5, 6, 7] rfl)
      · have hf := oI_neg hc hf
        refine lv_goto (tgt := 128) hx hb dX3_seatBest_42 (by decide) ?_
        exact w_X3_seatBest_128 E ih _ _ _ _ _ _ _ _ _ _ _ _ _ _ _ _ _ _ _ _ _ _ _ _ hf _ _ _ hw (lv_sub hl [0, 1, 2, 3, 4, 5, 6] rfl)
set_option maxHeartbeats 4000000 in
set_option maxRecDepth 100000 in
theorem c_X3_seatBest {l : Launch} {D : va_G} {cI cZ cM : ClassId} {a_this a_street a_table a_worths a_needs a_kindsBehind a_kindOf a_barred a_street_rows a_street_rents a_street_roofs a_street_trades a_street_fronts a_street_limits a_street_needy a_street_clashes a_street_starts a_street_standing a_o1 a_o1_rows a_o1_rents a_o1_roofs a_o1_trades a_o1_fronts a_o1_limits a_o1_needy a_o1_clashes a_o1_starts a_o1_standing : Nat} {v_street_coversBusy : Int32} {v_o1_traders : Int32} {v_o1_covers : Int32} {res : (Nat → Int32) × (Nat → Int32) × Int32} {sz : Nat} {n : Nat} {v_street_pitches : Int32} {v_street_traders : Int32} {v_street_fronts : Nat → Int32} {v_street_covers : Int32} {v_table : Nat → Int32} {n_table : Nat} {v_sets : Int32} {v_kinds : Int32} {v_levels : Int32} {v_worths : Nat → Int32} {v_needs : Nat → Int32} {v_kindsBehind : Nat → Int32} {v_barred : Nat → Int32} {v_o1_pitches : Int32} {v_o1_roofs : Nat → Int32} {v_o1_fronts : Nat → Int32} {v_o1_needy : Nat → Int32} {v_o1_starts : Nat → Int32} {v_o1_standing : Nat → Int32} {v_o1_coversBusy : Int32} (hf : f_X3_seatBest n v_street_pitches v_street_traders v_street_fronts v_street_covers v_table n_table v_sets v_kinds v_levels v_worths v_needs v_kindsBehind v_barred v_o1_pitches v_o1_roofs v_o1_fronts v_o1_needy v_o1_starts v_o1_standing v_o1_coversBusy = some res) : Met l yX3_seatBest zwX3_seatBest rmX3_seatBest (zPc D (zT cI cZ cM) [.ref a_this, .ref a_o1] [(a_this, .inr (3, [.ref a_street, .ref a_table, .int v_sets, .int v_kinds, .int v_levels, .ref a_worths, .ref a_needs, .ref a_kindsBehind, .ref a_kindOf, .ref a_barred])), (a_street, .inr (2, [.int v_street_pitches, .ref a_street_rows, .ref a_street_rents, .ref a_street_roofs, .int v_street_traders, .ref a_street_trades, .ref a_street_fronts, .ref a_street_limits, .ref a_street_needy, .ref a_street_clashes, .int v_street_covers, .ref a_street_starts, .ref a_street_standing, .int v_street_coversBusy])), (a_street_fronts, .inl (cI, 8, .inl v_street_fronts)), (a_table, .inl (cI, n_table, .inl v_table)), (a_worths, .inl (cI, 192, .inl v_worths)), (a_needs, .inl (cI, 192, .inl v_needs)), (a_kindsBehind, .inl (cI, 192, .inl v_kindsBehind)), (a_barred, .inl (cI, 9, .inl v_barred)), (a_o1, .inr (2, [.int v_o1_pitches, .ref a_o1_rows, .ref a_o1_rents, .ref a_o1_roofs, .int v_o1_traders, .ref a_o1_trades, .ref a_o1_fronts, .ref a_o1_limits, .ref a_o1_needy, .ref a_o1_clashes, .int v_o1_covers, .ref a_o1_starts, .ref a_o1_standing, .int v_o1_coversBusy])), (a_o1_roofs, .inl (cZ, 24, .inl v_o1_roofs)), (a_o1_fronts, .inl (cI, 8, .inl v_o1_fronts)), (a_o1_needy, .inl (cZ, 8, .inl v_o1_needy)), (a_o1_starts, .inl (cI, 8, .inl v_o1_starts)), (a_o1_standing, .inl (cI, 24, .inl v_o1_standing))] sz) (zQv D (zT cI cZ cM) [(a_this, .inr (3, [.ref a_street, .ref a_table, .int v_sets, .int v_kinds, .int v_levels, .ref a_worths, .ref a_needs, .ref a_kindsBehind, .ref a_kindOf, .ref a_barred])), (a_street, .inr (2, [.int v_street_pitches, .ref a_street_rows, .ref a_street_rents, .ref a_street_roofs, .int v_street_traders, .ref a_street_trades, .ref a_street_fronts, .ref a_street_limits, .ref a_street_needy, .ref a_street_clashes, .int v_street_covers, .ref a_street_starts, .ref a_street_standing, .int v_street_coversBusy])), (a_street_fronts, .inl (cI, 8, .inl v_street_fronts)), (a_table, .inl (cI, n_table, .inl v_table)), (a_worths, .inl (cI, 192, .inl v_worths)), (a_needs, .inl (cI, 192, .inl v_needs)), (a_kindsBehind, .inl (cI, 192, .inl v_kindsBehind)), (a_barred, .inl (cI, 9, .inl v_barred)), (a_o1, .inr (2, [.int v_o1_pitches, .ref a_o1_rows, .ref a_o1_rents, .ref a_o1_roofs, .int v_o1_traders, .ref a_o1_trades, .ref a_o1_fronts, .ref a_o1_limits, .ref a_o1_needy, .ref a_o1_clashes, .int v_o1_covers, .ref a_o1_starts, .ref a_o1_standing, .int res.2.2])), (a_o1_roofs, .inl (cZ, 24, .inl v_o1_roofs)), (a_o1_fronts, .inl (cI, 8, .inl v_o1_fronts)), (a_o1_needy, .inl (cZ, 8, .inl v_o1_needy)), (a_o1_starts, .inl (cI, 8, .inl res.1)), (a_o1_standing, .inl (cI, 24, .inl res.2.1))] (va_A [(a_this, .inr (3, [.ref a_street, .ref a_table, .int v_sets, .int v_kinds, .int v_levels, .ref a_worths, .ref a_needs, .ref a_kindsBehind, .ref a_kindOf, .ref a_barred])), (a_street, .inr (2, [.int v_street_pitches, .ref a_street_rows, .ref a_street_rents, .ref a_street_roofs, .int v_street_traders, .ref a_street_trades, .ref a_street_fronts, .ref a_street_limits, .ref a_street_needy, .ref a_street_clashes, .int v_street_covers, .ref a_street_starts, .ref a_street_standing, .int v_street_coversBusy])), (a_street_fronts, .inl (cI, 8, .inl v_street_fronts)), (a_table, .inl (cI, n_table, .inl v_table)), (a_worths, .inl (cI, 192, .inl v_worths)), (a_needs, .inl (cI, 192, .inl v_needs)), (a_kindsBehind, .inl (cI, 192, .inl v_kindsBehind)), (a_barred, .inl (cI, 9, .inl v_barred)), (a_o1, .inr (2, [.int v_o1_pitches, .ref a_o1_rows, .ref a_o1_rents, .ref a_o1_roofs, .int v_o1_traders, .ref a_o1_trades, .ref a_o1_fronts, .ref a_o1_limits, .ref a_o1_needy, .ref a_o1_clashes, .int v_o1_covers, .ref a_o1_starts, .ref a_o1_standing, .int v_o1_coversBusy])), (a_o1_roofs, .inl (cZ, 24, .inl v_o1_roofs)), (a_o1_fronts, .inl (cI, 8, .inl v_o1_fronts)), (a_o1_needy, .inl (cZ, 8, .inl v_o1_needy)), (a_o1_starts, .inl (cI, 8, .inl v_o1_starts)), (a_o1_standing, .inl (cI, 24, .inl v_o1_standing))] sz)) 0 0 (va_A [(a_this, .inr (3, [.ref a_street, .ref a_table, .int v_sets, .int v_kinds, .int v_levels, .ref a_worths, .ref a_needs, .ref a_kindsBehind, .ref a_kindOf, .ref a_barred])), (a_street, .inr (2, [.int v_street_pitches, .ref a_street_rows, .ref a_street_rents, .ref a_street_roofs, .int v_street_traders, .ref a_street_trades, .ref a_street_fronts, .ref a_street_limits, .ref a_street_needy, .ref a_street_clashes, .int v_street_covers, .ref a_street_starts, .ref a_street_standing, .int v_street_coversBusy])), (a_street_fronts, .inl (cI, 8, .inl v_street_fronts)), (a_table, .inl (cI, n_table, .inl v_table)), (a_worths, .inl (cI, 192, .inl v_worths)), (a_needs, .inl (cI, 192, .inl v_needs)), (a_kindsBehind, .inl (cI, 192, .inl v_kindsBehind)), (a_barred, .inl (cI, 9, .inl v_barred)), (a_o1, .inr (2, [.int v_o1_pitches, .ref a_o1_rows, .ref a_o1_rents, .ref a_o1_roofs, .int v_o1_traders, .ref a_o1_trades, .ref a_o1_fronts, .ref a_o1_limits, .ref a_o1_needy, .ref a_o1_clashes, .int v_o1_covers, .ref a_o1_starts, .ref a_o1_standing, .int v_o1_coversBusy])), (a_o1_roofs, .inl (cZ, 24, .inl v_o1_roofs)), (a_o1_fronts, .inl (cI, 8, .inl v_o1_fronts)), (a_o1_needy, .inl (cZ, 8, .inl v_o1_needy)), (a_o1_starts, .inl (cI, 8, .inl v_o1_starts)), (a_o1_standing, .inl (cI, 24, .inl v_o1_standing))] sz) := by
  refine z_met (cc := cX3_seatBest) (maxL := 9) (ret := none) (by decide) rfl (Nat.le_of_ble_eq_true rfl) ?_
  intro p e s m below meth c ls E hsz hw hl
  obtain ⟨⟨hx, hb, hml, hown, hts⟩, hr, hlocks⟩ := id E
  have hl : lv_has ls 9 [(0, .ref a_this), (1, .ref a_o1)] := hl
  unfold f_X3_seatBest at hf
  refine lv_iconst (v := 0) hx hb dX3_seatBest_0 (by decide) ?_
  refine lv_istore_n (lv' := [(2, .int (0 : Int32)), (0, .ref a_this), (1, .ref a_o1)]) hx hb dX3_seatBest_1 rfl hl (z_lt rfl) rfl (fun ls hl => ?_)
  refine lv_iconst (v := 0) hx hb dX3_seatBest_2 (by decide) ?_
  refine lv_istore_n (lv' := [(3, .int (0 : Int32)), (2, .int (0 : Int32)), (0, .ref a_this), (1, .ref a_o1)]) hx hb dX3_seatBest_3 rfl hl (z_lt rfl) rfl (fun ls hl => ?_)
  refine lv_aload_n hx hb dX3_seatBest_4 rfl (lv_at hl 2 rfl) ?_
  refine lv_aload_n hx hb dX3_seatBest_5 rfl (lv_at hl 2 rfl) ?_
  refine z_get E.1 hw in_wsX30 0 rfl rfl 0 (z_lt rfl) mw_182 (v := .ref a_street) rfl dX3_seatBest_6 ?_
  refine z_get E.1 hw in_wsX20 1 rfl rfl 10 (z_lt rfl) mw_189 (v := .int v_street_covers) rfl dX3_seatBest_9 ?_
  obtain ⟨r_15, h_16, hf⟩ := oB_elim hf
  refine z_callVi (ws' := [(a_this, .inr (3, [.ref a_street, .ref a_table, .int v_sets, .int v_kinds, .int v_levels, .ref a_worths, .ref a_needs, .ref a_kindsBehind, .ref a_kindOf, .ref a_barred])), (a_street, .inr (2, [.int v_street_pitches, .ref a_street_rows, .ref a_street_rents, .ref a_street_roofs, .int v_street_traders, .ref a_street_trades, .ref a_street_fronts, .ref a_street_limits, .ref a_street_needy, .ref a_street_clashes, .int v_street_covers, .ref a_street_starts, .ref a_street_standing, .int v_street_coversBusy])), (a_street_fronts, .inl (cI, 8, .inl v_street_fronts)), (a_table, .inl (cI, n_table, .inl v_table)), (a_worths, .inl (cI, 192, .inl v_worths)), (a_needs, .inl (cI, 192, .inl v_needs)), (a_kindsBehind, .inl (cI, 192, .inl v_kindsBehind)), (a_barred, .inl (cI, 9, .inl v_barred)), (a_o1, .inr (2, [.int v_o1_pitches, .ref a_o1_rows, .ref a_o1_rents, .ref a_o1_roofs, .int v_o1_traders, .ref a_o1_trades, .ref a_o1_fronts, .ref a_o1_limits, .ref a_o1_needy, .ref a_o1_clashes, .int v_o1_covers, .ref a_o1_starts, .ref a_o1_standing, .int v_o1_coversBusy])), (a_o1_roofs, .inl (cZ, 24, .inl v_o1_roofs)), (a_o1_fronts, .inl (cI, 8, .inl v_o1_fronts)), (a_o1_needy, .inl (cZ, 8, .inl v_o1_needy)), (a_o1_starts, .inl (cI, 8, .inl v_o1_starts)), (a_o1_standing, .inl (cI, 24, .inl v_o1_standing))]) (wr := [(a_street, .inr (2, [.int v_street_pitches, .ref a_street_rows, .ref a_street_rents, .ref a_street_roofs, .int v_street_traders, .ref a_street_trades, .ref a_street_fronts, .ref a_street_limits, .ref a_street_needy, .ref a_street_clashes, .int v_street_covers, .ref a_street_starts, .ref a_street_standing, .int v_street_coversBusy])), (a_street_fronts, .inl (cI, 8, .inl v_street_fronts)), (a_table, .inl (cI, n_table, .inl v_table)), (a_worths, .inl (cI, 192, .inl v_worths)), (a_needs, .inl (cI, 192, .inl v_needs)), (a_kindsBehind, .inl (cI, 192, .inl v_kindsBehind)), (a_barred, .inl (cI, 9, .inl v_barred)), (a_o1, .inr (2, [.int v_o1_pitches, .ref a_o1_rows, .ref a_o1_rents, .ref a_o1_roofs, .int v_o1_traders, .ref a_o1_trades, .ref a_o1_fronts, .ref a_o1_limits, .ref a_o1_needy, .ref a_o1_clashes, .int v_o1_covers, .ref a_o1_starts, .ref a_o1_standing, .int v_o1_coversBusy])), (a_o1_roofs, .inl (cZ, 24, .inl v_o1_roofs)), (a_o1_fronts, .inl (cI, 8, .inl v_o1_fronts)), (a_o1_needy, .inl (cZ, 8, .inl v_o1_needy)), (a_o1_starts, .inl (cI, 8, .inl v_o1_starts)), (a_o1_standing, .inl (cI, 24, .inl v_o1_standing))]) (As := [.int v_street_covers]) (rest := []) E.1 hl hw (c_X3_level h_16) (cwV 1 hts (z_gV mw_212 mw_213 mw_214 mw_187 mw_215) rfl rfl rfl (by decide +kernel) ⟨(Nat.le_of_ble_eq_true rfl), (Nat.le_of_ble_eq_true rfl)⟩) 14 [(0, 1)] [(1, 13)] rfl rfl rfl rfl rfl rfl (by decide +kernel) rfl (q0 := 0) rfl rfl rfl (Nat.le_of_ble_eq_true rfl) dX3_seatBest_12 ⟨Nat.le_of_ble_eq_true rfl, Nat.le_of_ble_eq_true rfl⟩ (fun H locs hw => ?_)
  refine lv_istore (lv' := [(4, .int r_15), (3, .int (0 : Int32)), (2, .int (0 : Int32)), (0, .ref a_this), (1, .ref a_o1)]) hx hb dX3_seatBest_15 hl (z_lt rfl) rfl (fun ls hl => ?_)
  refine lv_iconst (v := 0) hx hb dX3_seatBest_17 (by decide) ?_
  refine lv_istore (lv' := [(5, .int (0 : Int32)), (4, .int r_15), (3, .int (0 : Int32)), (2, .int (0 : Int32)), (0, .ref a_this), (1, .ref a_o1)]) hx hb dX3_seatBest_18 hl (z_lt rfl) rfl (fun ls hl => ?_)
  refine lv_iconst (v := 0) hx hb dX3_seatBest_20 (by decide) ?_
  refine lv_istore (lv' := [(6, .int (0 : Int32)), (5, .int (0 : Int32)), (4, .int r_15), (3, .int (0 : Int32)), (2, .int (0 : Int32)), (0, .ref a_this), (1, .ref a_o1)]) hx hb dX3_seatBest_21 hl (z_lt rfl) rfl (fun ls hl => ?_)
  exact w_X3_seatBest_23 E  n _ _ _ _ _ _ _ _ _ _ _ _ _ _ _ _ _ _ _ _ _ _ _ _ hf _ _ _ hw (lv_sub hl [5, 6, 4, 3, 2, 1, 0] rfl)
end
/-! X4_fail -/
section
variable {p : Program} {l : Launch} {e : Env} {s : State} {m : MethodId} {args : Array Value} {below : List Frame} {meth : Method} {c : Code} {D : va_G} {A : Nat → Prop} {cI cZ cM : ClassId} {a_this a_text : Nat} {v_length : Int32} {v_position : Int32} {v_rowsRead : Int32} {res : Int32 × Int32}
def rmX4_fail : Room := { frames := 0, cells := 0, slots := 0, locals := 0 }
abbrev zwX4_fail : List Cond := Cond.code yX4_fail cX4_fail 3 none :: wsAll
set_option maxHeartbeats 4000000 in
set_option maxRecDepth 100000 in
theorem c_X4_fail {l : Launch} {D : va_G} {cI cZ cM : ClassId} {a_this a_text : Nat} {v_length : Int32} {v_position : Int32} {v_rowsRead : Int32} {res : Int32 × Int32} {sz : Nat} {v_error : Int32} {v_errorAt : Int32} {x1 : Int32} {x2 : Int32} (hf : f_X4_fail v_error v_errorAt x1 x2 = some res) : Met l yX4_fail zwX4_fail rmX4_fail (zPc D (zT cI cZ cM) [.ref a_this, .int x1, .int x2] [(a_this, .inr (4, [.ref a_text, .int v_length, .int v_position, .int v_rowsRead, .int v_error, .int v_errorAt]))] sz) (zQv D (zT cI cZ cM) [(a_this, .inr (4, [.ref a_text, .int v_length, .int v_position, .int v_rowsRead, .int res.1, .int res.2]))] (va_A [(a_this, .inr (4, [.ref a_text, .int v_length, .int v_position, .int v_rowsRead, .int v_error, .int v_errorAt]))] sz)) 0 0 (va_A [(a_this, .inr (4, [.ref a_text, .int v_length, .int v_position, .int v_rowsRead, .int v_error, .int v_errorAt]))] sz) := by
  refine z_met (cc := cX4_fail) (maxL := 3) (ret := none) (by decide) rfl (Nat.le_of_ble_eq_true rfl) ?_
  intro p e s m below meth c ls E hsz hw hl
  obtain ⟨⟨hx, hb, hml, hown, hts⟩, hr, hlocks⟩ := id E
  have hl : lv_has ls 3 [(0, .ref a_this), (1, .int x1), (2, .int x2)] := hl
  unfold f_X4_fail at hf
  refine lv_aload_n hx hb dX4_fail_0 rfl (lv_at hl 0 rfl) ?_
  refine z_get E.1 hw in_wsX40 0 rfl rfl 4 (z_lt rfl) mw_272 (v := .int v_error) rfl dX4_fail_1 ?_
  refine lv_if_ne (tgt := 17) hx hb dX4_fail_4 (by decide) (fun hc => ?_) (fun hc => ?_)
  · have hf := oI_neg hc hf
    cases hf
    exact z_vret E rfl hw dX4_fail_17
  · have hf := oI_pos hc hf
    refine lv_aload_n hx hb dX4_fail_7 rfl (lv_at hl 0 rfl) ?_
    refine lv_iload_n hx hb dX4_fail_8 rfl (lv_at hl 1 rfl) ?_
    refine z_put (ws' := [(a_this, .inr (4, [.ref a_text, .int v_length, .int v_position, .int v_rowsRead, .int x1, .int v_errorAt]))]) E.1 hw in_wsX40 tyX4 tyX4_ok nmX4 0 rfl rfl 4 (z_lt rfl) mw_272 rfl rfl rfl (z_lt rfl) rfl dX4_fail_9 (fun H locs hw => ?_)
    refine lv_aload_n hx hb dX4_fail_12 rfl (lv_at hl 0 rfl) ?_
    refine lv_iload_n hx hb dX4_fail_13 rfl (lv_at hl 2 rfl) ?_
    refine z_put (ws' := [(a_this, .inr (4, [.ref a_text, .int v_length, .int v_position, .int v_rowsRead, .int x1, .int x2]))]) E.1 hw in_wsX40 tyX4 tyX4_ok nmX4 0 rfl rfl 5 (z_lt rfl) mw_273 rfl rfl rfl (z_lt rfl) rfl dX4_fail_14 (fun H locs hw => ?_)
    cases hf
    exact z_vret E rfl hw dX4_fail_17
end
/-! X4_skipSpaces -/
section
variable {p : Program} {l : Launch} {e : Env} {s : State} {m : MethodId} {args : Array Value} {below : List Frame} {meth : Method} {c : Code} {D : va_G} {A : Nat → Prop} {cI cZ cM : ClassId} {a_this a_text : Nat} {v_rowsRead : Int32} {v_error : Int32} {v_errorAt : Int32} {res : Int32}
def rmX4_skipSpaces : Room := { frames := 0, cells := 0, slots := 0, locals := 0 }
abbrev zwX4_skipSpaces : List Cond := Cond.code yX4_skipSpaces cX4_skipSpaces 1 none :: wsAll
set_option maxHeartbeats 4000000 in
set_option maxRecDepth 100000 in
theorem w_X4_skipSpaces_0 {n : Nat} (E : zE p s m args meth c cX4_skipSpaces 1 none zwX4_skipSpaces RX4) : ∀ (fu : Nat), ∀ (v_text : Nat → Int32) (v_length : Int32) (v_position : Int32), f_X4_skipSpaces_0 n fu v_text v_length v_position = some res → ∀ (H : Heap) (locs : List Loc) (ls : Array Slot), zW D (zT cI cZ cM) A s [(a_this, .inr (4, [.ref a_text, .int v_length, .int v_position, .int v_rowsRead, .int v_error, .int v_errorAt])), (a_text, .inl (cI, 600, .inl v_text))] H locs → lv_has ls 1 [(0, .ref a_this)] → W p l e rmX4_skipSpaces s m args below meth c H locs 0 0 (MQ below (zQv D (zT cI cZ cM) [(a_this, .inr (4, [.ref a_text, .int v_length, .int res, .int v_rowsRead, .int v_error, .int v_errorAt])), (a_text, .inl (cI, 600, .inl v_text))] A) args s 0 0 A) (F0 m 0 ls []) := by
  obtain ⟨⟨hx, hb, hml, hown, hts⟩, hr, hlocks⟩ := id E
  intro fu
  induction fu with
  | zero => intro v_text v_length v_position hf; rw [f_X4_skipSpaces_0.eq_1] at hf; cases hf
  | succ fu ih =>
    intro v_text v_length v_position hf H locs ls hw hl
    rw [f_X4_skipSpaces_0.eq_2] at hf
    refine lv_aload_n hx hb dX4_skipSpaces_0 rfl (lv_at hl 0 rfl) ?_
    refine z_get E.1 hw in_wsX40 0 rfl rfl 2 (z_lt rfl) mw_278 (v := .int v_position) rfl dX4_skipSpaces_1 ?_
    refine lv_aload_n hx hb dX4_skipSpaces_4 rfl (lv_at hl 0 rfl) ?_
    refine z_get E.1 hw in_wsX40 0 rfl rfl 1 (z_lt rfl) mw_277 (v := .int v_length) rfl dX4_skipSpaces_5 ?_
    refine lv_icmp_ge (tgt := 38) hx hb dX4_skipSpaces_8 (by decide) (fun hc => ?_) (fun hc => ?_)
    · have hf := oI_pos hc hf
      cases hf
      exact z_vret E rfl hw dX4_skipSpaces_38
    · have hf := oI_neg hc hf
      refine lv_aload_n hx hb dX4_skipSpaces_11 rfl (lv_at hl 0 rfl) ?_
      refine z_get E.1 hw in_wsX40 0 rfl rfl 0 (z_lt rfl) mw_276 (v := .ref a_text) rfl dX4_skipSpaces_12 ?_
      refine lv_aload_n hx hb dX4_skipSpaces_15 rfl (lv_at hl 0 rfl) ?_
      refine z_get E.1 hw in_wsX40 0 rfl rfl 2 (z_lt rfl) mw_278 (v := .int v_position) rfl dX4_skipSpaces_16 ?_
      obtain ⟨h_1, hf⟩ := oA_elim hf
      refine z_iald E.1 hw 1 0 rfl rfl h_1 dX4_skipSpaces_19 ?_
      refine lv_bipush (v := 32) hx hb dX4_skipSpaces_20 (by decide) ?_
      refine lv_icmp_ne (tgt := 38) hx hb dX4_skipSpaces_22 (by decide) (fun hc => ?_) (fun hc => ?_)
      · have hf := oI_neg hc hf
        cases hf
        exact z_vret E rfl hw dX4_skipSpaces_38
      · have hf := oI_pos hc hf
        refine lv_aload_n hx hb dX4_skipSpaces_25 rfl (lv_at hl 0 rfl) ?_
        refine lv_dup hx hb dX4_skipSpaces_26 rfl ?_
        refine z_get E.1 hw in_wsX40 0 rfl rfl 2 (z_lt rfl) mw_278 (v := .int v_position) rfl dX4_skipSpaces_27 ?_
        refine lv_iconst (v := 1) hx hb dX4_skipSpaces_30 (by decide) ?_
        refine lv_iadd hx hb dX4_skipSpaces_31 ?_
        obtain ⟨y_2, e_y_2, hf⟩ := oL_elim hf
        refine z_top e_y_2 ?_
        refine z_put (ws' := [(a_this, .inr (4, [.ref a_text, .int v_length, .int y_2, .int v_rowsRead, .int v_error, .int v_errorAt])), (a_text, .inl (cI, 600, .inl v_text))]) E.1 hw in_wsX40 tyX4 tyX4_ok nmX4 0 rfl rfl 2 (z_lt rfl) mw_278 rfl rfl rfl (z_lt rfl) rfl dX4_skipSpaces_32 (fun H locs hw => ?_)
        refine lv_goto (tgt := 0) hx hb dX4_skipSpaces_35 (by decide) ?_
        exact ih _ _ _ hf _ _ _ hw (lv_sub hl [0] rfl)
set_option maxHeartbeats 4000000 in
set_option maxRecDepth 100000 in
theorem c_X4_skipSpaces {l : Launch} {D : va_G} {cI cZ cM : ClassId} {a_this a_text : Nat} {v_rowsRead : Int32} {v_error : Int32} {v_errorAt : Int32} {res : Int32} {sz : Nat} {n : Nat} {v_text : Nat → Int32} {v_length : Int32} {v_position : Int32} (hf : f_X4_skipSpaces n v_text v_length v_position = some res) : Met l yX4_skipSpaces zwX4_skipSpaces rmX4_skipSpaces (zPc D (zT cI cZ cM) [.ref a_this] [(a_this, .inr (4, [.ref a_text, .int v_length, .int v_position, .int v_rowsRead, .int v_error, .int v_errorAt])), (a_text, .inl (cI, 600, .inl v_text))] sz) (zQv D (zT cI cZ cM) [(a_this, .inr (4, [.ref a_text, .int v_length, .int res, .int v_rowsRead, .int v_error, .int v_errorAt])), (a_text, .inl (cI, 600, .inl v_text))] (va_A [(a_this, .inr (4, [.ref a_text, .int v_length, .int v_position, .int v_rowsRead, .int v_error, .int v_errorAt])), (a_text, .inl (cI, 600, .inl v_text))] sz)) 0 0 (va_A [(a_this, .inr (4, [.ref a_text, .int v_length, .int v_position, .int v_rowsRead, .int v_error, .int v_errorAt])), (a_text, .inl (cI, 600, .inl v_text))] sz) := by
  refine z_met (cc := cX4_skipSpaces) (maxL := 1) (ret := none) (by decide) rfl (Nat.le_of_ble_eq_true rfl) ?_
  intro p e s m below meth c ls E hsz hw hl
  obtain ⟨⟨hx, hb, hml, hown, hts⟩, hr, hlocks⟩ := id E
  have hl : lv_has ls 1 [(0, .ref a_this)] := hl
  unfold f_X4_skipSpaces at hf
  exact w_X4_skipSpaces_0 E  n _ _ _ hf _ _ _ hw (lv_sub hl [0] rfl)
end
/-! X4_isDigit -/
section
variable {p : Program} {l : Launch} {e : Env} {s : State} {m : MethodId} {args : Array Value} {below : List Frame} {meth : Method} {c : Code} {D : va_G} {A : Nat → Prop} {cI cZ cM : ClassId} {a_this a_text : Nat} {v_position : Int32} {v_rowsRead : Int32} {v_error : Int32} {v_errorAt : Int32} {res : Int32}
def rmX4_isDigit : Room := { frames := 0, cells := 0, slots := 0, locals := 0 }
abbrev zwX4_isDigit : List Cond := Cond.code yX4_isDigit cX4_isDigit 2 (some .boolean) :: wsAll
set_option maxHeartbeats 4000000 in
set_option maxRecDepth 100000 in
theorem c_X4_isDigit {l : Launch} {D : va_G} {cI cZ cM : ClassId} {a_this a_text : Nat} {v_position : Int32} {v_rowsRead : Int32} {v_error : Int32} {v_errorAt : Int32} {res : Int32} {sz : Nat} {v_text : Nat → Int32} {v_length : Int32} {x1 : Int32} (hf : f_X4_isDigit v_text v_length x1 = some res) : Met l yX4_isDigit zwX4_isDigit rmX4_isDigit (zPc D (zT cI cZ cM) [.ref a_this, .int x1] [(a_this, .inr (4, [.ref a_text, .int v_length, .int v_position, .int v_rowsRead, .int v_error, .int v_errorAt])), (a_text, .inl (cI, 600, .inl v_text))] sz) (zQi D (zT cI cZ cM) res [(a_this, .inr (4, [.ref a_text, .int v_length, .int v_position, .int v_rowsRead, .int v_error, .int v_errorAt])), (a_text, .inl (cI, 600, .inl v_text))] (va_A [(a_this, .inr (4, [.ref a_text, .int v_length, .int v_position, .int v_rowsRead, .int v_error, .int v_errorAt])), (a_text, .inl (cI, 600, .inl v_text))] sz)) 0 0 (va_A [(a_this, .inr (4, [.ref a_text, .int v_length, .int v_position, .int v_rowsRead, .int v_error, .int v_errorAt])), (a_text, .inl (cI, 600, .inl v_text))] sz) := by
  refine z_met (cc := cX4_isDigit) (maxL := 2) (ret := (some .boolean)) (by decide) rfl (Nat.le_of_ble_eq_true rfl) ?_
  intro p e s m below meth c ls E hsz hw hl
  obtain ⟨⟨hx, hb, hml, hown, hts⟩, hr, hlocks⟩ := id E
  have hl : lv_has ls 2 [(0, .ref a_this), (1, .int x1)] := hl
  unfold f_X4_isDigit at hf
  refine lv_iload_n hx hb dX4_isDigit_0 rfl (lv_at hl 1 rfl) ?_
  refine lv_aload_n hx hb dX4_isDigit_1 rfl (lv_at hl 0 rfl) ?_
  refine z_get E.1 hw in_wsX40 0 rfl rfl 1 (z_lt rfl) mw_277 (v := .int v_length) rfl dX4_isDigit_2 ?_
  refine lv_icmp_ge (tgt := 34) hx hb dX4_isDigit_5 (by decide) (fun hc => ?_) (fun hc => ?_)
  · have hf := oI_pos hc hf
    refine lv_iconst (v := 0) hx hb dX4_isDigit_34 (by decide) ?_
    cases hf
    exact z_zret E rfl z_n0 hw dX4_isDigit_35
  · have hf := oI_neg hc hf
    refine lv_aload_n hx hb dX4_isDigit_8 rfl (lv_at hl 0 rfl) ?_
    refine z_get E.1 hw in_wsX40 0 rfl rfl 0 (z_lt rfl) mw_276 (v := .ref a_text) rfl dX4_isDigit_9 ?_
    refine lv_iload_n hx hb dX4_isDigit_12 rfl (lv_at hl 1 rfl) ?_
    obtain ⟨h_1, hf⟩ := oA_elim hf
    refine z_iald E.1 hw 1 0 rfl rfl h_1 dX4_isDigit_13 ?_
    refine lv_bipush (v := 48) hx hb dX4_isDigit_14 (by decide) ?_
    refine lv_icmp_lt (tgt := 34) hx hb dX4_isDigit_16 (by decide) (fun hc => ?_) (fun hc => ?_)
    · have hf := oI_pos hc hf
      refine lv_iconst (v := 0) hx hb dX4_isDigit_34 (by decide) ?_
      cases hf
      exact z_zret E rfl z_n0 hw dX4_isDigit_35
    · have hf := oI_neg hc hf
      refine lv_aload_n hx hb dX4_isDigit_19 rfl (lv_at hl 0 rfl) ?_
      refine z_get E.1 hw in_wsX40 0 rfl rfl 0 (z_lt rfl) mw_276 (v := .ref a_text) rfl dX4_isDigit_20 ?_
      refine lv_iload_n hx hb dX4_isDigit_23 rfl (lv_at hl 1 rfl) ?_
      obtain ⟨h_2, hf⟩ := oA_elim hf
      refine z_iald E.1 hw 1 0 rfl rfl h_2 dX4_isDigit_24 ?_
      refine lv_bipush (v := 57) hx hb dX4_isDigit_25 (by decide) ?_
      refine lv_icmp_gt (tgt := 34) hx hb dX4_isDigit_27 (by decide) (fun hc => ?_) (fun hc => ?_)
      · have hf := oI_pos hc hf
        refine lv_iconst (v := 0) hx hb dX4_isDigit_34 (by decide) ?_
        cases hf
        exact z_zret E rfl z_n0 hw dX4_isDigit_35
      · have hf := oI_neg hc hf
        refine lv_iconst (v := 1) hx hb dX4_isDigit_30 (by decide) ?_
        refine lv_goto (tgt := 35) hx hb dX4_isDigit_31 (by decide) ?_
        cases hf
        exact z_zret E rfl z_n1 hw dX4_isDigit_35
end
/-! X4_isAtDigit -/
section
variable {p : Program} {l : Launch} {e : Env} {s : State} {m : MethodId} {args : Array Value} {below : List Frame} {meth : Method} {c : Code} {D : va_G} {A : Nat → Prop} {cI cZ cM : ClassId} {a_this a_text : Nat} {v_rowsRead : Int32} {v_errorAt : Int32} {res : Int32 × Int32}
def rmX4_isAtDigit : Room := { frames := 1, cells := 0, slots := 0, locals := 21 }
abbrev zwX4_isAtDigit : List Cond := Cond.code yX4_isAtDigit cX4_isAtDigit 1 (some .boolean) :: wsAll
set_option maxHeartbeats 4000000 in
set_option maxRecDepth 100000 in
theorem c_X4_isAtDigit {l : Launch} {D : va_G} {cI cZ cM : ClassId} {a_this a_text : Nat} {v_rowsRead : Int32} {v_errorAt : Int32} {res : Int32 × Int32} {sz : Nat} {n : Nat} {v_text : Nat → Int32} {v_length : Int32} {v_position : Int32} {v_error : Int32} (hf : f_X4_isAtDigit n v_text v_length v_position v_error = some res) : Met l yX4_isAtDigit zwX4_isAtDigit rmX4_isAtDigit (zPc D (zT cI cZ cM) [.ref a_this] [(a_this, .inr (4, [.ref a_text, .int v_length, .int v_position, .int v_rowsRead, .int v_error, .int v_errorAt])), (a_text, .inl (cI, 600, .inl v_text))] sz) (zQi D (zT cI cZ cM) res.1 [(a_this, .inr (4, [.ref a_text, .int v_length, .int res.2, .int v_rowsRead, .int v_error, .int v_errorAt])), (a_text, .inl (cI, 600, .inl v_text))] (va_A [(a_this, .inr (4, [.ref a_text, .int v_length, .int v_position, .int v_rowsRead, .int v_error, .int v_errorAt])), (a_text, .inl (cI, 600, .inl v_text))] sz)) 0 0 (va_A [(a_this, .inr (4, [.ref a_text, .int v_length, .int v_position, .int v_rowsRead, .int v_error, .int v_errorAt])), (a_text, .inl (cI, 600, .inl v_text))] sz) := by
  refine z_met (cc := cX4_isAtDigit) (maxL := 1) (ret := (some .boolean)) (by decide) rfl (Nat.le_of_ble_eq_true rfl) ?_
  intro p e s m below meth c ls E hsz hw hl
  obtain ⟨⟨hx, hb, hml, hown, hts⟩, hr, hlocks⟩ := id E
  have hl : lv_has ls 1 [(0, .ref a_this)] := hl
  unfold f_X4_isAtDigit at hf
  refine lv_aload_n hx hb dX4_isAtDigit_0 rfl (lv_at hl 0 rfl) ?_
  obtain ⟨v_1, h_2, hf⟩ := oB_elim hf
  refine z_callVv (ws' := [(a_this, .inr (4, [.ref a_text, .int v_length, .int v_1, .int v_rowsRead, .int v_error, .int v_errorAt])), (a_text, .inl (cI, 600, .inl v_text))]) (wr := []) (As := []) (rest := []) E.1 hl hw (c_X4_skipSpaces h_2) (cwV 0 hts (z_gV mw_281 mw_282 mw_283 mw_284 mw_285) rfl rfl rfl (by decide +kernel) ⟨(Nat.le_of_ble_eq_true rfl), (Nat.le_of_ble_eq_true rfl)⟩) 2 [(0, 2)] [] rfl rfl rfl rfl rfl rfl (by decide +kernel) rfl (q0 := 0) rfl rfl rfl (Nat.le_of_ble_eq_true rfl) dX4_isAtDigit_1 ⟨Nat.le_of_ble_eq_true rfl, Nat.le_of_ble_eq_true rfl⟩ (fun H locs hw => ?_)
  refine lv_aload_n hx hb dX4_isAtDigit_4 rfl (lv_at hl 0 rfl) ?_
  refine z_get E.1 hw in_wsX40 0 rfl rfl 4 (z_lt rfl) mw_272 (v := .int v_error) rfl dX4_isAtDigit_5 ?_
  refine lv_if_ne (tgt := 26) hx hb dX4_isAtDigit_8 (by decide) (fun hc => ?_) (fun hc => ?_)
  · have hf := oI_neg hc hf
    refine lv_iconst (v := 0) hx hb dX4_isAtDigit_26 (by decide) ?_
    cases hf
    exact z_zret E rfl z_n0 hw dX4_isAtDigit_27
  · have hf := oI_pos hc hf
    refine lv_aload_n hx hb dX4_isAtDigit_11 rfl (lv_at hl 0 rfl) ?_
    refine lv_aload_n hx hb dX4_isAtDigit_12 rfl (lv_at hl 0 rfl) ?_
    refine z_get E.1 hw in_wsX40 0 rfl rfl 2 (z_lt rfl) mw_278 (v := .int v_1) rfl dX4_isAtDigit_13 ?_
    obtain ⟨r_3, h_4, hf⟩ := oB_elim hf
    refine z_callVi (ws' := [(a_this, .inr (4, [.ref a_text, .int v_length, .int v_1, .int v_rowsRead, .int v_error, .int v_errorAt])), (a_text, .inl (cI, 600, .inl v_text))]) (wr := []) (As := [.int v_1]) (rest := []) E.1 hl hw (c_X4_isDigit h_4) (cwV 1 hts (z_gV mw_286 mw_287 mw_288 mw_284 mw_289) rfl rfl rfl (by decide +kernel) ⟨(Nat.le_of_ble_eq_true rfl), (Nat.le_of_ble_eq_true rfl)⟩) 2 [(0, 2)] [] rfl rfl rfl rfl rfl rfl (by decide +kernel) rfl (q0 := 0) rfl rfl rfl (Nat.le_of_ble_eq_true rfl) dX4_isAtDigit_16 ⟨Nat.le_of_ble_eq_true rfl, Nat.le_of_ble_eq_true rfl⟩ (fun H locs hw => ?_)
    refine lv_if_eq (tgt := 26) hx hb dX4_isAtDigit_19 (by decide) (fun hc => ?_) (fun hc => ?_)
    · have hf := oI_pos hc hf
      refine lv_iconst (v := 0) hx hb dX4_isAtDigit_26 (by decide) ?_
      cases hf
      exact z_zret E rfl z_n0 hw dX4_isAtDigit_27
    · have hf := oI_neg hc hf
      refine lv_iconst (v := 1) hx hb dX4_isAtDigit_22 (by decide) ?_
      refine lv_goto (tgt := 27) hx hb dX4_isAtDigit_23 (by decide) ?_
      cases hf
      exact z_zret E rfl z_n1 hw dX4_isAtDigit_27
end
/-! X4_isLetter -/
section
variable {p : Program} {l : Launch} {e : Env} {s : State} {m : MethodId} {args : Array Value} {below : List Frame} {meth : Method} {c : Code} {D : va_G} {A : Nat → Prop} {cI cZ cM : ClassId} {a_this a_text : Nat} {v_position : Int32} {v_rowsRead : Int32} {v_error : Int32} {v_errorAt : Int32} {res : Int32}
def rmX4_isLetter : Room := { frames := 0, cells := 0, slots := 0, locals := 0 }
abbrev zwX4_isLetter : List Cond := Cond.code yX4_isLetter cX4_isLetter 2 (some .boolean) :: wsAll
set_option maxHeartbeats 4000000 in
set_option maxRecDepth 100000 in
theorem c_X4_isLetter {l : Launch} {D : va_G} {cI cZ cM : ClassId} {a_this a_text : Nat} {v_position : Int32} {v_rowsRead : Int32} {v_error : Int32} {v_errorAt : Int32} {res : Int32} {sz : Nat} {v_text : Nat → Int32} {v_length : Int32} {x1 : Int32} (hf : f_X4_isLetter v_text v_length x1 = some res) : Met l yX4_isLetter zwX4_isLetter rmX4_isLetter (zPc D (zT cI cZ cM) [.ref a_this, .int x1] [(a_this, .inr (4, [.ref a_text, .int v_length, .int v_position, .int v_rowsRead, .int v_error, .int v_errorAt])), (a_text, .inl (cI, 600, .inl v_text))] sz) (zQi D (zT cI cZ cM) res [(a_this, .inr (4, [.ref a_text, .int v_length, .int v_position, .int v_rowsRead, .int v_error, .int v_errorAt])), (a_text, .inl (cI, 600, .inl v_text))] (va_A [(a_this, .inr (4, [.ref a_text, .int v_length, .int v_position, .int v_rowsRead, .int v_error, .int v_errorAt])), (a_text, .inl (cI, 600, .inl v_text))] sz)) 0 0 (va_A [(a_this, .inr (4, [.ref a_text, .int v_length, .int v_position, .int v_rowsRead, .int v_error, .int v_errorAt])), (a_text, .inl (cI, 600, .inl v_text))] sz) := by
  refine z_met (cc := cX4_isLetter) (maxL := 2) (ret := (some .boolean)) (by decide) rfl (Nat.le_of_ble_eq_true rfl) ?_
  intro p e s m below meth c ls E hsz hw hl
  obtain ⟨⟨hx, hb, hml, hown, hts⟩, hr, hlocks⟩ := id E
  have hl : lv_has ls 2 [(0, .ref a_this), (1, .int x1)] := hl
  unfold f_X4_isLetter at hf
  refine lv_iload_n hx hb dX4_isLetter_0 rfl (lv_at hl 1 rfl) ?_
  refine lv_aload_n hx hb dX4_isLetter_1 rfl (lv_at hl 0 rfl) ?_
  refine z_get E.1 hw in_wsX40 0 rfl rfl 1 (z_lt rfl) mw_277 (v := .int v_length) rfl dX4_isLetter_2 ?_
  refine lv_icmp_ge (tgt := 34) hx hb dX4_isLetter_5 (by decide) (fun hc => ?_) (fun hc => ?_)
  · have hf := oI_pos hc hf
    refine lv_iconst (v := 0) hx hb dX4_isLetter_34 (by decide) ?_
    cases hf
    exact z_zret E rfl z_n0 hw dX4_isLetter_35
  · have hf := oI_neg hc hf
    refine lv_aload_n hx hb dX4_isLetter_8 rfl (lv_at hl 0 rfl) ?_
    refine z_get E.1 hw in_wsX40 0 rfl rfl 0 (z_lt rfl) mw_276 (v := .ref a_text) rfl dX4_isLetter_9 ?_
    refine lv_iload_n hx hb dX4_isLetter_12 rfl (lv_at hl 1 rfl) ?_
    obtain ⟨h_1, hf⟩ := oA_elim hf
    refine z_iald E.1 hw 1 0 rfl rfl h_1 dX4_isLetter_13 ?_
    refine lv_bipush (v := 97) hx hb dX4_isLetter_14 (by decide) ?_
    refine lv_icmp_lt (tgt := 34) hx hb dX4_isLetter_16 (by decide) (fun hc => ?_) (fun hc => ?_)
    · have hf := oI_pos hc hf
      refine lv_iconst (v := 0) hx hb dX4_isLetter_34 (by decide) ?_
      cases hf
      exact z_zret E rfl z_n0 hw dX4_isLetter_35
    · have hf := oI_neg hc hf
      refine lv_aload_n hx hb dX4_isLetter_19 rfl (lv_at hl 0 rfl) ?_
      refine z_get E.1 hw in_wsX40 0 rfl rfl 0 (z_lt rfl) mw_276 (v := .ref a_text) rfl dX4_isLetter_20 ?_
      refine lv_iload_n hx hb dX4_isLetter_23 rfl (lv_at hl 1 rfl) ?_
      obtain ⟨h_2, hf⟩ := oA_elim hf
      refine z_iald E.1 hw 1 0 rfl rfl h_2 dX4_isLetter_24 ?_
      refine lv_bipush (v := 122) hx hb dX4_isLetter_25 (by decide) ?_
      refine lv_icmp_gt (tgt := 34) hx hb dX4_isLetter_27 (by decide) (fun hc => ?_) (fun hc => ?_)
      · have hf := oI_pos hc hf
        refine lv_iconst (v := 0) hx hb dX4_isLetter_34 (by decide) ?_
        cases hf
        exact z_zret E rfl z_n0 hw dX4_isLetter_35
      · have hf := oI_neg hc hf
        refine lv_iconst (v := 1) hx hb dX4_isLetter_30 (by decide) ?_
        refine lv_goto (tgt := 35) hx hb dX4_isLetter_31 (by decide) ?_
        cases hf
        exact z_zret E rfl z_n1 hw dX4_isLetter_35
end
/-! X4_readSemicolon -/
section
variable {p : Program} {l : Launch} {e : Env} {s : State} {m : MethodId} {args : Array Value} {below : List Frame} {meth : Method} {c : Code} {D : va_G} {A : Nat → Prop} {cI cZ cM : ClassId} {a_this a_text : Nat} {v_rowsRead : Int32} {res : Int32 × Int32 × Int32}
def rmX4_readSemicolon : Room := { frames := 1, cells := 0, slots := 0, locals := 22 }
abbrev zwX4_readSemicolon : List Cond := Cond.code yX4_readSemicolon cX4_readSemicolon 1 none :: wsAll
set_option maxHeartbeats 4000000 in
set_option maxRecDepth 100000 in
theorem w_X4_readSemicolon_49 {n : Nat} {v_text : Nat → Int32} {v_length : Int32} (E : zE p s m args meth c cX4_readSemicolon 1 none zwX4_readSemicolon RX4) : ∀ (v_position : Int32) (v_error : Int32) (v_errorAt : Int32), f_X4_readSemicolon_49 n v_position v_error v_errorAt = some res → ∀ (H : Heap) (locs : List Loc) (ls : Array Slot), zW D (zT cI cZ cM) A s [(a_this, .inr (4, [.ref a_text, .int v_length, .int v_position, .int v_rowsRead, .int v_error, .int v_errorAt])), (a_text, .inl (cI, 600, .inl v_text))] H locs → lv_has ls 1 [(0, .ref a_this)] → W p l e rmX4_readSemicolon s m args below meth c H locs 0 0 (MQ below (zQv D (zT cI cZ cM) [(a_this, .inr (4, [.ref a_text, .int v_length, .int res.1, .int v_rowsRead, .int res.2.1, .int res.2.2])), (a_text, .inl (cI, 600, .inl v_text))] A) args s 0 0 A) (F0 m 49 ls []) := by
  obtain ⟨⟨hx, hb, hml, hown, hts⟩, hr, hlocks⟩ := id E
  intro v_position v_error v_errorAt hf H locs ls hw hl
  unfold f_X4_readSemicolon_49 at hf
  refine lv_aload_n hx hb dX4_readSemicolon_49 rfl (lv_at hl 0 rfl) ?_
  refine lv_bipush (v := -2) hx hb dX4_readSemicolon_50 (by decide) ?_
  refine lv_aload_n hx hb dX4_readSemicolon_52 rfl (lv_at hl 0 rfl) ?_
  refine z_get E.1 hw in_wsX40 0 rfl rfl 2 (z_lt rfl) mw_278 (v := .int v_position) rfl dX4_readSemicolon_53 ?_
  obtain ⟨v_1, v_2, h_3, hf⟩ := oB2_elim hf
  refine z_callVv (ws' := [(a_this, .inr (4, [.ref a_text, .int v_length, .int v_position, .int v_rowsRead, .int v_1, .int v_2])), (a_text, .inl (cI, 600, .inl v_text))]) (wr := [(a_text, .inl (cI, 600, .inl v_text))]) (As := [.int (-2 : Int32), .int v_position]) (rest := []) E.1 hl hw (c_X4_fail h_3) (cwV 2 hts (z_gV mw_361 mw_362 mw_363 mw_284 mw_271) rfl rfl rfl (by decide +kernel) ⟨(Nat.le_of_ble_eq_true rfl), (Nat.le_of_ble_eq_true rfl)⟩) 2 [(0, 1)] [(1, 1)] rfl rfl rfl rfl rfl rfl (by decide +kernel) rfl (q0 := 0) rfl rfl rfl (Nat.le_of_ble_eq_true rfl) dX4_readSemicolon_56 ⟨Nat.le_of_ble_eq_true rfl, Nat.le_of_ble_eq_true rfl⟩ (fun H locs hw => ?_)
  cases hf
  exact z_vret E rfl hw dX4_readSemicolon_59
set_option maxHeartbeats 4000000 in
set_option maxRecDepth 100000 in
theorem c_X4_readSemicolon {l : Launch} {D : va_G} {cI cZ cM : ClassId} {a_this a_text : Nat} {v_rowsRead : Int32} {res : Int32 × Int32 × Int32} {sz : Nat} {n : Nat} {v_text : Nat → Int32} {v_length : Int32} {v_position : Int32} {v_error : Int32} {v_errorAt : Int32} (hf : f_X4_readSemicolon n v_text v_length v_position v_error v_errorAt = some res) : Met l yX4_readSemicolon zwX4_readSemicolon rmX4_readSemicolon (zPc D (zT cI cZ cM) [.ref a_this] [(a_this, .inr (4, [.ref a_text, .int v_length, .int v_position, .int v_rowsRead, .int v_error, .int v_errorAt])), (a_text, .inl (cI, 600, .inl v_text))] sz) (zQv D (zT cI cZ cM) [(a_this, .inr (4, [.ref a_text, .int v_length, .int res.1, .int v_rowsRead, .int res.2.1, .int res.2.2])), (a_text, .inl (cI, 600, .inl v_text))] (va_A [(a_this, .inr (4, [.ref a_text, .int v_length, .int v_position, .int v_rowsRead, .int v_error, .int v_errorAt])), (a_text, .inl (cI, 600, .inl v_text))] sz)) 0 0 (va_A [(a_this, .inr (4, [.ref a_text, .int v_length, .int v_position, .int v_rowsRead, .int v_error, .int v_errorAt])), (a_text, .inl (cI, 600, .inl v_text))] sz) := by
  refine z_met (cc := cX4_readSemicolon) (maxL := 1) (ret := none) (by decide) rfl (Nat.le_of_ble_eq_true rfl) ?_
  intro p e s m below meth c ls E hsz hw hl
  obtain ⟨⟨hx, hb, hml, hown, hts⟩, hr, hlocks⟩ := id E
  have hl : lv_has ls 1 [(0, .ref a_this)] := hl
  unfold f_X4_readSemicolon at hf
  refine lv_aload_n hx hb dX4_readSemicolon_0 rfl (lv_at hl 0 rfl) ?_
  obtain ⟨v_4, h_5, hf⟩ := oB_elim hf
  refine z_callVv (ws' := [(a_this, .inr (4, [.ref a_text, .int v_length, .int v_4, .int v_rowsRead, .int v_error, .int v_errorAt])), (a_text, .inl (cI, 600, .inl v_text))]) (wr := []) (As := []) (rest := []) E.1 hl hw (c_X4_skipSpaces h_5) (cwV 0 hts (z_gV mw_281 mw_282 mw_283 mw_284 mw_285) rfl rfl rfl (by decide +kernel) ⟨(Nat.le_of_ble_eq_true rfl), (Nat.le_of_ble_eq_true rfl)⟩) 2 [(0, 2)] [] rfl rfl rfl rfl rfl rfl (by decide +kernel) rfl (q0 := 0) rfl rfl rfl (Nat.le_of_ble_eq_true rfl) dX4_readSemicolon_1 ⟨Nat.le_of_ble_eq_true rfl, Nat.le_of_ble_eq_true rfl⟩ (fun H locs hw => ?_)
  refine lv_aload_n hx hb dX4_readSemicolon_4 rfl (lv_at hl 0 rfl) ?_
  refine z_get E.1 hw in_wsX40 0 rfl rfl 4 (z_lt rfl) mw_272 (v := .int v_error) rfl dX4_readSemicolon_5 ?_
  refine lv_if_ne (tgt := 49) hx hb dX4_readSemicolon_8 (by decide) (fun hc => ?_) (fun hc => ?_)
  · have hf := oI_neg hc hf
    exact w_X4_readSemicolon_49 E  _ _ _ hf _ _ _ hw (lv_sub hl [0] rfl)
  · have hf := oI_pos hc hf
    refine lv_aload_n hx hb dX4_readSemicolon_11 rfl (lv_at hl 0 rfl) ?_
    refine z_get E.1 hw in_wsX40 0 rfl rfl 2 (z_lt rfl) mw_278 (v := .int v_4) rfl dX4_readSemicolon_12 ?_
    refine lv_aload_n hx hb dX4_readSemicolon_15 rfl (lv_at hl 0 rfl) ?_
    refine z_get E.1 hw in_wsX40 0 rfl rfl 1 (z_lt rfl) mw_277 (v := .int v_length) rfl dX4_readSemicolon_16 ?_
    refine lv_icmp_ge (tgt := 49) hx hb dX4_readSemicolon_19 (by decide) (fun hc => ?_) (fun hc => ?_)
    · have hf := oI_pos hc hf
      exact w_X4_readSemicolon_49 E  _ _ _ hf _ _ _ hw (lv_sub hl [0] rfl)
    · have hf := oI_neg hc hf
      refine lv_aload_n hx hb dX4_readSemicolon_22 rfl (lv_at hl 0 rfl) ?_
      refine z_get E.1 hw in_wsX40 0 rfl rfl 0 (z_lt rfl) mw_276 (v := .ref a_text) rfl dX4_readSemicolon_23 ?_
      refine lv_aload_n hx hb dX4_readSemicolon_26 rfl (lv_at hl 0 rfl) ?_
      refine z_get E.1 hw in_wsX40 0 rfl rfl 2 (z_lt rfl) mw_278 (v := .int v_4) rfl dX4_readSemicolon_27 ?_
      obtain ⟨h_6, hf⟩ := oA_elim hf
      refine z_iald E.1 hw 1 0 rfl rfl h_6 dX4_readSemicolon_30 ?_
      refine lv_bipush (v := 59) hx hb dX4_readSemicolon_31 (by decide) ?_
      refine lv_icmp_ne (tgt := 49) hx hb dX4_readSemicolon_33 (by decide) (fun hc => ?_) (fun hc => ?_)
      · have hf := oI_neg hc hf
        exact w_X4_readSemicolon_49 E  _ _ _ hf _ _ _ hw (lv_sub hl [0] rfl)
      · have hf := oI_pos hc hf
        refine lv_aload_n hx hb dX4_readSemicolon_36 rfl (lv_at hl 0 rfl) ?_
        refine lv_dup hx hb dX4_readSemicolon_37 rfl ?_
        refine z_get E.1 hw in_wsX40 0 rfl rfl 2 (z_lt rfl) mw_278 (v := .int v_4) rfl dX4_readSemicolon_38 ?_
        refine lv_iconst (v := 1) hx hb dX4_readSemicolon_41 (by decide) ?_
        refine lv_iadd hx hb dX4_readSemicolon_42 ?_
        obtain ⟨y_7, e_y_7, hf⟩ := oL_elim hf
        refine z_top e_y_7 ?_
        refine z_put (ws' := [(a_this, .inr (4, [.ref a_text, .int v_length, .int y_7, .int v_rowsRead, .int v_error, .int v_errorAt])), (a_text, .inl (cI, 600, .inl v_text))]) E.1 hw in_wsX40 tyX4 tyX4_ok nmX4 0 rfl rfl 2 (z_lt rfl) mw_278 rfl rfl rfl (z_lt rfl) rfl dX4_readSemicolon_43 (fun H locs hw => ?_)
        refine lv_goto (tgt := 59) hx hb dX4_readSemicolon_46 (by decide) ?_
        cases hf
        exact z_vret E rfl hw dX4_readSemicolon_59
end
/-! X4_takesWord -/
section
variable {p : Program} {l : Launch} {e : Env} {s : State} {m : MethodId} {args : Array Value} {below : List Frame} {meth : Method} {c : Code} {D : va_G} {A : Nat → Prop} {cI cZ cM : ClassId} {a_this a_text : Nat} {v_rowsRead : Int32} {v_errorAt : Int32} {res : Int32 × Int32} {adK adV : Nat → Nat}
def rmX4_takesWord : Room := { frames := 4, cells := 0, slots := 0, locals := 111 }
abbrev zwX4_takesWord : List Cond := Cond.code yX4_takesWord cX4_takesWord 4 (some .boolean) :: wsAll
set_option maxHeartbeats 4000000 in
set_option maxRecDepth 100000 in
theorem w_X4_takesWord_46 {n : Nat} {v_length : Int32} {v_error : Int32} (E : zE p s m args meth c cX4_takesWord 4 (some .boolean) zwX4_takesWord RX4) (hT : zTn s) (hLt : zLt adK s) (hG : zSg adK adV A s s.heap) : ∀ (fu : Nat), ∀ (x1 : Nat) (x2 : Int32) (x3 : Int32) (v_text : Nat → Int32) (v_position : Int32), f_X4_takesWord_46 n fu x1 x2 x3 v_text v_position = some res → ∀ (H : Heap) (locs : List Loc) (ls : Array Slot), zW D (zT cI cZ cM) A s [(a_this, .inr (4, [.ref a_text, .int v_length, .int v_position, .int v_rowsRead, .int v_error, .int v_errorAt])), (a_text, .inl (cI, 600, .inl v_text))] H locs → lv_has ls 4 [(0, .ref a_this), (1, .ref (adK x1)), (2, .int x2), (3, .int x3)] → W p l e rmX4_takesWord s m args below meth c H locs 0 0 (MQ below (zQi D (zT cI cZ cM) res.1 [(a_this, .inr (4, [.ref a_text, .int v_length, .int res.2, .int v_rowsRead, .int v_error, .int v_errorAt])), (a_text, .inl (cI, 600, .inl v_text))] A) args s 0 0 A) (F0 m 46 ls []) := by
  obtain ⟨⟨hx, hb, hml, hown, hts⟩, hr, hlocks⟩ := id E
  intro fu
  induction fu with
  | zero => intro x1 x2 x3 v_text v_position hf; rw [f_X4_takesWord_46.eq_1] at hf; cases hf
  | succ fu ih =>
    intro x1 x2 x3 v_text v_position hf H locs ls hw hl
    rw [f_X4_takesWord_46.eq_2] at hf
    refine lv_iload_n hx hb dX4_takesWord_46 rfl (lv_at hl 3 rfl) ?_
    refine lv_iload_n hx hb dX4_takesWord_47 rfl (lv_at hl 2 rfl) ?_
    refine lv_icmp_ge (tgt := 78) hx hb dX4_takesWord_48 (by decide) (fun hc => ?_) (fun hc => ?_)
    · have hf := oI_pos hc hf
      refine lv_aload_n hx hb dX4_takesWord_78 rfl (lv_at hl 0 rfl) ?_
      refine lv_dup hx hb dX4_takesWord_79 rfl ?_
      refine z_get E.1 hw in_wsX40 0 rfl rfl 2 (z_lt rfl) mw_278 (v := .int v_position) rfl dX4_takesWord_80 ?_
      refine lv_iload_n hx hb dX4_takesWord_83 rfl (lv_at hl 2 rfl) ?_
      refine lv_iadd hx hb dX4_takesWord_84 ?_
      obtain ⟨y_1, e_y_1, hf⟩ := oL_elim hf
      refine z_top e_y_1 ?_
      refine z_put (ws' := [(a_this, .inr (4, [.ref a_text, .int v_length, .int y_1, .int v_rowsRead, .int v_error, .int v_errorAt])), (a_text, .inl (cI, 600, .inl v_text))]) E.1 hw in_wsX40 tyX4 tyX4_ok nmX4 0 rfl rfl 2 (z_lt rfl) mw_278 rfl rfl rfl (z_lt rfl) rfl dX4_takesWord_85 (fun H locs hw => ?_)
      refine lv_iconst (v := 1) hx hb dX4_takesWord_88 (by decide) ?_
      cases hf
      exact z_zret E rfl z_n1 hw dX4_takesWord_89
    · have hf := oI_neg hc hf
      refine lv_aload_n hx hb dX4_takesWord_51 rfl (lv_at hl 0 rfl) ?_
      refine z_get E.1 hw in_wsX40 0 rfl rfl 0 (z_lt rfl) mw_276 (v := .ref a_text) rfl dX4_takesWord_52 ?_
      refine lv_aload_n hx hb dX4_takesWord_55 rfl (lv_at hl 0 rfl) ?_
      refine z_get E.1 hw in_wsX40 0 rfl rfl 2 (z_lt rfl) mw_278 (v := .int v_position) rfl dX4_takesWord_56 ?_
      refine lv_iload_n hx hb dX4_takesWord_59 rfl (lv_at hl 3 rfl) ?_
      refine lv_iadd hx hb dX4_takesWord_60 ?_
      obtain ⟨h_2, hf⟩ := oA_elim hf
      refine z_iald E.1 hw 1 0 rfl rfl h_2 dX4_takesWord_61 ?_
      refine lv_aload_n hx hb dX4_takesWord_62 rfl (lv_at hl 1 rfl) ?_
      refine lv_iload_n hx hb dX4_takesWord_63 rfl (lv_at hl 3 rfl) ?_
      obtain ⟨h_3, hf⟩ := oG_elim hf
      obtain ⟨h_4, hf⟩ := oA_elim hf
      obtain ⟨j_7, h_5, h_6⟩ := vp_in_of h_4 (js_small _ h_3)
      refine z_top h_6.symm ?_
      refine z_callJV (i := x1) (As := [.int (nI j_7)]) (rest := [.int (v_text ((v_position + x3)).toNatClampNeg)]) E.1 hl hT hLt hG hw h_3 (c_J0_charAt_5068e h_3 h_5) (cwV 1 hts (z_gV mw_320 mw_321 mw_322 mw_308 mw_323) rfl rfl rfl (by decide +kernel) ⟨Nat.le_of_ble_eq_true rfl, Nat.le_of_ble_eq_true rfl⟩) rfl rfl (Nat.le_of_ble_eq_true rfl) dX4_takesWord_64 ⟨Nat.le_of_ble_eq_true rfl, Nat.le_of_ble_eq_true rfl⟩ (fun H locs hw => ?_)
      refine z_top (y := (jsCh x1 (x3).toNatClampNeg)) (by rw [h_6, nI_clamp (Nat.lt_trans h_5 (js_small _ h_3))]) ?_
      refine lv_icmp_eq (tgt := 72) hx hb dX4_takesWord_67 (by decide) (fun hc => ?_) (fun hc => ?_)
      · have hf := oI_pos hc hf
        refine lv_iinc (v := (x3 + (1 : Int32))) (lv' := [(3, .int (x3 + (1 : Int32))), (0, .ref a_this), (1, .ref (adK x1)), (2, .int x2)]) hx hb dX4_takesWord_72 hl (k := 3) rfl rfl (z_lt rfl) rfl (fun ls hl => ?_)
        refine lv_goto (tgt := 46) hx hb dX4_takesWord_75 (by decide) ?_
        exact ih _ _ _ _ _ hf _ _ _ hw (lv_sub hl [1, 2, 3, 0] rfl)
      · have hf := oI_neg hc hf
        refine lv_iconst (v := 0) hx hb dX4_takesWord_70 (by decide) ?_
        cases hf
        exact z_zret E rfl z_n0 hw dX4_takesWord_71
set_option maxHeartbeats 4000000 in
set_option maxRecDepth 100000 in
theorem c_X4_takesWord {l : Launch} {D : va_G} {cI cZ cM : ClassId} {adK adV : Nat → Nat} {a_this a_text : Nat} {v_rowsRead : Int32} {v_errorAt : Int32} {res : Int32 × Int32} {sz : Nat} {n : Nat} {v_text : Nat → Int32} {v_length : Int32} {v_position : Int32} {v_error : Int32} {x1 : Nat} (hf : f_X4_takesWord n v_text v_length v_position v_error x1 = some res) : Met l yX4_takesWord zwX4_takesWord rmX4_takesWord (zPcG D (zT cI cZ cM) [.ref a_this, .ref (adK x1)] [(a_this, .inr (4, [.ref a_text, .int v_length, .int v_position, .int v_rowsRead, .int v_error, .int v_errorAt])), (a_text, .inl (cI, 600, .inl v_text))] sz adK adV) (zQi D (zT cI cZ cM) res.1 [(a_this, .inr (4, [.ref a_text, .int v_length, .int res.2, .int v_rowsRead, .int v_error, .int v_errorAt])), (a_text, .inl (cI, 600, .inl v_text))] (va_A [(a_this, .inr (4, [.ref a_text, .int v_length, .int v_position, .int v_rowsRead, .int v_error, .int v_errorAt])), (a_text, .inl (cI, 600, .inl v_text))] sz)) 0 0 (va_A [(a_this, .inr (4, [.ref a_text, .int v_length, .int v_position, .int v_rowsRead, .int v_error, .int v_errorAt])), (a_text, .inl (cI, 600, .inl v_text))] sz) := by
  refine z_metG (cc := cX4_takesWord) (maxL := 4) (ret := (some .boolean)) (by decide) rfl (Nat.le_of_ble_eq_true rfl) ?_
  intro p e s m below meth c ls E hT hLt hG hsz hw hl
  obtain ⟨⟨hx, hb, hml, hown, hts⟩, hr, hlocks⟩ := id E
  have hl : lv_has ls 4 [(0, .ref a_this), (1, .ref (adK x1))] := hl
  unfold f_X4_takesWord at hf
  refine lv_aload_n hx hb dX4_takesWord_0 rfl (lv_at hl 0 rfl) ?_
  obtain ⟨v_8, h_9, hf⟩ := oB_elim hf
  refine z_callVv (ws' := [(a_this, .inr (4, [.ref a_text, .int v_length, .int v_8, .int v_rowsRead, .int v_error, .int v_errorAt])), (a_text, .inl (cI, 600, .inl v_text))]) (wr := []) (As := []) (rest := []) E.1 hl hw (c_X4_skipSpaces h_9) (cwV 0 hts (z_gV mw_281 mw_282 mw_283 mw_284 mw_285) rfl rfl rfl (by decide +kernel) ⟨(Nat.le_of_ble_eq_true rfl), (Nat.le_of_ble_eq_true rfl)⟩) 2 [(0, 2)] [] rfl rfl rfl rfl rfl rfl (by decide +kernel) rfl (q0 := 0) rfl rfl rfl (Nat.le_of_ble_eq_true rfl) dX4_takesWord_1 ⟨Nat.le_of_ble_eq_true rfl, Nat.le_of_ble_eq_true rfl⟩ (fun H locs hw => ?_)
  refine lv_aload_n hx hb dX4_takesWord_4 rfl (lv_at hl 1 rfl) ?_
  obtain ⟨h_10, hf⟩ := oG_elim hf
  refine z_callJV (i := x1) (As := []) (rest := []) E.1 hl hT hLt hG hw h_10 (c_J0_length_8abf5 h_10) (cwV 0 hts (z_gV mw_305 mw_306 mw_307 mw_308 mw_309) rfl rfl rfl (by decide +kernel) ⟨Nat.le_of_ble_eq_true rfl, Nat.le_of_ble_eq_true rfl⟩) rfl rfl (Nat.le_of_ble_eq_true rfl) dX4_takesWord_5 ⟨Nat.le_of_ble_eq_true rfl, Nat.le_of_ble_eq_true rfl⟩ (fun H locs hw => ?_)
  obtain ⟨y_11, e_y_11, hf⟩ := oL_elim hf
  refine z_top e_y_11 ?_
  refine lv_istore_n (lv' := [(2, .int y_11), (0, .ref a_this), (1, .ref (adK x1))]) hx hb dX4_takesWord_8 rfl hl (z_lt rfl) rfl (fun ls hl => ?_)
  refine lv_aload_n hx hb dX4_takesWord_9 rfl (lv_at hl 1 rfl) ?_
  refine z_get E.1 hw in_wsX40 0 rfl rfl 4 (z_lt rfl) mw_272 (v := .int v_error) rfl dX4_takesWord_10 ?_
  refine lv_if_ne (tgt := 42) hx hb dX4_takesWord_13 (by decide) (fun hc => ?_) (fun hc => ?_)
  · have hf := oI_neg hc hf
    refine lv_iconst (v := 0) hx hb dX4_takesWord_42 (by decide) ?_
    cases hf
    exact z_zret E rfl z_n0 hw dX4_takesWord_43
  · have hf := oI_pos hc hf
    refine lv_aload_n hx hb dX4_takesWord_16 rfl (lv_at hl 1 rfl) ?_
    refine z_get E.1 hw in_wsX40 0 rfl rfl 2 (z_lt rfl) mw_278 (v := .int v_8) rfl dX4_takesWord_17 ?_
    refine lv_iload_n hx hb dX4_takesWord_20 rfl (lv_at hl 0 rfl) ?_
    refine lv_iadd hx hb dX4_takesWord_21 ?_
    refine lv_aload_n hx hb dX4_takesWord_22 rfl (lv_at hl 1 rfl) ?_
    refine z_get E.1 hw in_wsX40 0 rfl rfl 1 (z_lt rfl) mw_277 (v := .int v_length) rfl dX4_takesWord_23 ?_
    refine lv_icmp_gt (tgt := 42) hx hb dX4_takesWord_26 (by decide) (fun hc => ?_) (fun hc => ?_)
    · have hf := oI_pos hc hf
      refine lv_iconst (v := 0) hx hb dX4_takesWord_42 (by decide) ?_
      cases hf
      exact z_zret E rfl z_n0 hw dX4_takesWord_43
    · have hf := oI_neg hc hf
      refine lv_aload_n hx hb dX4_takesWord_29 rfl (lv_at hl 1 rfl) ?_
      refine lv_aload_n hx hb dX4_takesWord_30 rfl (lv_at hl 1 rfl) ?_
      refine z_get E.1 hw in_wsX40 0 rfl rfl 2 (z_lt rfl) mw_278 (v := .int v_8) rfl dX4_takesWord_31 ?_
      refine lv_iload_n hx hb dX4_takesWord_34 rfl (lv_at hl 0 rfl) ?_
      refine lv_iadd hx hb dX4_takesWord_35 ?_
      obtain ⟨r_12, h_13, hf⟩ := oB_elim hf
      refine z_callVi (ws' := [(a_this, .inr (4, [.ref a_text, .int v_length, .int v_8, .int v_rowsRead, .int v_error, .int v_errorAt])), (a_text, .inl (cI, 600, .inl v_text))]) (wr := []) (As := [.int (v_8 + y_11)]) (rest := []) E.1 hl hw (c_X4_isLetter h_13) (cwV 1 hts (z_gV mw_317 mw_318 mw_319 mw_284 mw_290) rfl rfl rfl (by decide +kernel) ⟨(Nat.le_of_ble_eq_true rfl), (Nat.le_of_ble_eq_true rfl)⟩) 2 [(0, 2)] [] rfl rfl rfl rfl rfl rfl (by decide +kernel) rfl (q0 := 0) rfl rfl rfl (Nat.le_of_ble_eq_true rfl) dX4_takesWord_36 ⟨Nat.le_of_ble_eq_true rfl, Nat.le_of_ble_eq_true rfl⟩ (fun H locs hw => ?_)
      refine lv_if_eq (tgt := 44) hx hb dX4_takesWord_39 (by decide) (fun hc => ?_) (fun hc => ?_)
      · have hf := oI_pos hc hf
        refine lv_iconst (v := 0) hx hb dX4_takesWord_44 (by decide) ?_
        refine lv_istore_n (lv' := [(3, .int (0 : Int32)), (2, .int y_11), (0, .ref a_this), (1, .ref (adK x1))]) hx hb dX4_takesWord_45 rfl hl (z_lt rfl) rfl (fun ls hl => ?_)
        exact w_X4_takesWord_46 E hT hLt hG  n _ _ _ _ _ hf _ _ _ hw (lv_sub hl [2, 3, 1, 0] rfl)
      · have hf := oI_neg hc hf
        refine lv_iconst (v := 0) hx hb dX4_takesWord_42 (by decide) ?_
        cases hf
        exact z_zret E rfl z_n0 hw dX4_takesWord_43
end
/-! X5_isOutside -/
section
variable {p : Program} {l : Launch} {e : Env} {s : State} {m : MethodId} {args : Array Value} {below : List Frame} {meth : Method} {c : Code} {D : va_G} {A : Nat → Prop} {cI cZ cM : ClassId} {res : Int32}
def rmX5_isOutside : Room := { frames := 0, cells := 0, slots := 0, locals := 0 }
abbrev zwX5_isOutside : List Cond := Cond.code yX5_isOutside cX5_isOutside 3 (some .boolean) :: wsAll
set_option maxHeartbeats 4000000 in
set_option maxRecDepth 100000 in
theorem w_X5_isOutside_10 (E : zE p s m args meth c cX5_isOutside 3 (some .boolean) zwX5_isOutside RX5) : f_X5_isOutside_10 = some res → ∀ (H : Heap) (locs : List Loc) (ls : Array Slot), zW D (zT cI cZ cM) A s [] H locs → lv_has ls 3 [] → W p l e rmX5_isOutside s m args below meth c H locs 0 0 (MQ below (zQi D (zT cI cZ cM) res [] A) args s 0 0 A) (F0 m 10 ls []) := by
  obtain ⟨⟨hx, hb, hml, hown, hts⟩, hr, hlocks⟩ := id E
  intro  hf H locs ls hw hl
  unfold f_X5_isOutside_10 at hf
  refine lv_iconst (v := 1) hx hb dX5_isOutside_10 (by decide) ?_
  refine lv_goto (tgt := 15) hx hb dX5_isOutside_11 (by decide) ?_
  cases hf
  exact z_zret E rfl z_n1 hw dX5_isOutside_15
set_option maxHeartbeats 4000000 in
set_option maxRecDepth 100000 in
theorem c_X5_isOutside {l : Launch} {D : va_G} {cI cZ cM : ClassId} {res : Int32} {sz : Nat} {x0 : Int32} {x1 : Int32} {x2 : Int32} (hf : f_X5_isOutside x0 x1 x2 = some res) : Met l yX5_isOutside zwX5_isOutside rmX5_isOutside (zPc D (zT cI cZ cM) [.int x0, .int x1, .int x2] [] sz) (zQi D (zT cI cZ cM) res [] (va_A [] sz)) 0 0 (va_A [] sz) := by
  refine z_met (cc := cX5_isOutside) (maxL := 3) (ret := (some .boolean)) (by decide) rfl (Nat.le_of_ble_eq_true rfl) ?_
  intro p e s m below meth c ls E hsz hw hl
  obtain ⟨⟨hx, hb, hml, hown, hts⟩, hr, hlocks⟩ := id E
  have hl : lv_has ls 3 [(0, .int x0), (1, .int x1), (2, .int x2)] := hl
  unfold f_X5_isOutside at hf
  refine lv_iload_n hx hb dX5_isOutside_0 rfl (lv_at hl 0 rfl) ?_
  refine lv_iload_n hx hb dX5_isOutside_1 rfl (lv_at hl 1 rfl) ?_
  refine lv_icmp_lt (tgt := 10) hx hb dX5_isOutside_2 (by decide) (fun hc => ?_) (fun hc => ?_)
  · have hf := oI_pos hc hf
    exact w_X5_isOutside_10 E   hf _ _ _ hw (lv_sub hl [] rfl)
  · have hf := oI_neg hc hf
    refine lv_iload_n hx hb dX5_isOutside_5 rfl (lv_at hl 0 rfl) ?_
    refine lv_iload_n hx hb dX5_isOutside_6 rfl (lv_at hl 2 rfl) ?_
    refine lv_icmp_le (tgt := 14) hx hb dX5_isOutside_7 (by decide) (fun hc => ?_) (fun hc => ?_)
    · have hf := oI_pos hc hf
      refine lv_iconst (v := 0) hx hb dX5_isOutside_14 (by decide) ?_
      cases hf
      exact z_zret E rfl z_n0 hw dX5_isOutside_15
    · have hf := oI_neg hc hf
      exact w_X5_isOutside_10 E   hf _ _ _ hw (lv_sub hl [] rfl)
end
/-! X4_readNumber -/
section
variable {p : Program} {l : Launch} {e : Env} {s : State} {m : MethodId} {args : Array Value} {below : List Frame} {meth : Method} {c : Code} {D : va_G} {A : Nat → Prop} {cI cZ cM : ClassId} {a_this a_text : Nat} {v_rowsRead : Int32} {res : Int32 × Int32 × Int32 × Int32} {adK adV : Nat → Nat}
def rmX4_readNumber : Room := { frames := 2, cells := 0, slots := 0, locals := 41 }
abbrev zwX4_readNumber : List Cond := Cond.code yX4_readNumber cX4_readNumber 5 (some .int) :: wsAll
set_option maxHeartbeats 4000000 in
set_option maxRecDepth 100000 in
theorem w_X4_readNumber_88 {n : Nat} {v_text : Nat → Int32} {v_length : Int32} (E : zE p s m args meth c cX4_readNumber 5 (some .int) zwX4_readNumber RX4) (hT : zTn s) (hLt : zLt adK s) (hG : zSg adK adV A s s.heap) : ∀ (x1 : Int32) (x2 : Int32) (x3 : Int32) (x4 : Int32) (v_position : Int32) (v_error : Int32) (v_errorAt : Int32), f_X4_readNumber_88 n x1 x2 x3 x4 v_position v_error v_errorAt = some res → ∀ (H : Heap) (locs : List Loc) (ls : Array Slot), zW D (zT cI cZ cM) A s [(a_this, .inr (4, [.ref a_text, .int v_length, .int v_position, .int v_rowsRead, .int v_error, .int v_errorAt])), (a_text, .inl (cI, 600, .inl v_text))] H locs → lv_has ls 5 [(0, .ref a_this), (1, .int x1), (2, .int x2), (3, .int x3), (4, .int x4)] → W p l e rmX4_readNumber s m args below meth c H locs 0 0 (MQ below (zQi D (zT cI cZ cM) res.1 [(a_this, .inr (4, [.ref a_text, .int v_length, .int res.2.1, .int v_rowsRead, .int res.2.2.1, .int res.2.2.2])), (a_text, .inl (cI, 600, .inl v_text))] A) args s 0 0 A) (F0 m 88 ls []) := by
  obtain ⟨⟨hx, hb, hml, hown, hts⟩, hr, hlocks⟩ := id E
  intro x1 x2 x3 x4 v_position v_error v_errorAt hf H locs ls hw hl
  unfold f_X4_readNumber_88 at hf
  refine lv_iload hx hb dX4_readNumber_88 (lv_at hl 4 rfl) ?_
  refine lv_iload_n hx hb dX4_readNumber_90 rfl (lv_at hl 1 rfl) ?_
  refine lv_iload_n hx hb dX4_readNumber_91 rfl (lv_at hl 2 rfl) ?_
  obtain ⟨r_1, h_2, hf⟩ := oB_elim hf
  refine z_callSNi (As := [.int x4, .int x1, .int x2]) (rest := []) E.1 hl hw (c_X5_isOutside h_2) ⟨va_cnB 3 hts (z_all mw_378 rfl) rfl rfl rfl hT.2.2.2.2 (hts _ mw_377) (by decide +kernel) ⟨Nat.le_of_ble_eq_true rfl, Nat.le_of_ble_eq_true rfl⟩, hts _ mw_376, trivial⟩ rfl rfl (Nat.le_of_ble_eq_true rfl) dX4_readNumber_92 ⟨Nat.le_of_ble_eq_true rfl, Nat.le_of_ble_eq_true rfl⟩ (fun H locs hw => ?_)
  refine lv_if_eq (tgt := 107) hx hb dX4_readNumber_95 (by decide) (fun hc => ?_) (fun hc => ?_)
  · have hf := oI_pos hc hf
    refine lv_iload hx hb dX4_readNumber_107 (lv_at hl 4 rfl) ?_
    cases hf
    exact z_iret E rfl hw dX4_readNumber_109
  · have hf := oI_neg hc hf
    refine lv_aload_n hx hb dX4_readNumber_98 rfl (lv_at hl 0 rfl) ?_
    refine lv_bipush (v := -3) hx hb dX4_readNumber_99 (by decide) ?_
    refine lv_iload_n hx hb dX4_readNumber_101 rfl (lv_at hl 3 rfl) ?_
    obtain ⟨v_3, v_4, h_5, hf⟩ := oB2_elim hf
    refine z_callVv (ws' := [(a_this, .inr (4, [.ref a_text, .int v_length, .int v_position, .int v_rowsRead, .int v_3, .int v_4])), (a_text, .inl (cI, 600, .inl v_text))]) (wr := [(a_text, .inl (cI, 600, .inl v_text))]) (As := [.int (-3 : Int32), .int x3]) (rest := []) E.1 hl hw (c_X4_fail h_5) (cwV 2 hts (z_gV mw_361 mw_362 mw_363 mw_284 mw_271) rfl rfl rfl (by decide +kernel) ⟨(Nat.le_of_ble_eq_true rfl), (Nat.le_of_ble_eq_true rfl)⟩) 2 [(0, 1)] [(1, 1)] rfl rfl rfl rfl rfl rfl (by decide +kernel) rfl (q0 := 0) rfl rfl rfl (Nat.le_of_ble_eq_true rfl) dX4_readNumber_102 ⟨Nat.le_of_ble_eq_true rfl, Nat.le_of_ble_eq_true rfl⟩ (fun H locs hw => ?_)
    refine lv_iconst (v := 0) hx hb dX4_readNumber_105 (by decide) ?_
    cases hf
    exact z_iret E rfl hw dX4_readNumber_106
set_option maxHeartbeats 4000000 in
set_option maxRecDepth 100000 in
theorem w_X4_readNumber_27 {n : Nat} (E : zE p s m args meth c cX4_readNumber 5 (some .int) zwX4_readNumber RX4) (hT : zTn s) (hLt : zLt adK s) (hG : zSg adK adV A s s.heap) : ∀ (fu : Nat), ∀ (x1 : Int32) (x2 : Int32) (x3 : Int32) (x4 : Int32) (v_text : Nat → Int32) (v_length : Int32) (v_position : Int32) (v_error : Int32) (v_errorAt : Int32), f_X4_readNumber_27 n fu x1 x2 x3 x4 v_text v_length v_position v_error v_errorAt = some res → ∀ (H : Heap) (locs : List Loc) (ls : Array Slot), zW D (zT cI cZ cM) A s [(a_this, .inr (4, [.ref a_text, .int v_length, .int v_position, .int v_rowsRead, .int v_error, .int v_errorAt])), (a_text, .inl (cI, 600, .inl v_text))] H locs → lv_has ls 5 [(0, .ref a_this), (1, .int x1), (2, .int x2), (3, .int x3), (4, .int x4)] → W p l e rmX4_readNumber s m args below meth c H locs 0 0 (MQ below (zQi D (zT cI cZ cM) res.1 [(a_this, .inr (4, [.ref a_text, .int v_length, .int res.2.1, .int v_rowsRead, .int res.2.2.1, .int res.2.2.2])), (a_text, .inl (cI, 600, .inl v_text))] A) args s 0 0 A) (F0 m 27 ls []) := by
  obtain ⟨⟨hx, hb, hml, hown, hts⟩, hr, hlocks⟩ := id E
  intro fu
  induction fu with
  | zero => intro x1 x2 x3 x4 v_text v_length v_position v_error v_errorAt hf; rw [f_X4_readNumber_27.eq_1] at hf; cases hf
  | succ fu ih =>
    intro x1 x2 x3 x4 v_text v_length v_position v_error v_errorAt hf H locs ls hw hl
    rw [f_X4_readNumber_27.eq_2] at hf
    refine lv_aload_n hx hb dX4_readNumber_27 rfl (lv_at hl 0 rfl) ?_
    refine z_get E.1 hw in_wsX40 0 rfl rfl 2 (z_lt rfl) mw_278 (v := .int v_position) rfl dX4_readNumber_28 ?_
    refine lv_aload_n hx hb dX4_readNumber_31 rfl (lv_at hl 0 rfl) ?_
    refine z_get E.1 hw in_wsX40 0 rfl rfl 1 (z_lt rfl) mw_277 (v := .int v_length) rfl dX4_readNumber_32 ?_
    refine lv_icmp_ge (tgt := 88) hx hb dX4_readNumber_35 (by decide) (fun hc => ?_) (fun hc => ?_)
    · have hf := oI_pos hc hf
      exact w_X4_readNumber_88 E hT hLt hG  _ _ _ _ _ _ _ hf _ _ _ hw (lv_sub hl [0, 1, 2, 3, 4] rfl)
    · have hf := oI_neg hc hf
      refine lv_aload_n hx hb dX4_readNumber_38 rfl (lv_at hl 0 rfl) ?_
      refine lv_aload_n hx hb dX4_readNumber_39 rfl (lv_at hl 0 rfl) ?_
      refine z_get E.1 hw in_wsX40 0 rfl rfl 2 (z_lt rfl) mw_278 (v := .int v_position) rfl dX4_readNumber_40 ?_
      obtain ⟨r_6, h_7, hf⟩ := oB_elim hf
      refine z_callVi (ws' := [(a_this, .inr (4, [.ref a_text, .int v_length, .int v_position, .int v_rowsRead, .int v_error, .int v_errorAt])), (a_text, .inl (cI, 600, .inl v_text))]) (wr := []) (As := [.int v_position]) (rest := []) E.1 hl hw (c_X4_isDigit h_7) (cwV 1 hts (z_gV mw_286 mw_287 mw_288 mw_284 mw_289) rfl rfl rfl (by decide +kernel) ⟨(Nat.le_of_ble_eq_true rfl), (Nat.le_of_ble_eq_true rfl)⟩) 2 [(0, 2)] [] rfl rfl rfl rfl rfl rfl (by decide +kernel) rfl (q0 := 0) rfl rfl rfl (Nat.le_of_ble_eq_true rfl) dX4_readNumber_43 ⟨Nat.le_of_ble_eq_true rfl, Nat.le_of_ble_eq_true rfl⟩ (fun H locs hw => ?_)
      refine lv_if_eq (tgt := 88) hx hb dX4_readNumber_46 (by decide) (fun hc => ?_) (fun hc => ?_)
      · have hf := oI_pos hc hf
        exact w_X4_readNumber_88 E hT hLt hG  _ _ _ _ _ _ _ hf _ _ _ hw (lv_sub hl [0, 1, 2, 3, 4] rfl)
      · have hf := oI_neg hc hf
        refine lv_iload hx hb dX4_readNumber_49 (lv_at hl 4 rfl) ?_
        refine lv_bipush (v := 10) hx hb dX4_readNumber_51 (by decide) ?_
        refine lv_imul hx hb dX4_readNumber_53 ?_
        refine lv_aload_n hx hb dX4_readNumber_54 rfl (lv_at hl 0 rfl) ?_
        refine z_get E.1 hw in_wsX40 0 rfl rfl 0 (z_lt rfl) mw_276 (v := .ref a_text) rfl dX4_readNumber_55 ?_
        refine lv_aload_n hx hb dX4_readNumber_58 rfl (lv_at hl 0 rfl) ?_
        refine z_get E.1 hw in_wsX40 0 rfl rfl 2 (z_lt rfl) mw_278 (v := .int v_position) rfl dX4_readNumber_59 ?_
        obtain ⟨h_8, hf⟩ := oA_elim hf
        refine z_iald E.1 hw 1 0 rfl rfl h_8 dX4_readNumber_62 ?_
        refine lv_iadd hx hb dX4_readNumber_63 ?_
        refine lv_bipush (v := 48) hx hb dX4_readNumber_64 (by decide) ?_
        refine lv_isub hx hb dX4_readNumber_66 ?_
        refine lv_sipush (v := 10000) hx hb dX4_readNumber_67 (by decide) ?_
        refine z_mmin E.1 hl mw_292 mw_194 mw_195 mw_196 (Nat.le_of_ble_eq_true rfl) (Nat.le_of_ble_eq_true rfl) (Nat.le_of_ble_eq_true rfl) (Nat.le_of_ble_eq_true rfl) dX4_readNumber_70 ?_
        obtain ⟨y_9, e_y_9, hf⟩ := oL_elim hf
        refine z_top e_y_9 ?_
        refine lv_istore (lv' := [(4, .int y_9), (0, .ref a_this), (1, .int x1), (2, .int x2), (3, .int x3)]) hx hb dX4_readNumber_73 hl (z_lt rfl) rfl (fun ls hl => ?_)
        refine lv_aload_n hx hb dX4_readNumber_75 rfl (lv_at hl 1 rfl) ?_
        refine lv_dup hx hb dX4_readNumber_76 rfl ?_
        refine z_get E.1 hw in_wsX40 0 rfl rfl 2 (z_lt rfl) mw_278 (v := .int v_position) rfl dX4_readNumber_77 ?_
        refine lv_iconst (v := 1) hx hb dX4_readNumber_80 (by decide) ?_
        refine lv_iadd hx hb dX4_readNumber_81 ?_
        obtain ⟨y_10, e_y_10, hf⟩ := oL_elim hf
        refine z_top e_y_10 ?_
        refine z_put (ws' := [(a_this, .inr (4, [.ref a_text, .int v_length, .int y_10, .int v_rowsRead, .int v_error, .int v_errorAt])), (a_text, .inl (cI, 600, .inl v_text))]) E.1 hw in_wsX40 tyX4 tyX4_ok nmX4 0 rfl rfl 2 (z_lt rfl) mw_278 rfl rfl rfl (z_lt rfl) rfl dX4_readNumber_82 (fun H locs hw => ?_)
        refine lv_goto (tgt := 27) hx hb dX4_readNumber_85 (by decide) ?_
        exact ih _ _ _ _ _ _ _ _ _ hf _ _ _ hw (lv_sub hl [1, 2, 3, 4, 0] rfl)
set_option maxHeartbeats 4000000 in
set_option maxRecDepth 100000 in
theorem c_X4_readNumber {l : Launch} {D : va_G} {cI cZ cM : ClassId} {adK adV : Nat → Nat} {a_this a_text : Nat} {v_rowsRead : Int32} {res : Int32 × Int32 × Int32 × Int32} {sz : Nat} {n : Nat} {v_text : Nat → Int32} {v_length : Int32} {v_position : Int32} {v_error : Int32} {v_errorAt : Int32} {x1 : Int32} {x2 : Int32} (hf : f_X4_readNumber n v_text v_length v_position v_error v_errorAt x1 x2 = some res) : Met l yX4_readNumber zwX4_readNumber rmX4_readNumber (zPcG D (zT cI cZ cM) [.ref a_this, .int x1, .int x2] [(a_this, .inr (4, [.ref a_text, .int v_length, .int v_position, .int v_rowsRead, .int v_error, .int v_errorAt])), (a_text, .inl (cI, 600, .inl v_text))] sz adK adV) (zQi D (zT cI cZ cM) res.1 [(a_this, .inr (4, [.ref a_text, .int v_length, .int res.2.1, .int v_rowsRead, .int res.2.2.1, .int res.2.2.2])), (a_text, .inl (cI, 600, .inl v_text))] (va_A [(a_this, .inr (4, [.ref a_text, .int v_length, .int v_position, .int v_rowsRead, .int v_error, .int v_errorAt])), (a_text, .inl (cI, 600, .inl v_text))] sz)) 0 0 (va_A [(a_this, .inr (4, [.ref a_text, .int v_length, .int v_position, .int v_rowsRead, .int v_error, .int v_errorAt])), (a_text, .inl (cI, 600, .inl v_text))] sz) := by
  refine z_metG (cc := cX4_readNumber) (maxL := 5) (ret := (some .int)) (by decide) rfl (Nat.le_of_ble_eq_true rfl) ?_
  intro p e s m below meth c ls E hT hLt hG hsz hw hl
  obtain ⟨⟨hx, hb, hml, hown, hts⟩, hr, hlocks⟩ := id E
  have hl : lv_has ls 5 [(0, .ref a_this), (1, .int x1), (2, .int x2)] := hl
  unfold f_X4_readNumber at hf
  refine lv_aload_n hx hb dX4_readNumber_0 rfl (lv_at hl 0 rfl) ?_
  obtain ⟨r_11, v_12, h_13, hf⟩ := oB2_elim hf
  refine z_callVi (ws' := [(a_this, .inr (4, [.ref a_text, .int v_length, .int v_12, .int v_rowsRead, .int v_error, .int v_errorAt])), (a_text, .inl (cI, 600, .inl v_text))]) (wr := []) (As := []) (rest := []) E.1 hl hw (c_X4_isAtDigit h_13) (cwV 0 hts (z_gV mw_373 mw_374 mw_375 mw_284 mw_280) rfl rfl rfl (by decide +kernel) ⟨(Nat.le_of_ble_eq_true rfl), (Nat.le_of_ble_eq_true rfl)⟩) 2 [(0, 2)] [] rfl rfl rfl rfl rfl rfl (by decide +kernel) rfl (q0 := 0) rfl rfl rfl (Nat.le_of_ble_eq_true rfl) dX4_readNumber_1 ⟨Nat.le_of_ble_eq_true rfl, Nat.le_of_ble_eq_true rfl⟩ (fun H locs hw => ?_)
  refine lv_if_ne (tgt := 19) hx hb dX4_readNumber_4 (by decide) (fun hc => ?_) (fun hc => ?_)
  · have hf := oI_neg hc hf
    refine lv_aload_n hx hb dX4_readNumber_19 rfl (lv_at hl 0 rfl) ?_
    refine z_get E.1 hw in_wsX40 0 rfl rfl 2 (z_lt rfl) mw_278 (v := .int v_12) rfl dX4_readNumber_20 ?_
    refine lv_istore_n (lv' := [(3, .int v_12), (0, .ref a_this), (1, .int x1), (2, .int x2)]) hx hb dX4_readNumber_23 rfl hl (z_lt rfl) rfl (fun ls hl => ?_)
    refine lv_iconst (v := 0) hx hb dX4_readNumber_24 (by decide) ?_
    refine lv_istore (lv' := [(4, .int (0 : Int32)), (3, .int v_12), (0, .ref a_this), (1, .int x1), (2, .int x2)]) hx hb dX4_readNumber_25 hl (z_lt rfl) rfl (fun ls hl => ?_)
    exact w_X4_readNumber_27 E hT hLt hG  n _ _ _ _ _ _ _ _ _ hf _ _ _ hw (lv_sub hl [2, 3, 4, 1, 0] rfl)
  · have hf := oI_pos hc hf
    refine lv_aload_n hx hb dX4_readNumber_7 rfl (lv_at hl 0 rfl) ?_
    refine lv_bipush (v := -2) hx hb dX4_readNumber_8 (by decide) ?_
    refine lv_aload_n hx hb dX4_readNumber_10 rfl (lv_at hl 0 rfl) ?_
    refine z_get E.1 hw in_wsX40 0 rfl rfl 2 (z_lt rfl) mw_278 (v := .int v_12) rfl dX4_readNumber_11 ?_
    obtain ⟨v_14, v_15, h_16, hf⟩ := oB2_elim hf
    refine z_callVv (ws' := [(a_this, .inr (4, [.ref a_text, .int v_length, .int v_12, .int v_rowsRead, .int v_14, .int v_15])), (a_text, .inl (cI, 600, .inl v_text))]) (wr := [(a_text, .inl (cI, 600, .inl v_text))]) (As := [.int (-2 : Int32), .int v_12]) (rest := []) E.1 hl hw (c_X4_fail h_16) (cwV 2 hts (z_gV mw_361 mw_362 mw_363 mw_284 mw_271) rfl rfl rfl (by decide +kernel) ⟨(Nat.le_of_ble_eq_true rfl), (Nat.le_of_ble_eq_true rfl)⟩) 2 [(0, 1)] [(1, 1)] rfl rfl rfl rfl rfl rfl (by decide +kernel) rfl (q0 := 0) rfl rfl rfl (Nat.le_of_ble_eq_true rfl) dX4_readNumber_14 ⟨Nat.le_of_ble_eq_true rfl, Nat.le_of_ble_eq_true rfl⟩ (fun H locs hw => ?_)
    refine lv_iconst (v := 0) hx hb dX4_readNumber_17 (by decide) ?_
    cases hf
    exact z_iret E rfl hw dX4_readNumber_18
end
/-! X4_readClash -/
section
variable {p : Program} {l : Launch} {e : Env} {s : State} {m : MethodId} {args : Array Value} {below : List Frame} {meth : Method} {c : Code} {D : va_G} {A : Nat → Prop} {cI cZ cM : ClassId} {a_this a_text a_o1 a_o1_rows a_o1_rents a_o1_roofs a_o1_trades a_o1_fronts a_o1_limits a_o1_needy a_o1_clashes a_o1_starts a_o1_standing : Nat} {v_rowsRead : Int32} {v_o1_pitches : Int32} {v_o1_traders : Int32} {v_o1_covers : Int32} {v_o1_coversBusy : Int32} {res : Int32 × Int32 × Int32 × (Nat → Int32)} {adK adV : Nat → Nat}
def rmX4_readClash : Room := { frames := 3, cells := 0, slots := 0, locals := 65 }
abbrev zwX4_readClash : List Cond := Cond.code yX4_readClash cX4_readClash 4 none :: wsAll
set_option maxHeartbeats 4000000 in
set_option maxRecDepth 100000 in
theorem c_X4_readClash {l : Launch} {D : va_G} {cI cZ cM : ClassId} {adK adV : Nat → Nat} {a_this a_text a_o1 a_o1_rows a_o1_rents a_o1_roofs a_o1_trades a_o1_fronts a_o1_limits a_o1_needy a_o1_clashes a_o1_starts a_o1_standing : Nat} {v_rowsRead : Int32} {v_o1_pitches : Int32} {v_o1_traders : Int32} {v_o1_covers : Int32} {v_o1_coversBusy : Int32} {res : Int32 × Int32 × Int32 × (Nat → Int32)} {sz : Nat} {n : Nat} {v_text : Nat → Int32} {v_length : Int32} {v_position : Int32} {v_error : Int32} {v_errorAt : Int32} {v_o1_clashes : Nat → Int32} (hf : f_X4_readClash n v_text v_length v_position v_error v_errorAt v_o1_clashes = some res) : Met l yX4_readClash zwX4_readClash rmX4_readClash (zPcG D (zT cI cZ cM) [.ref a_this, .ref a_o1] [(a_this, .inr (4, [.ref a_text, .int v_length, .int v_position, .int v_rowsRead, .int v_error, .int v_errorAt])), (a_text, .inl (cI, 600, .inl v_text)), (a_o1, .inr (2, [.int v_o1_pitches, .ref a_o1_rows, .ref a_o1_rents, .ref a_o1_roofs, .int v_o1_traders, .ref a_o1_trades, .ref a_o1_fronts, .ref a_o1_limits, .ref a_o1_needy, .ref a_o1_clashes, .int v_o1_covers, .ref a_o1_starts, .ref a_o1_standing, .int v_o1_coversBusy])), (a_o1_clashes, .inl (cI, 8, .inl v_o1_clashes))] sz adK adV) (zQv D (zT cI cZ cM) [(a_this, .inr (4, [.ref a_text, .int v_length, .int res.1, .int v_rowsRead, .int res.2.1, .int res.2.2.1])), (a_text, .inl (cI, 600, .inl v_text)), (a_o1, .inr (2, [.int v_o1_pitches, .ref a_o1_rows, .ref a_o1_rents, .ref a_o1_roofs, .int v_o1_traders, .ref a_o1_trades, .ref a_o1_fronts, .ref a_o1_limits, .ref a_o1_needy, .ref a_o1_clashes, .int v_o1_covers, .ref a_o1_starts, .ref a_o1_standing, .int v_o1_coversBusy])), (a_o1_clashes, .inl (cI, 8, .inl res.2.2.2))] (va_A [(a_this, .inr (4, [.ref a_text, .int v_length, .int v_position, .int v_rowsRead, .int v_error, .int v_errorAt])), (a_text, .inl (cI, 600, .inl v_text)), (a_o1, .inr (2, [.int v_o1_pitches, .ref a_o1_rows, .ref a_o1_rents, .ref a_o1_roofs, .int v_o1_traders, .ref a_o1_trades, .ref a_o1_fronts, .ref a_o1_limits, .ref a_o1_needy, .ref a_o1_clashes, .int v_o1_covers, .ref a_o1_starts, .ref a_o1_standing, .int v_o1_coversBusy])), (a_o1_clashes, .inl (cI, 8, .inl v_o1_clashes))] sz)) 0 0 (va_A [(a_this, .inr (4, [.ref a_text, .int v_length, .int v_position, .int v_rowsRead, .int v_error, .int v_errorAt])), (a_text, .inl (cI, 600, .inl v_text)), (a_o1, .inr (2, [.int v_o1_pitches, .ref a_o1_rows, .ref a_o1_rents, .ref a_o1_roofs, .int v_o1_traders, .ref a_o1_trades, .ref a_o1_fronts, .ref a_o1_limits, .ref a_o1_needy, .ref a_o1_clashes, .int v_o1_covers, .ref a_o1_starts, .ref a_o1_standing, .int v_o1_coversBusy])), (a_o1_clashes, .inl (cI, 8, .inl v_o1_clashes))] sz) := by
  refine z_metG (cc := cX4_readClash) (maxL := 4) (ret := none) (by decide) rfl (Nat.le_of_ble_eq_true rfl) ?_
  intro p e s m below meth c ls E hT hLt hG hsz hw hl
  obtain ⟨⟨hx, hb, hml, hown, hts⟩, hr, hlocks⟩ := id E
  have hl : lv_has ls 4 [(0, .ref a_this), (1, .ref a_o1)] := hl
  unfold f_X4_readClash at hf
  refine lv_aload_n hx hb dX4_readClash_0 rfl (lv_at hl 0 rfl) ?_
  refine lv_iconst (v := 0) hx hb dX4_readClash_1 (by decide) ?_
  refine lv_bipush (v := 7) hx hb dX4_readClash_2 (by decide) ?_
  obtain ⟨r_1, v_2, v_3, v_4, h_5, hf⟩ := oB4_elim hf
  refine z_callGVi (ws' := [(a_this, .inr (4, [.ref a_text, .int v_length, .int v_2, .int v_rowsRead, .int v_3, .int v_4])), (a_text, .inl (cI, 600, .inl v_text)), (a_o1, .inr (2, [.int v_o1_pitches, .ref a_o1_rows, .ref a_o1_rents, .ref a_o1_roofs, .int v_o1_traders, .ref a_o1_trades, .ref a_o1_fronts, .ref a_o1_limits, .ref a_o1_needy, .ref a_o1_clashes, .int v_o1_covers, .ref a_o1_starts, .ref a_o1_standing, .int v_o1_coversBusy])), (a_o1_clashes, .inl (cI, 8, .inl v_o1_clashes))]) (wr := [(a_o1, .inr (2, [.int v_o1_pitches, .ref a_o1_rows, .ref a_o1_rents, .ref a_o1_roofs, .int v_o1_traders, .ref a_o1_trades, .ref a_o1_fronts, .ref a_o1_limits, .ref a_o1_needy, .ref a_o1_clashes, .int v_o1_covers, .ref a_o1_starts, .ref a_o1_standing, .int v_o1_coversBusy])), (a_o1_clashes, .inl (cI, 8, .inl v_o1_clashes))]) (As := [.int (0 : Int32), .int (7 : Int32)]) (rest := []) E.1 hl hT hLt hG hw (c_X4_readNumber h_5) (cwV 2 hts (z_gV mw_369 mw_370 mw_371 mw_284 mw_372) rfl rfl rfl (by decide +kernel) ⟨(Nat.le_of_ble_eq_true rfl), (Nat.le_of_ble_eq_true rfl)⟩) 4 [(0, 2)] [(2, 2)] rfl rfl rfl rfl rfl rfl (by decide +kernel) rfl (q0 := 0) rfl rfl rfl (Nat.le_of_ble_eq_true rfl) dX4_readClash_4 ⟨Nat.le_of_ble_eq_true rfl, Nat.le_of_ble_eq_true rfl⟩ (fun H locs hw => ?_)
  refine lv_istore_n (lv' := [(2, .int r_1), (0, .ref a_this), (1, .ref a_o1)]) hx hb dX4_readClash_7 rfl hl (z_lt rfl) rfl (fun ls hl => ?_)
  refine lv_aload_n hx hb dX4_readClash_8 rfl (lv_at hl 1 rfl) ?_
  refine lv_iconst (v := 0) hx hb dX4_readClash_9 (by decide) ?_
  refine lv_bipush (v := 7) hx hb dX4_readClash_10 (by decide) ?_
  obtain ⟨r_6, v_7, v_8, v_9, h_10, hf⟩ := oB4_elim hf
  refine z_callGVi (ws' := [(a_this, .inr (4, [.ref a_text, .int v_length, .int v_7, .int v_rowsRead, .int v_8, .int v_9])), (a_text, .inl (cI, 600, .inl v_text)), (a_o1, .inr (2, [.int v_o1_pitches, .ref a_o1_rows, .ref a_o1_rents, .ref a_o1_roofs, .int v_o1_traders, .ref a_o1_trades, .ref a_o1_fronts, .ref a_o1_limits, .ref a_o1_needy, .ref a_o1_clashes, .int v_o1_covers, .ref a_o1_starts, .ref a_o1_standing, .int v_o1_coversBusy])), (a_o1_clashes, .inl (cI, 8, .inl v_o1_clashes))]) (wr := [(a_o1, .inr (2, [.int v_o1_pitches, .ref a_o1_rows, .ref a_o1_rents, .ref a_o1_roofs, .int v_o1_traders, .ref a_o1_trades, .ref a_o1_fronts, .ref a_o1_limits, .ref a_o1_needy, .ref a_o1_clashes, .int v_o1_covers, .ref a_o1_starts, .ref a_o1_standing, .int v_o1_coversBusy])), (a_o1_clashes, .inl (cI, 8, .inl v_o1_clashes))]) (As := [.int (0 : Int32), .int (7 : Int32)]) (rest := []) E.1 hl hT hLt hG hw (c_X4_readNumber h_10) (cwV 2 hts (z_gV mw_369 mw_370 mw_371 mw_284 mw_372) rfl rfl rfl (by decide +kernel) ⟨(Nat.le_of_ble_eq_true rfl), (Nat.le_of_ble_eq_true rfl)⟩) 4 [(0, 2)] [(2, 2)] rfl rfl rfl rfl rfl rfl (by decide +kernel) rfl (q0 := 0) rfl rfl rfl (Nat.le_of_ble_eq_true rfl) dX4_readClash_12 ⟨Nat.le_of_ble_eq_true rfl, Nat.le_of_ble_eq_true rfl⟩ (fun H locs hw => ?_)
  refine lv_istore_n (lv' := [(3, .int r_6), (2, .int r_1), (0, .ref a_this), (1, .ref a_o1)]) hx hb dX4_readClash_15 rfl hl (z_lt rfl) rfl (fun ls hl => ?_)
  refine lv_aload_n hx hb dX4_readClash_16 rfl (lv_at hl 2 rfl) ?_
  refine z_get E.1 hw in_wsX40 0 rfl rfl 4 (z_lt rfl) mw_272 (v := .int v_8) rfl dX4_readClash_17 ?_
  refine lv_if_ne (tgt := 30) hx hb dX4_readClash_20 (by decide) (fun hc => ?_) (fun hc => ?_)
  · have hf := oI_neg hc hf
    cases hf
    exact z_vret E rfl hw dX4_readClash_30
  · have hf := oI_pos hc hf
    refine lv_aload_n hx hb dX4_readClash_23 rfl (lv_at hl 3 rfl) ?_
    refine lv_iload_n hx hb dX4_readClash_24 rfl (lv_at hl 1 rfl) ?_
    refine lv_iload_n hx hb dX4_readClash_25 rfl (lv_at hl 0 rfl) ?_
    refine lv_iconst (v := 1) hx hb dX4_readClash_26 (by decide) ?_
    obtain ⟨v_11, h_12, hf⟩ := oB_elim hf
    refine z_callVv (ws' := [(a_this, .inr (4, [.ref a_text, .int v_length, .int v_7, .int v_rowsRead, .int v_8, .int v_9])), (a_text, .inl (cI, 600, .inl v_text)), (a_o1, .inr (2, [.int v_o1_pitches, .ref a_o1_rows, .ref a_o1_rents, .ref a_o1_roofs, .int v_o1_traders, .ref a_o1_trades, .ref a_o1_fronts, .ref a_o1_limits, .ref a_o1_needy, .ref a_o1_clashes, .int v_o1_covers, .ref a_o1_starts, .ref a_o1_standing, .int v_o1_coversBusy])), (a_o1_clashes, .inl (cI, 8, .inl v_11))]) (wr := [(a_this, .inr (4, [.ref a_text, .int v_length, .int v_7, .int v_rowsRead, .int v_8, .int v_9])), (a_text, .inl (cI, 600, .inl v_text))]) (As := [.int r_1, .int r_6, .int (1 : Int32)]) (rest := []) E.1 hl hw (c_X2_putClash h_12) (cwV 3 hts (z_gV mw_398 mw_399 mw_400 mw_9 mw_161) rfl rfl rfl (by decide +kernel) ⟨(Nat.le_of_ble_eq_true rfl), (Nat.le_of_ble_eq_true rfl)⟩) 4 [(2, 2)] [(0, 2)] rfl rfl rfl rfl rfl rfl (by decide +kernel) rfl (q0 := 0) rfl rfl rfl (Nat.le_of_ble_eq_true rfl) dX4_readClash_27 ⟨Nat.le_of_ble_eq_true rfl, Nat.le_of_ble_eq_true rfl⟩ (fun H locs hw => ?_)
    cases hf
    exact z_vret E rfl hw dX4_readClash_30
end
/-! X4_readWord -/
section
variable {p : Program} {l : Launch} {e : Env} {s : State} {m : MethodId} {args : Array Value} {below : List Frame} {meth : Method} {c : Code} {D : va_G} {A : Nat → Prop} {cI cZ cM : ClassId} {a_this a_text : Nat} {v_rowsRead : Int32} {res : Int32 × Int32 × Int32} {adK adV : Nat → Nat}
def rmX4_readWord : Room := { frames := 5, cells := 0, slots := 0, locals := 134 }
abbrev zwX4_readWord : List Cond := Cond.code yX4_readWord cX4_readWord 2 none :: wsAll
set_option maxHeartbeats 4000000 in
set_option maxRecDepth 100000 in
theorem c_X4_readWord {l : Launch} {D : va_G} {cI cZ cM : ClassId} {adK adV : Nat → Nat} {a_this a_text : Nat} {v_rowsRead : Int32} {res : Int32 × Int32 × Int32} {sz : Nat} {n : Nat} {v_text : Nat → Int32} {v_length : Int32} {v_position : Int32} {v_error : Int32} {v_errorAt : Int32} {x1 : Nat} (hf : f_X4_readWord n v_text v_length v_position v_error v_errorAt x1 = some res) : Met l yX4_readWord zwX4_readWord rmX4_readWord (zPcG D (zT cI cZ cM) [.ref a_this, .ref (adK x1)] [(a_this, .inr (4, [.ref a_text, .int v_length, .int v_position, .int v_rowsRead, .int v_error, .int v_errorAt])), (a_text, .inl (cI, 600, .inl v_text))] sz adK adV) (zQv D (zT cI cZ cM) [(a_this, .inr (4, [.ref a_text, .int v_length, .int res.1, .int v_rowsRead, .int res.2.1, .int res.2.2])), (a_text, .inl (cI, 600, .inl v_text))] (va_A [(a_this, .inr (4, [.ref a_text, .int v_length, .int v_position, .int v_rowsRead, .int v_error, .int v_errorAt])), (a_text, .inl (cI, 600, .inl v_text))] sz)) 0 0 (va_A [(a_this, .inr (4, [.ref a_text, .int v_length, .int v_position, .int v_rowsRead, .int v_error, .int v_errorAt])), (a_text, .inl (cI, 600, .inl v_text))] sz) := by
  refine z_metG (cc := cX4_readWord) (maxL := 2) (ret := none) (by decide) rfl (Nat.le_of_ble_eq_true rfl) ?_
  intro p e s m below meth c ls E hT hLt hG hsz hw hl
  obtain ⟨⟨hx, hb, hml, hown, hts⟩, hr, hlocks⟩ := id E
  have hl : lv_has ls 2 [(0, .ref a_this), (1, .ref (adK x1))] := hl
  unfold f_X4_readWord at hf
  refine lv_aload_n hx hb dX4_readWord_0 rfl (lv_at hl 0 rfl) ?_
  refine lv_aload_n hx hb dX4_readWord_1 rfl (lv_at hl 1 rfl) ?_
  obtain ⟨r_1, v_2, h_3, hf⟩ := oB2_elim hf
  refine z_callGVi (ws' := [(a_this, .inr (4, [.ref a_text, .int v_length, .int v_2, .int v_rowsRead, .int v_error, .int v_errorAt])), (a_text, .inl (cI, 600, .inl v_text))]) (wr := []) (As := [.ref (adK x1)]) (rest := []) E.1 hl hT hLt hG hw (c_X4_takesWord h_3) (cwV 1 hts (z_gV mw_301 mw_302 mw_303 mw_284 mw_304) rfl rfl rfl (by decide +kernel) ⟨(Nat.le_of_ble_eq_true rfl), (Nat.le_of_ble_eq_true rfl)⟩) 2 [(0, 2)] [] rfl rfl rfl rfl rfl rfl (by decide +kernel) rfl (q0 := 0) rfl rfl rfl (Nat.le_of_ble_eq_true rfl) dX4_readWord_2 ⟨Nat.le_of_ble_eq_true rfl, Nat.le_of_ble_eq_true rfl⟩ (fun H locs hw => ?_)
  refine lv_if_ne (tgt := 18) hx hb dX4_readWord_5 (by decide) (fun hc => ?_) (fun hc => ?_)
  · have hf := oI_neg hc hf
    cases hf
    exact z_vret E rfl hw dX4_readWord_18
  · have hf := oI_pos hc hf
    refine lv_aload_n hx hb dX4_readWord_8 rfl (lv_at hl 0 rfl) ?_
    refine lv_bipush (v := -2) hx hb dX4_readWord_9 (by decide) ?_
    refine lv_aload_n hx hb dX4_readWord_11 rfl (lv_at hl 0 rfl) ?_
    refine z_get E.1 hw in_wsX40 0 rfl rfl 2 (z_lt rfl) mw_278 (v := .int v_2) rfl dX4_readWord_12 ?_
    obtain ⟨v_4, v_5, h_6, hf⟩ := oB2_elim hf
    refine z_callVv (ws' := [(a_this, .inr (4, [.ref a_text, .int v_length, .int v_2, .int v_rowsRead, .int v_4, .int v_5])), (a_text, .inl (cI, 600, .inl v_text))]) (wr := [(a_text, .inl (cI, 600, .inl v_text))]) (As := [.int (-2 : Int32), .int v_2]) (rest := []) E.1 hl hw (c_X4_fail h_6) (cwV 2 hts (z_gV mw_361 mw_362 mw_363 mw_284 mw_271) rfl rfl rfl (by decide +kernel) ⟨(Nat.le_of_ble_eq_true rfl), (Nat.le_of_ble_eq_true rfl)⟩) 2 [(0, 1)] [(1, 1)] rfl rfl rfl rfl rfl rfl (by decide +kernel) rfl (q0 := 0) rfl rfl rfl (Nat.le_of_ble_eq_true rfl) dX4_readWord_15 ⟨Nat.le_of_ble_eq_true rfl, Nat.le_of_ble_eq_true rfl⟩ (fun H locs hw => ?_)
    cases hf
    exact z_vret E rfl hw dX4_readWord_18
end
/-! X4_readTrader -/
section
variable {p : Program} {l : Launch} {e : Env} {s : State} {m : MethodId} {args : Array Value} {below : List Frame} {meth : Method} {c : Code} {D : va_G} {A : Nat → Prop} {cI cZ cM : ClassId} {a_this a_text a_o1 a_o1_rows a_o1_rents a_o1_roofs a_o1_trades a_o1_fronts a_o1_limits a_o1_needy a_o1_clashes a_o1_starts a_o1_standing : Nat} {v_rowsRead : Int32} {v_o1_pitches : Int32} {v_o1_covers : Int32} {v_o1_coversBusy : Int32} {res : Int32 × Int32 × Int32 × Int32 × (Nat → Int32) × (Nat → Int32) × (Nat → Int32) × (Nat → Int32)} {adK adV : Nat → Nat}
def rmX4_readTrader : Room := { frames := 6, cells := 0, slots := 0, locals := 155 }
abbrev zwX4_readTrader : List Cond := Cond.code yX4_readTrader cX4_readTrader 7 none :: wsAll
set_option maxHeartbeats 4000000 in
set_option maxRecDepth 100000 in
theorem w_X4_readTrader_16 {n : Nat} (E : zE p s m args meth c cX4_readTrader 7 none zwX4_readTrader RX4) (hT : zTn s) (hLt : zLt adK s) (hG : zSg adK adV A s s.heap) : ∀ (v_text : Nat → Int32) (v_length : Int32) (v_position : Int32) (v_error : Int32) (v_errorAt : Int32) (v_o1_traders : Int32) (v_o1_trades : Nat → Int32) (v_o1_fronts : Nat → Int32) (v_o1_limits : Nat → Int32) (v_o1_needy : Nat → Int32), f_X4_readTrader_16 n v_text v_length v_position v_error v_errorAt v_o1_traders v_o1_trades v_o1_fronts v_o1_limits v_o1_needy = some res → ∀ (H : Heap) (locs : List Loc) (ls : Array Slot), zW D (zT cI cZ cM) A s [(a_this, .inr (4, [.ref a_text, .int v_length, .int v_position, .int v_rowsRead, .int v_error, .int v_errorAt])), (a_text, .inl (cI, 600, .inl v_text)), (a_o1, .inr (2, [.int v_o1_pitches, .ref a_o1_rows, .ref a_o1_rents, .ref a_o1_roofs, .int v_o1_traders, .ref a_o1_trades, .ref a_o1_fronts, .ref a_o1_limits, .ref a_o1_needy, .ref a_o1_clashes, .int v_o1_covers, .ref a_o1_starts, .ref a_o1_standing, .int v_o1_coversBusy])), (a_o1_trades, .inl (cI, 8, .inl v_o1_trades)), (a_o1_fronts, .inl (cI, 8, .inl v_o1_fronts)), (a_o1_limits, .inl (cI, 8, .inl v_o1_limits)), (a_o1_needy, .inl (cZ, 8, .inl v_o1_needy))] H locs → lv_has ls 7 [(0, .ref a_this), (1, .ref a_o1)] → W p l e rmX4_readTrader s m args below meth c H locs 0 0 (MQ below (zQv D (zT cI cZ cM) [(a_this, .inr (4, [.ref a_text, .int v_length, .int res.1, .int v_rowsRead, .int res.2.1, .int res.2.2.1])), (a_text, .inl (cI, 600, .inl v_text)), (a_o1, .inr (2, [.int v_o1_pitches, .ref a_o1_rows, .ref a_o1_rents, .ref a_o1_roofs, .int res.2.2.2.1, .ref a_o1_trades, .ref a_o1_fronts, .ref a_o1_limits, .ref a_o1_needy, .ref a_o1_clashes, .int v_o1_covers, .ref a_o1_starts, .ref a_o1_standing, .int v_o1_coversBusy])), (a_o1_trades, .inl (cI, 8, .inl res.2.2.2.2.1)), (a_o1_fronts, .inl (cI, 8, .inl res.2.2.2.2.2.1)), (a_o1_limits, .inl (cI, 8, .inl res.2.2.2.2.2.2.1)), (a_o1_needy, .inl (cZ, 8, .inl res.2.2.2.2.2.2.2))] A) args s 0 0 A) (F0 m 16 ls []) := by
  obtain ⟨⟨hx, hb, hml, hown, hts⟩, hr, hlocks⟩ := id E
  intro v_text v_length v_position v_error v_errorAt v_o1_traders v_o1_trades v_o1_fronts v_o1_limits v_o1_needy hf H locs ls hw hl
  unfold f_X4_readTrader_16 at hf
  refine lv_aload_n hx hb dX4_readTrader_16 rfl (lv_at hl 0 rfl) ?_
  refine lv_iconst (v := 0) hx hb dX4_readTrader_17 (by decide) ?_
  refine lv_bipush (v := 7) hx hb dX4_readTrader_18 (by decide) ?_
  obtain ⟨r_1, v_2, v_3, v_4, h_5, hf⟩ := oB4_elim hf
  refine z_callGVi (ws' := [(a_this, .inr (4, [.ref a_text, .int v_length, .int v_2, .int v_rowsRead, .int v_3, .int v_4])), (a_text, .inl (cI, 600, .inl v_text)), (a_o1, .inr (2, [.int v_o1_pitches, .ref a_o1_rows, .ref a_o1_rents, .ref a_o1_roofs, .int v_o1_traders, .ref a_o1_trades, .ref a_o1_fronts, .ref a_o1_limits, .ref a_o1_needy, .ref a_o1_clashes, .int v_o1_covers, .ref a_o1_starts, .ref a_o1_standing, .int v_o1_coversBusy])), (a_o1_trades, .inl (cI, 8, .inl v_o1_trades)), (a_o1_fronts, .inl (cI, 8, .inl v_o1_fronts)), (a_o1_limits, .inl (cI, 8, .inl v_o1_limits)), (a_o1_needy, .inl (cZ, 8, .inl v_o1_needy))]) (wr := [(a_o1, .inr (2, [.int v_o1_pitches, .ref a_o1_rows, .ref a_o1_rents, .ref a_o1_roofs, .int v_o1_traders, .ref a_o1_trades, .ref a_o1_fronts, .ref a_o1_limits, .ref a_o1_needy, .ref a_o1_clashes, .int v_o1_covers, .ref a_o1_starts, .ref a_o1_standing, .int v_o1_coversBusy])), (a_o1_trades, .inl (cI, 8, .inl v_o1_trades)), (a_o1_fronts, .inl (cI, 8, .inl v_o1_fronts)), (a_o1_limits, .inl (cI, 8, .inl v_o1_limits)), (a_o1_needy, .inl (cZ, 8, .inl v_o1_needy))]) (As := [.int (0 : Int32), .int (7 : Int32)]) (rest := []) E.1 hl hT hLt hG hw (c_X4_readNumber h_5) (cwV 2 hts (z_gV mw_369 mw_370 mw_371 mw_284 mw_372) rfl rfl rfl (by decide +kernel) ⟨(Nat.le_of_ble_eq_true rfl), (Nat.le_of_ble_eq_true rfl)⟩) 7 [(0, 2)] [(2, 5)] rfl rfl rfl rfl rfl rfl (by decide +kernel) rfl (q0 := 0) rfl rfl rfl (Nat.le_of_ble_eq_true rfl) dX4_readTrader_20 ⟨Nat.le_of_ble_eq_true rfl, Nat.le_of_ble_eq_true rfl⟩ (fun H locs hw => ?_)
  refine lv_istore_n (lv' := [(3, .int r_1), (0, .ref a_this), (1, .ref a_o1)]) hx hb dX4_readTrader_23 rfl hl (z_lt rfl) rfl (fun ls hl => ?_)
  refine lv_aload_n hx hb dX4_readTrader_24 rfl (lv_at hl 1 rfl) ?_
  refine va_ldcS hx hb hown (hLt.2.2.2.2.2.1) dX4_readTrader_25 ?_
  obtain ⟨v_6, v_7, v_8, h_9, hf⟩ := oB3_elim hf
  refine z_callGVv (ws' := [(a_this, .inr (4, [.ref a_text, .int v_length, .int v_6, .int v_rowsRead, .int v_7, .int v_8])), (a_text, .inl (cI, 600, .inl v_text)), (a_o1, .inr (2, [.int v_o1_pitches, .ref a_o1_rows, .ref a_o1_rents, .ref a_o1_roofs, .int v_o1_traders, .ref a_o1_trades, .ref a_o1_fronts, .ref a_o1_limits, .ref a_o1_needy, .ref a_o1_clashes, .int v_o1_covers, .ref a_o1_starts, .ref a_o1_standing, .int v_o1_coversBusy])), (a_o1_trades, .inl (cI, 8, .inl v_o1_trades)), (a_o1_fronts, .inl (cI, 8, .inl v_o1_fronts)), (a_o1_limits, .inl (cI, 8, .inl v_o1_limits)), (a_o1_needy, .inl (cZ, 8, .inl v_o1_needy))]) (wr := [(a_o1, .inr (2, [.int v_o1_pitches, .ref a_o1_rows, .ref a_o1_rents, .ref a_o1_roofs, .int v_o1_traders, .ref a_o1_trades, .ref a_o1_fronts, .ref a_o1_limits, .ref a_o1_needy, .ref a_o1_clashes, .int v_o1_covers, .ref a_o1_starts, .ref a_o1_standing, .int v_o1_coversBusy])), (a_o1_trades, .inl (cI, 8, .inl v_o1_trades)), (a_o1_fronts, .inl (cI, 8, .inl v_o1_fronts)), (a_o1_limits, .inl (cI, 8, .inl v_o1_limits)), (a_o1_needy, .inl (cZ, 8, .inl v_o1_needy))]) (As := [.ref (adK 5)]) (rest := []) E.1 hl hT hLt hG hw (c_X4_readWord h_9) (cwV 1 hts (z_gV mw_387 mw_388 mw_389 mw_284 mw_390) rfl rfl rfl (by decide +kernel) ⟨(Nat.le_of_ble_eq_true rfl), (Nat.le_of_ble_eq_true rfl)⟩) 7 [(0, 2)] [(2, 5)] rfl rfl rfl rfl rfl rfl (by decide +kernel) rfl (q0 := 0) rfl rfl rfl (Nat.le_of_ble_eq_true rfl) dX4_readTrader_27 ⟨Nat.le_of_ble_eq_true rfl, Nat.le_of_ble_eq_true rfl⟩ (fun H locs hw => ?_)
  refine lv_aload_n hx hb dX4_readTrader_30 rfl (lv_at hl 1 rfl) ?_
  refine lv_iconst (v := 1) hx hb dX4_readTrader_31 (by decide) ?_
  refine lv_iconst (v := 3) hx hb dX4_readTrader_32 (by decide) ?_
  obtain ⟨r_10, v_11, v_12, v_13, h_14, hf⟩ := oB4_elim hf
  refine z_callGVi (ws' := [(a_this, .inr (4, [.ref a_text, .int v_length, .int v_11, .int v_rowsRead, .int v_12, .int v_13])), (a_text, .inl (cI, 600, .inl v_text)), (a_o1, .inr (2, [.int v_o1_pitches, .ref a_o1_rows, .ref a_o1_rents, .ref a_o1_roofs, .int v_o1_traders, .ref a_o1_trades, .ref a_o1_fronts, .ref a_o1_limits, .ref a_o1_needy, .ref a_o1_clashes, .int v_o1_covers, .ref a_o1_starts, .ref a_o1_standing, .int v_o1_coversBusy])), (a_o1_trades, .inl (cI, 8, .inl v_o1_trades)), (a_o1_fronts, .inl (cI, 8, .inl v_o1_fronts)), (a_o1_limits, .inl (cI, 8, .inl v_o1_limits)), (a_o1_needy, .inl (cZ, 8, .inl v_o1_needy))]) (wr := [(a_o1, .inr (2, [.int v_o1_pitches, .ref a_o1_rows, .ref a_o1_rents, .ref a_o1_roofs, .int v_o1_traders, .ref a_o1_trades, .ref a_o1_fronts, .ref a_o1_limits, .ref a_o1_needy, .ref a_o1_clashes, .int v_o1_covers, .ref a_o1_starts, .ref a_o1_standing, .int v_o1_coversBusy])), (a_o1_trades, .inl (cI, 8, .inl v_o1_trades)), (a_o1_fronts, .inl (cI, 8, .inl v_o1_fronts)), (a_o1_limits, .inl (cI, 8, .inl v_o1_limits)), (a_o1_needy, .inl (cZ, 8, .inl v_o1_needy))]) (As := [.int (1 : Int32), .int (3 : Int32)]) (rest := []) E.1 hl hT hLt hG hw (c_X4_readNumber h_14) (cwV 2 hts (z_gV mw_369 mw_370 mw_371 mw_284 mw_372) rfl rfl rfl (by decide +kernel) ⟨(Nat.le_of_ble_eq_true rfl), (Nat.le_of_ble_eq_true rfl)⟩) 7 [(0, 2)] [(2, 5)] rfl rfl rfl rfl rfl rfl (by decide +kernel) rfl (q0 := 0) rfl rfl rfl (Nat.le_of_ble_eq_true rfl) dX4_readTrader_33 ⟨Nat.le_of_ble_eq_true rfl, Nat.le_of_ble_eq_true rfl⟩ (fun H locs hw => ?_)
  refine lv_istore (lv' := [(4, .int r_10), (3, .int r_1), (0, .ref a_this), (1, .ref a_o1)]) hx hb dX4_readTrader_36 hl (z_lt rfl) rfl (fun ls hl => ?_)
  refine lv_aload_n hx hb dX4_readTrader_38 rfl (lv_at hl 2 rfl) ?_
  refine va_ldcS hx hb hown (hLt.2.2.2.2.2.2.1) dX4_readTrader_39 ?_
  obtain ⟨v_15, v_16, v_17, h_18, hf⟩ := oB3_elim hf
  refine z_callGVv (ws' := [(a_this, .inr (4, [.ref a_text, .int v_length, .int v_15, .int v_rowsRead, .int v_16, .int v_17])), (a_text, .inl (cI, 600, .inl v_text)), (a_o1, .inr (2, [.int v_o1_pitches, .ref a_o1_rows, .ref a_o1_rents, .ref a_o1_roofs, .int v_o1_traders, .ref a_o1_trades, .ref a_o1_fronts, .ref a_o1_limits, .ref a_o1_needy, .ref a_o1_clashes, .int v_o1_covers, .ref a_o1_starts, .ref a_o1_standing, .int v_o1_coversBusy])), (a_o1_trades, .inl (cI, 8, .inl v_o1_trades)), (a_o1_fronts, .inl (cI, 8, .inl v_o1_fronts)), (a_o1_limits, .inl (cI, 8, .inl v_o1_limits)), (a_o1_needy, .inl (cZ, 8, .inl v_o1_needy))]) (wr := [(a_o1, .inr (2, [.int v_o1_pitches, .ref a_o1_rows, .ref a_o1_rents, .ref a_o1_roofs, .int v_o1_traders, .ref a_o1_trades, .ref a_o1_fronts, .ref a_o1_limits, .ref a_o1_needy, .ref a_o1_clashes, .int v_o1_covers, .ref a_o1_starts, .ref a_o1_standing, .int v_o1_coversBusy])), (a_o1_trades, .inl (cI, 8, .inl v_o1_trades)), (a_o1_fronts, .inl (cI, 8, .inl v_o1_fronts)), (a_o1_limits, .inl (cI, 8, .inl v_o1_limits)), (a_o1_needy, .inl (cZ, 8, .inl v_o1_needy))]) (As := [.ref (adK 6)]) (rest := []) E.1 hl hT hLt hG hw (c_X4_readWord h_18) (cwV 1 hts (z_gV mw_387 mw_388 mw_389 mw_284 mw_390) rfl rfl rfl (by decide +kernel) ⟨(Nat.le_of_ble_eq_true rfl), (Nat.le_of_ble_eq_true rfl)⟩) 7 [(0, 2)] [(2, 5)] rfl rfl rfl rfl rfl rfl (by decide +kernel) rfl (q0 := 0) rfl rfl rfl (Nat.le_of_ble_eq_true rfl) dX4_readTrader_41 ⟨Nat.le_of_ble_eq_true rfl, Nat.le_of_ble_eq_true rfl⟩ (fun H locs hw => ?_)
  refine lv_aload_n hx hb dX4_readTrader_44 rfl (lv_at hl 2 rfl) ?_
  refine lv_iconst (v := 1) hx hb dX4_readTrader_45 (by decide) ?_
  refine lv_sipush (v := 9999) hx hb dX4_readTrader_46 (by decide) ?_
  obtain ⟨r_19, v_20, v_21, v_22, h_23, hf⟩ := oB4_elim hf
  refine z_callGVi (ws' := [(a_this, .inr (4, [.ref a_text, .int v_length, .int v_20, .int v_rowsRead, .int v_21, .int v_22])), (a_text, .inl (cI, 600, .inl v_text)), (a_o1, .inr (2, [.int v_o1_pitches, .ref a_o1_rows, .ref a_o1_rents, .ref a_o1_roofs, .int v_o1_traders, .ref a_o1_trades, .ref a_o1_fronts, .ref a_o1_limits, .ref a_o1_needy, .ref a_o1_clashes, .int v_o1_covers, .ref a_o1_starts, .ref a_o1_standing, .int v_o1_coversBusy])), (a_o1_trades, .inl (cI, 8, .inl v_o1_trades)), (a_o1_fronts, .inl (cI, 8, .inl v_o1_fronts)), (a_o1_limits, .inl (cI, 8, .inl v_o1_limits)), (a_o1_needy, .inl (cZ, 8, .inl v_o1_needy))]) (wr := [(a_o1, .inr (2, [.int v_o1_pitches, .ref a_o1_rows, .ref a_o1_rents, .ref a_o1_roofs, .int v_o1_traders, .ref a_o1_trades, .ref a_o1_fronts, .ref a_o1_limits, .ref a_o1_needy, .ref a_o1_clashes, .int v_o1_covers, .ref a_o1_starts, .ref a_o1_standing, .int v_o1_coversBusy])), (a_o1_trades, .inl (cI, 8, .inl v_o1_trades)), (a_o1_fronts, .inl (cI, 8, .inl v_o1_fronts)), (a_o1_limits, .inl (cI, 8, .inl v_o1_limits)), (a_o1_needy, .inl (cZ, 8, .inl v_o1_needy))]) (As := [.int (1 : Int32), .int (9999 : Int32)]) (rest := []) E.1 hl hT hLt hG hw (c_X4_readNumber h_23) (cwV 2 hts (z_gV mw_369 mw_370 mw_371 mw_284 mw_372) rfl rfl rfl (by decide +kernel) ⟨(Nat.le_of_ble_eq_true rfl), (Nat.le_of_ble_eq_true rfl)⟩) 7 [(0, 2)] [(2, 5)] rfl rfl rfl rfl rfl rfl (by decide +kernel) rfl (q0 := 0) rfl rfl rfl (Nat.le_of_ble_eq_true rfl) dX4_readTrader_49 ⟨Nat.le_of_ble_eq_true rfl, Nat.le_of_ble_eq_true rfl⟩ (fun H locs hw => ?_)
  refine lv_istore (lv' := [(5, .int r_19), (4, .int r_10), (3, .int r_1), (0, .ref a_this), (1, .ref a_o1)]) hx hb dX4_readTrader_52 hl (z_lt rfl) rfl (fun ls hl => ?_)
  refine lv_aload_n hx hb dX4_readTrader_54 rfl (lv_at hl 3 rfl) ?_
  refine va_ldcS hx hb hown (hLt.2.2.2.2.2.2.2.1) dX4_readTrader_55 ?_
  obtain ⟨r_24, v_25, h_26, hf⟩ := oB2_elim hf
  refine z_callGVi (ws' := [(a_this, .inr (4, [.ref a_text, .int v_length, .int v_25, .int v_rowsRead, .int v_21, .int v_22])), (a_text, .inl (cI, 600, .inl v_text)), (a_o1, .inr (2, [.int v_o1_pitches, .ref a_o1_rows, .ref a_o1_rents, .ref a_o1_roofs, .int v_o1_traders, .ref a_o1_trades, .ref a_o1_fronts, .ref a_o1_limits, .ref a_o1_needy, .ref a_o1_clashes, .int v_o1_covers, .ref a_o1_starts, .ref a_o1_standing, .int v_o1_coversBusy])), (a_o1_trades, .inl (cI, 8, .inl v_o1_trades)), (a_o1_fronts, .inl (cI, 8, .inl v_o1_fronts)), (a_o1_limits, .inl (cI, 8, .inl v_o1_limits)), (a_o1_needy, .inl (cZ, 8, .inl v_o1_needy))]) (wr := [(a_o1, .inr (2, [.int v_o1_pitches, .ref a_o1_rows, .ref a_o1_rents, .ref a_o1_roofs, .int v_o1_traders, .ref a_o1_trades, .ref a_o1_fronts, .ref a_o1_limits, .ref a_o1_needy, .ref a_o1_clashes, .int v_o1_covers, .ref a_o1_starts, .ref a_o1_standing, .int v_o1_coversBusy])), (a_o1_trades, .inl (cI, 8, .inl v_o1_trades)), (a_o1_fronts, .inl (cI, 8, .inl v_o1_fronts)), (a_o1_limits, .inl (cI, 8, .inl v_o1_limits)), (a_o1_needy, .inl (cZ, 8, .inl v_o1_needy))]) (As := [.ref (adK 7)]) (rest := []) E.1 hl hT hLt hG hw (c_X4_takesWord h_26) (cwV 1 hts (z_gV mw_301 mw_302 mw_303 mw_284 mw_304) rfl rfl rfl (by decide +kernel) ⟨(Nat.le_of_ble_eq_true rfl), (Nat.le_of_ble_eq_true rfl)⟩) 7 [(0, 2)] [(2, 5)] rfl rfl rfl rfl rfl rfl (by decide +kernel) rfl (q0 := 0) rfl rfl rfl (Nat.le_of_ble_eq_true rfl) dX4_readTrader_57 ⟨Nat.le_of_ble_eq_true rfl, Nat.le_of_ble_eq_true rfl⟩ (fun H locs hw => ?_)
  refine lv_istore (lv' := [(6, .int r_24), (5, .int r_19), (4, .int r_10), (3, .int r_1), (0, .ref a_this), (1, .ref a_o1)]) hx hb dX4_readTrader_60 hl (z_lt rfl) rfl (fun ls hl => ?_)
  refine lv_aload_n hx hb dX4_readTrader_62 rfl (lv_at hl 4 rfl) ?_
  refine z_get E.1 hw in_wsX40 0 rfl rfl 4 (z_lt rfl) mw_272 (v := .int v_21) rfl dX4_readTrader_63 ?_
  refine lv_if_ne (tgt := 80) hx hb dX4_readTrader_66 (by decide) (fun hc => ?_) (fun hc => ?_)
  · have hf := oI_neg hc hf
    cases hf
    exact z_vret E rfl hw dX4_readTrader_80
  · have hf := oI_pos hc hf
    refine lv_aload_n hx hb dX4_readTrader_69 rfl (lv_at hl 5 rfl) ?_
    refine lv_iload_n hx hb dX4_readTrader_70 rfl (lv_at hl 3 rfl) ?_
    refine lv_iload hx hb dX4_readTrader_71 (lv_at hl 2 rfl) ?_
    refine lv_iload hx hb dX4_readTrader_73 (lv_at hl 1 rfl) ?_
    refine lv_iload hx hb dX4_readTrader_75 (lv_at hl 0 rfl) ?_
    obtain ⟨v_27, v_28, v_29, v_30, v_31, h_32, hf⟩ := oB5_elim hf
    refine z_callVv (ws' := [(a_this, .inr (4, [.ref a_text, .int v_length, .int v_25, .int v_rowsRead, .int v_21, .int v_22])), (a_text, .inl (cI, 600, .inl v_text)), (a_o1, .inr (2, [.int v_o1_pitches, .ref a_o1_rows, .ref a_o1_rents, .ref a_o1_roofs, .int v_27, .ref a_o1_trades, .ref a_o1_fronts, .ref a_o1_limits, .ref a_o1_needy, .ref a_o1_clashes, .int v_o1_covers, .ref a_o1_starts, .ref a_o1_standing, .int v_o1_coversBusy])), (a_o1_trades, .inl (cI, 8, .inl v_28)), (a_o1_fronts, .inl (cI, 8, .inl v_29)), (a_o1_limits, .inl (cI, 8, .inl v_30)), (a_o1_needy, .inl (cZ, 8, .inl v_31))]) (wr := [(a_this, .inr (4, [.ref a_text, .int v_length, .int v_25, .int v_rowsRead, .int v_21, .int v_22])), (a_text, .inl (cI, 600, .inl v_text))]) (As := [.int r_1, .int r_10, .int r_19, .int r_24]) (rest := []) E.1 hl hw (c_X2_enrol h_32) (cwV 4 hts (z_gV mw_391 mw_392 mw_393 mw_9 mw_156) rfl rfl rfl (by decide +kernel) ⟨(Nat.le_of_ble_eq_true rfl), (Nat.le_of_ble_eq_true rfl)⟩) 7 [(2, 5)] [(0, 2)] rfl rfl rfl rfl rfl rfl (by decide +kernel) rfl (q0 := 0) rfl rfl rfl (Nat.le_of_ble_eq_true rfl) dX4_readTrader_77 ⟨Nat.le_of_ble_eq_true rfl, Nat.le_of_ble_eq_true rfl⟩ (fun H locs hw => ?_)
    cases hf
    exact z_vret E rfl hw dX4_readTrader_80
set_option maxHeartbeats 4000000 in
set_option maxRecDepth 100000 in
theorem c_X4_readTrader {l : Launch} {D : va_G} {cI cZ cM : ClassId} {adK adV : Nat → Nat} {a_this a_text a_o1 a_o1_rows a_o1_rents a_o1_roofs a_o1_trades a_o1_fronts a_o1_limits a_o1_needy a_o1_clashes a_o1_starts a_o1_standing : Nat} {v_rowsRead : Int32} {v_o1_pitches : Int32} {v_o1_covers : Int32} {v_o1_coversBusy : Int32} {res : Int32 × Int32 × Int32 × Int32 × (Nat → Int32) × (Nat → Int32) × (Nat → Int32) × (Nat → Int32)} {sz : Nat} {n : Nat} {v_text : Nat → Int32} {v_length : Int32} {v_position : Int32} {v_error : Int32} {v_errorAt : Int32} {v_o1_traders : Int32} {v_o1_trades : Nat → Int32} {v_o1_fronts : Nat → Int32} {v_o1_limits : Nat → Int32} {v_o1_needy : Nat → Int32} {x2 : Int32} (hf : f_X4_readTrader n v_text v_length v_position v_error v_errorAt v_o1_traders v_o1_trades v_o1_fronts v_o1_limits v_o1_needy x2 = some res) : Met l yX4_readTrader zwX4_readTrader rmX4_readTrader (zPcG D (zT cI cZ cM) [.ref a_this, .ref a_o1, .int x2] [(a_this, .inr (4, [.ref a_text, .int v_length, .int v_position, .int v_rowsRead, .int v_error, .int v_errorAt])), (a_text, .inl (cI, 600, .inl v_text)), (a_o1, .inr (2, [.int v_o1_pitches, .ref a_o1_rows, .ref a_o1_rents, .ref a_o1_roofs, .int v_o1_traders, .ref a_o1_trades, .ref a_o1_fronts, .ref a_o1_limits, .ref a_o1_needy, .ref a_o1_clashes, .int v_o1_covers, .ref a_o1_starts, .ref a_o1_standing, .int v_o1_coversBusy])), (a_o1_trades, .inl (cI, 8, .inl v_o1_trades)), (a_o1_fronts, .inl (cI, 8, .inl v_o1_fronts)), (a_o1_limits, .inl (cI, 8, .inl v_o1_limits)), (a_o1_needy, .inl (cZ, 8, .inl v_o1_needy))] sz adK adV) (zQv D (zT cI cZ cM) [(a_this, .inr (4, [.ref a_text, .int v_length, .int res.1, .int v_rowsRead, .int res.2.1, .int res.2.2.1])), (a_text, .inl (cI, 600, .inl v_text)), (a_o1, .inr (2, [.int v_o1_pitches, .ref a_o1_rows, .ref a_o1_rents, .ref a_o1_roofs, .int res.2.2.2.1, .ref a_o1_trades, .ref a_o1_fronts, .ref a_o1_limits, .ref a_o1_needy, .ref a_o1_clashes, .int v_o1_covers, .ref a_o1_starts, .ref a_o1_standing, .int v_o1_coversBusy])), (a_o1_trades, .inl (cI, 8, .inl res.2.2.2.2.1)), (a_o1_fronts, .inl (cI, 8, .inl res.2.2.2.2.2.1)), (a_o1_limits, .inl (cI, 8, .inl res.2.2.2.2.2.2.1)), (a_o1_needy, .inl (cZ, 8, .inl res.2.2.2.2.2.2.2))] (va_A [(a_this, .inr (4, [.ref a_text, .int v_length, .int v_position, .int v_rowsRead, .int v_error, .int v_errorAt])), (a_text, .inl (cI, 600, .inl v_text)), (a_o1, .inr (2, [.int v_o1_pitches, .ref a_o1_rows, .ref a_o1_rents, .ref a_o1_roofs, .int v_o1_traders, .ref a_o1_trades, .ref a_o1_fronts, .ref a_o1_limits, .ref a_o1_needy, .ref a_o1_clashes, .int v_o1_covers, .ref a_o1_starts, .ref a_o1_standing, .int v_o1_coversBusy])), (a_o1_trades, .inl (cI, 8, .inl v_o1_trades)), (a_o1_fronts, .inl (cI, 8, .inl v_o1_fronts)), (a_o1_limits, .inl (cI, 8, .inl v_o1_limits)), (a_o1_needy, .inl (cZ, 8, .inl v_o1_needy))] sz)) 0 0 (va_A [(a_this, .inr (4, [.ref a_text, .int v_length, .int v_position, .int v_rowsRead, .int v_error, .int v_errorAt])), (a_text, .inl (cI, 600, .inl v_text)), (a_o1, .inr (2, [.int v_o1_pitches, .ref a_o1_rows, .ref a_o1_rents, .ref a_o1_roofs, .int v_o1_traders, .ref a_o1_trades, .ref a_o1_fronts, .ref a_o1_limits, .ref a_o1_needy, .ref a_o1_clashes, .int v_o1_covers, .ref a_o1_starts, .ref a_o1_standing, .int v_o1_coversBusy])), (a_o1_trades, .inl (cI, 8, .inl v_o1_trades)), (a_o1_fronts, .inl (cI, 8, .inl v_o1_fronts)), (a_o1_limits, .inl (cI, 8, .inl v_o1_limits)), (a_o1_needy, .inl (cZ, 8, .inl v_o1_needy))] sz) := by
  refine z_metG (cc := cX4_readTrader) (maxL := 7) (ret := none) (by decide) rfl (Nat.le_of_ble_eq_true rfl) ?_
  intro p e s m below meth c ls E hT hLt hG hsz hw hl
  obtain ⟨⟨hx, hb, hml, hown, hts⟩, hr, hlocks⟩ := id E
  have hl : lv_has ls 7 [(0, .ref a_this), (1, .ref a_o1), (2, .int x2)] := hl
  unfold f_X4_readTrader at hf
  refine lv_aload_n hx hb dX4_readTrader_0 rfl (lv_at hl 1 rfl) ?_
  refine z_get E.1 hw in_wsX20 2 rfl rfl 4 (z_lt rfl) mw_386 (v := .int v_o1_traders) rfl dX4_readTrader_1 ?_
  refine lv_bipush (v := 8) hx hb dX4_readTrader_4 (by decide) ?_
  refine lv_icmp_lt (tgt := 16) hx hb dX4_readTrader_6 (by decide) (fun hc => ?_) (fun hc => ?_)
  · have hf := oI_pos hc hf
    exact w_X4_readTrader_16 E hT hLt hG  _ _ _ _ _ _ _ _ _ _ hf _ _ _ hw (lv_sub hl [0, 1] rfl)
  · have hf := oI_neg hc hf
    refine lv_aload_n hx hb dX4_readTrader_9 rfl (lv_at hl 0 rfl) ?_
    refine lv_bipush (v := -4) hx hb dX4_readTrader_10 (by decide) ?_
    refine lv_iload_n hx hb dX4_readTrader_12 rfl (lv_at hl 2 rfl) ?_
    obtain ⟨v_33, v_34, h_35, hf⟩ := oB2_elim hf
    refine z_callVv (ws' := [(a_this, .inr (4, [.ref a_text, .int v_length, .int v_position, .int v_rowsRead, .int v_33, .int v_34])), (a_text, .inl (cI, 600, .inl v_text)), (a_o1, .inr (2, [.int v_o1_pitches, .ref a_o1_rows, .ref a_o1_rents, .ref a_o1_roofs, .int v_o1_traders, .ref a_o1_trades, .ref a_o1_fronts, .ref a_o1_limits, .ref a_o1_needy, .ref a_o1_clashes, .int v_o1_covers, .ref a_o1_starts, .ref a_o1_standing, .int v_o1_coversBusy])), (a_o1_trades, .inl (cI, 8, .inl v_o1_trades)), (a_o1_fronts, .inl (cI, 8, .inl v_o1_fronts)), (a_o1_limits, .inl (cI, 8, .inl v_o1_limits)), (a_o1_needy, .inl (cZ, 8, .inl v_o1_needy))]) (wr := [(a_text, .inl (cI, 600, .inl v_text)), (a_o1, .inr (2, [.int v_o1_pitches, .ref a_o1_rows, .ref a_o1_rents, .ref a_o1_roofs, .int v_o1_traders, .ref a_o1_trades, .ref a_o1_fronts, .ref a_o1_limits, .ref a_o1_needy, .ref a_o1_clashes, .int v_o1_covers, .ref a_o1_starts, .ref a_o1_standing, .int v_o1_coversBusy])), (a_o1_trades, .inl (cI, 8, .inl v_o1_trades)), (a_o1_fronts, .inl (cI, 8, .inl v_o1_fronts)), (a_o1_limits, .inl (cI, 8, .inl v_o1_limits)), (a_o1_needy, .inl (cZ, 8, .inl v_o1_needy))]) (As := [.int (-4 : Int32), .int x2]) (rest := []) E.1 hl hw (c_X4_fail h_35) (cwV 2 hts (z_gV mw_361 mw_362 mw_363 mw_284 mw_271) rfl rfl rfl (by decide +kernel) ⟨(Nat.le_of_ble_eq_true rfl), (Nat.le_of_ble_eq_true rfl)⟩) 7 [(0, 1)] [(1, 6)] rfl rfl rfl rfl rfl rfl (by decide +kernel) rfl (q0 := 0) rfl rfl rfl (Nat.le_of_ble_eq_true rfl) dX4_readTrader_13 ⟨Nat.le_of_ble_eq_true rfl, Nat.le_of_ble_eq_true rfl⟩ (fun H locs hw => ?_)
    exact w_X4_readTrader_16 E hT hLt hG  _ _ _ _ _ _ _ _ _ _ hf _ _ _ hw (lv_sub hl [0, 1] rfl)
end
/-! X4_readPitch -/
section
variable {p : Program} {l : Launch} {e : Env} {s : State} {m : MethodId} {args : Array Value} {below : List Frame} {meth : Method} {c : Code} {D : va_G} {A : Nat → Prop} {cI cZ cM : ClassId} {a_this a_text a_o1 a_o1_rows a_o1_rents a_o1_roofs a_o1_trades a_o1_fronts a_o1_limits a_o1_needy a_o1_clashes a_o1_starts a_o1_standing : Nat} {v_o1_traders : Int32} {v_o1_covers : Int32} {v_o1_coversBusy : Int32} {res : Int32 × Int32 × Int32 × Int32 × (Nat → Int32) × (Nat → Int32) × (Nat → Int32)} {adK adV : Nat → Nat}
def rmX4_readPitch : Room := { frames := 5, cells := 0, slots := 0, locals := 134 }
abbrev zwX4_readPitch : List Cond := Cond.code yX4_readPitch cX4_readPitch 6 none :: wsAll
set_option maxHeartbeats 4000000 in
set_option maxRecDepth 100000 in
theorem w_X4_readPitch_41 {n : Nat} (E : zE p s m args meth c cX4_readPitch 6 none zwX4_readPitch RX4) (hT : zTn s) (hLt : zLt adK s) (hG : zSg adK adV A s s.heap) : ∀ (x4 : Int32) (v_text : Nat → Int32) (v_length : Int32) (v_position : Int32) (v_rowsRead : Int32) (v_error : Int32) (v_errorAt : Int32) (v_o1_pitches : Int32) (v_o1_rows : Nat → Int32) (v_o1_rents : Nat → Int32) (v_o1_roofs : Nat → Int32), f_X4_readPitch_41 n x4 v_text v_length v_position v_rowsRead v_error v_errorAt v_o1_pitches v_o1_rows v_o1_rents v_o1_roofs = some res → ∀ (H : Heap) (locs : List Loc) (ls : Array Slot), zW D (zT cI cZ cM) A s [(a_this, .inr (4, [.ref a_text, .int v_length, .int v_position, .int v_rowsRead, .int v_error, .int v_errorAt])), (a_text, .inl (cI, 600, .inl v_text)), (a_o1, .inr (2, [.int v_o1_pitches, .ref a_o1_rows, .ref a_o1_rents, .ref a_o1_roofs, .int v_o1_traders, .ref a_o1_trades, .ref a_o1_fronts, .ref a_o1_limits, .ref a_o1_needy, .ref a_o1_clashes, .int v_o1_covers, .ref a_o1_starts, .ref a_o1_standing, .int v_o1_coversBusy])), (a_o1_rows, .inl (cI, 24, .inl v_o1_rows)), (a_o1_rents, .inl (cI, 24, .inl v_o1_rents)), (a_o1_roofs, .inl (cZ, 24, .inl v_o1_roofs))] H locs → lv_has ls 6 [(0, .ref a_this), (1, .ref a_o1), (4, .int x4)] → W p l e rmX4_readPitch s m args below meth c H locs 0 0 (MQ below (zQv D (zT cI cZ cM) [(a_this, .inr (4, [.ref a_text, .int v_length, .int res.1, .int v_rowsRead, .int res.2.1, .int res.2.2.1])), (a_text, .inl (cI, 600, .inl v_text)), (a_o1, .inr (2, [.int res.2.2.2.1, .ref a_o1_rows, .ref a_o1_rents, .ref a_o1_roofs, .int v_o1_traders, .ref a_o1_trades, .ref a_o1_fronts, .ref a_o1_limits, .ref a_o1_needy, .ref a_o1_clashes, .int v_o1_covers, .ref a_o1_starts, .ref a_o1_standing, .int v_o1_coversBusy])), (a_o1_rows, .inl (cI, 24, .inl res.2.2.2.2.1)), (a_o1_rents, .inl (cI, 24, .inl res.2.2.2.2.2.1)), (a_o1_roofs, .inl (cZ, 24, .inl res.2.2.2.2.2.2))] A) args s 0 0 A) (F0 m 41 ls []) := by
  obtain ⟨⟨hx, hb, hml, hown, hts⟩, hr, hlocks⟩ := id E
  intro x4 v_text v_length v_position v_rowsRead v_error v_errorAt v_o1_pitches v_o1_rows v_o1_rents v_o1_roofs hf H locs ls hw hl
  unfold f_X4_readPitch_41 at hf
  refine lv_aload_n hx hb dX4_readPitch_41 rfl (lv_at hl 0 rfl) ?_
  refine va_ldcS hx hb hown (hLt.2.2.2.2.1) dX4_readPitch_42 ?_
  obtain ⟨r_1, v_2, h_3, hf⟩ := oB2_elim hf
  refine z_callGVi (ws' := [(a_this, .inr (4, [.ref a_text, .int v_length, .int v_2, .int v_rowsRead, .int v_error, .int v_errorAt])), (a_text, .inl (cI, 600, .inl v_text)), (a_o1, .inr (2, [.int v_o1_pitches, .ref a_o1_rows, .ref a_o1_rents, .ref a_o1_roofs, .int v_o1_traders, .ref a_o1_trades, .ref a_o1_fronts, .ref a_o1_limits, .ref a_o1_needy, .ref a_o1_clashes, .int v_o1_covers, .ref a_o1_starts, .ref a_o1_standing, .int v_o1_coversBusy])), (a_o1_rows, .inl (cI, 24, .inl v_o1_rows)), (a_o1_rents, .inl (cI, 24, .inl v_o1_rents)), (a_o1_roofs, .inl (cZ, 24, .inl v_o1_roofs))]) (wr := [(a_o1, .inr (2, [.int v_o1_pitches, .ref a_o1_rows, .ref a_o1_rents, .ref a_o1_roofs, .int v_o1_traders, .ref a_o1_trades, .ref a_o1_fronts, .ref a_o1_limits, .ref a_o1_needy, .ref a_o1_clashes, .int v_o1_covers, .ref a_o1_starts, .ref a_o1_standing, .int v_o1_coversBusy])), (a_o1_rows, .inl (cI, 24, .inl v_o1_rows)), (a_o1_rents, .inl (cI, 24, .inl v_o1_rents)), (a_o1_roofs, .inl (cZ, 24, .inl v_o1_roofs))]) (As := [.ref (adK 4)]) (rest := []) E.1 hl hT hLt hG hw (c_X4_takesWord h_3) (cwV 1 hts (z_gV mw_301 mw_302 mw_303 mw_284 mw_304) rfl rfl rfl (by decide +kernel) ⟨(Nat.le_of_ble_eq_true rfl), (Nat.le_of_ble_eq_true rfl)⟩) 6 [(0, 2)] [(2, 4)] rfl rfl rfl rfl rfl rfl (by decide +kernel) rfl (q0 := 0) rfl rfl rfl (Nat.le_of_ble_eq_true rfl) dX4_readPitch_44 ⟨Nat.le_of_ble_eq_true rfl, Nat.le_of_ble_eq_true rfl⟩ (fun H locs hw => ?_)
  refine lv_istore (lv' := [(5, .int r_1), (0, .ref a_this), (1, .ref a_o1), (4, .int x4)]) hx hb dX4_readPitch_47 hl (z_lt rfl) rfl (fun ls hl => ?_)
  refine lv_aload_n hx hb dX4_readPitch_49 rfl (lv_at hl 1 rfl) ?_
  refine z_get E.1 hw in_wsX40 0 rfl rfl 4 (z_lt rfl) mw_272 (v := .int v_error) rfl dX4_readPitch_50 ?_
  refine lv_if_ne (tgt := 68) hx hb dX4_readPitch_53 (by decide) (fun hc => ?_) (fun hc => ?_)
  · have hf := oI_neg hc hf
    cases hf
    exact z_vret E rfl hw dX4_readPitch_68
  · have hf := oI_pos hc hf
    refine lv_aload_n hx hb dX4_readPitch_56 rfl (lv_at hl 2 rfl) ?_
    refine lv_aload_n hx hb dX4_readPitch_57 rfl (lv_at hl 1 rfl) ?_
    refine z_get E.1 hw in_wsX40 0 rfl rfl 3 (z_lt rfl) mw_279 (v := .int v_rowsRead) rfl dX4_readPitch_58 ?_
    refine lv_iload hx hb dX4_readPitch_61 (lv_at hl 3 rfl) ?_
    refine lv_iload hx hb dX4_readPitch_63 (lv_at hl 0 rfl) ?_
    obtain ⟨v_4, v_5, v_6, v_7, h_8, hf⟩ := oB4_elim hf
    refine z_callVv (ws' := [(a_this, .inr (4, [.ref a_text, .int v_length, .int v_2, .int v_rowsRead, .int v_error, .int v_errorAt])), (a_text, .inl (cI, 600, .inl v_text)), (a_o1, .inr (2, [.int v_4, .ref a_o1_rows, .ref a_o1_rents, .ref a_o1_roofs, .int v_o1_traders, .ref a_o1_trades, .ref a_o1_fronts, .ref a_o1_limits, .ref a_o1_needy, .ref a_o1_clashes, .int v_o1_covers, .ref a_o1_starts, .ref a_o1_standing, .int v_o1_coversBusy])), (a_o1_rows, .inl (cI, 24, .inl v_5)), (a_o1_rents, .inl (cI, 24, .inl v_6)), (a_o1_roofs, .inl (cZ, 24, .inl v_7))]) (wr := [(a_this, .inr (4, [.ref a_text, .int v_length, .int v_2, .int v_rowsRead, .int v_error, .int v_errorAt])), (a_text, .inl (cI, 600, .inl v_text))]) (As := [.int v_rowsRead, .int x4, .int r_1]) (rest := []) E.1 hl hw (c_X2_addPitch h_8) (cwV 3 hts (z_gV mw_379 mw_380 mw_381 mw_9 mw_153) rfl rfl rfl (by decide +kernel) ⟨(Nat.le_of_ble_eq_true rfl), (Nat.le_of_ble_eq_true rfl)⟩) 6 [(2, 4)] [(0, 2)] rfl rfl rfl rfl rfl rfl (by decide +kernel) rfl (q0 := 0) rfl rfl rfl (Nat.le_of_ble_eq_true rfl) dX4_readPitch_65 ⟨Nat.le_of_ble_eq_true rfl, Nat.le_of_ble_eq_true rfl⟩ (fun H locs hw => ?_)
    cases hf
    exact z_vret E rfl hw dX4_readPitch_68
set_option maxHeartbeats 4000000 in
set_option maxRecDepth 100000 in
theorem w_X4_readPitch_34 {n : Nat} (E : zE p s m args meth c cX4_readPitch 6 none zwX4_readPitch RX4) (hT : zTn s) (hLt : zLt adK s) (hG : zSg adK adV A s s.heap) : ∀ (x3 : Int32) (x4 : Int32) (v_text : Nat → Int32) (v_length : Int32) (v_position : Int32) (v_rowsRead : Int32) (v_error : Int32) (v_errorAt : Int32) (v_o1_pitches : Int32) (v_o1_rows : Nat → Int32) (v_o1_rents : Nat → Int32) (v_o1_roofs : Nat → Int32), f_X4_readPitch_34 n x3 x4 v_text v_length v_position v_rowsRead v_error v_errorAt v_o1_pitches v_o1_rows v_o1_rents v_o1_roofs = some res → ∀ (H : Heap) (locs : List Loc) (ls : Array Slot), zW D (zT cI cZ cM) A s [(a_this, .inr (4, [.ref a_text, .int v_length, .int v_position, .int v_rowsRead, .int v_error, .int v_errorAt])), (a_text, .inl (cI, 600, .inl v_text)), (a_o1, .inr (2, [.int v_o1_pitches, .ref a_o1_rows, .ref a_o1_rents, .ref a_o1_roofs, .int v_o1_traders, .ref a_o1_trades, .ref a_o1_fronts, .ref a_o1_limits, .ref a_o1_needy, .ref a_o1_clashes, .int v_o1_covers, .ref a_o1_starts, .ref a_o1_standing, .int v_o1_coversBusy])), (a_o1_rows, .inl (cI, 24, .inl v_o1_rows)), (a_o1_rents, .inl (cI, 24, .inl v_o1_rents)), (a_o1_roofs, .inl (cZ, 24, .inl v_o1_roofs))] H locs → lv_has ls 6 [(0, .ref a_this), (1, .ref a_o1), (3, .int x3), (4, .int x4)] → W p l e rmX4_readPitch s m args below meth c H locs 0 0 (MQ below (zQv D (zT cI cZ cM) [(a_this, .inr (4, [.ref a_text, .int v_length, .int res.1, .int v_rowsRead, .int res.2.1, .int res.2.2.1])), (a_text, .inl (cI, 600, .inl v_text)), (a_o1, .inr (2, [.int res.2.2.2.1, .ref a_o1_rows, .ref a_o1_rents, .ref a_o1_roofs, .int v_o1_traders, .ref a_o1_trades, .ref a_o1_fronts, .ref a_o1_limits, .ref a_o1_needy, .ref a_o1_clashes, .int v_o1_covers, .ref a_o1_starts, .ref a_o1_standing, .int v_o1_coversBusy])), (a_o1_rows, .inl (cI, 24, .inl res.2.2.2.2.1)), (a_o1_rents, .inl (cI, 24, .inl res.2.2.2.2.2.1)), (a_o1_roofs, .inl (cZ, 24, .inl res.2.2.2.2.2.2))] A) args s 0 0 A) (F0 m 34 ls []) := by
  obtain ⟨⟨hx, hb, hml, hown, hts⟩, hr, hlocks⟩ := id E
  intro x3 x4 v_text v_length v_position v_rowsRead v_error v_errorAt v_o1_pitches v_o1_rows v_o1_rents v_o1_roofs hf H locs ls hw hl
  unfold f_X4_readPitch_34 at hf
  refine lv_aload_n hx hb dX4_readPitch_34 rfl (lv_at hl 0 rfl) ?_
  refine lv_bipush (v := -4) hx hb dX4_readPitch_35 (by decide) ?_
  refine lv_iload_n hx hb dX4_readPitch_37 rfl (lv_at hl 2 rfl) ?_
  obtain ⟨v_9, v_10, h_11, hf⟩ := oB2_elim hf
  refine z_callVv (ws' := [(a_this, .inr (4, [.ref a_text, .int v_length, .int v_position, .int v_rowsRead, .int v_9, .int v_10])), (a_text, .inl (cI, 600, .inl v_text)), (a_o1, .inr (2, [.int v_o1_pitches, .ref a_o1_rows, .ref a_o1_rents, .ref a_o1_roofs, .int v_o1_traders, .ref a_o1_trades, .ref a_o1_fronts, .ref a_o1_limits, .ref a_o1_needy, .ref a_o1_clashes, .int v_o1_covers, .ref a_o1_starts, .ref a_o1_standing, .int v_o1_coversBusy])), (a_o1_rows, .inl (cI, 24, .inl v_o1_rows)), (a_o1_rents, .inl (cI, 24, .inl v_o1_rents)), (a_o1_roofs, .inl (cZ, 24, .inl v_o1_roofs))]) (wr := [(a_text, .inl (cI, 600, .inl v_text)), (a_o1, .inr (2, [.int v_o1_pitches, .ref a_o1_rows, .ref a_o1_rents, .ref a_o1_roofs, .int v_o1_traders, .ref a_o1_trades, .ref a_o1_fronts, .ref a_o1_limits, .ref a_o1_needy, .ref a_o1_clashes, .int v_o1_covers, .ref a_o1_starts, .ref a_o1_standing, .int v_o1_coversBusy])), (a_o1_rows, .inl (cI, 24, .inl v_o1_rows)), (a_o1_rents, .inl (cI, 24, .inl v_o1_rents)), (a_o1_roofs, .inl (cZ, 24, .inl v_o1_roofs))]) (As := [.int (-4 : Int32), .int x3]) (rest := []) E.1 hl hw (c_X4_fail h_11) (cwV 2 hts (z_gV mw_361 mw_362 mw_363 mw_284 mw_271) rfl rfl rfl (by decide +kernel) ⟨(Nat.le_of_ble_eq_true rfl), (Nat.le_of_ble_eq_true rfl)⟩) 6 [(0, 1)] [(1, 5)] rfl rfl rfl rfl rfl rfl (by decide +kernel) rfl (q0 := 0) rfl rfl rfl (Nat.le_of_ble_eq_true rfl) dX4_readPitch_38 ⟨Nat.le_of_ble_eq_true rfl, Nat.le_of_ble_eq_true rfl⟩ (fun H locs hw => ?_)
  exact w_X4_readPitch_41 E hT hLt hG  _ _ _ _ _ _ _ _ _ _ _ hf _ _ _ hw (lv_sub hl [0, 1, 3] rfl)
set_option maxHeartbeats 4000000 in
set_option maxRecDepth 100000 in
theorem c_X4_readPitch {l : Launch} {D : va_G} {cI cZ cM : ClassId} {adK adV : Nat → Nat} {a_this a_text a_o1 a_o1_rows a_o1_rents a_o1_roofs a_o1_trades a_o1_fronts a_o1_limits a_o1_needy a_o1_clashes a_o1_starts a_o1_standing : Nat} {v_o1_traders : Int32} {v_o1_covers : Int32} {v_o1_coversBusy : Int32} {res : Int32 × Int32 × Int32 × Int32 × (Nat → Int32) × (Nat → Int32) × (Nat → Int32)} {sz : Nat} {n : Nat} {v_text : Nat → Int32} {v_length : Int32} {v_position : Int32} {v_rowsRead : Int32} {v_error : Int32} {v_errorAt : Int32} {v_o1_pitches : Int32} {v_o1_rows : Nat → Int32} {v_o1_rents : Nat → Int32} {v_o1_roofs : Nat → Int32} {x2 : Int32} (hf : f_X4_readPitch n v_text v_length v_position v_rowsRead v_error v_errorAt v_o1_pitches v_o1_rows v_o1_rents v_o1_roofs x2 = some res) : Met l yX4_readPitch zwX4_readPitch rmX4_readPitch (zPcG D (zT cI cZ cM) [.ref a_this, .ref a_o1, .int x2] [(a_this, .inr (4, [.ref a_text, .int v_length, .int v_position, .int v_rowsRead, .int v_error, .int v_errorAt])), (a_text, .inl (cI, 600, .inl v_text)), (a_o1, .inr (2, [.int v_o1_pitches, .ref a_o1_rows, .ref a_o1_rents, .ref a_o1_roofs, .int v_o1_traders, .ref a_o1_trades, .ref a_o1_fronts, .ref a_o1_limits, .ref a_o1_needy, .ref a_o1_clashes, .int v_o1_covers, .ref a_o1_starts, .ref a_o1_standing, .int v_o1_coversBusy])), (a_o1_rows, .inl (cI, 24, .inl v_o1_rows)), (a_o1_rents, .inl (cI, 24, .inl v_o1_rents)), (a_o1_roofs, .inl (cZ, 24, .inl v_o1_roofs))] sz adK adV) (zQv D (zT cI cZ cM) [(a_this, .inr (4, [.ref a_text, .int v_length, .int res.1, .int v_rowsRead, .int res.2.1, .int res.2.2.1])), (a_text, .inl (cI, 600, .inl v_text)), (a_o1, .inr (2, [.int res.2.2.2.1, .ref a_o1_rows, .ref a_o1_rents, .ref a_o1_roofs, .int v_o1_traders, .ref a_o1_trades, .ref a_o1_fronts, .ref a_o1_limits, .ref a_o1_needy, .ref a_o1_clashes, .int v_o1_covers, .ref a_o1_starts, .ref a_o1_standing, .int v_o1_coversBusy])), (a_o1_rows, .inl (cI, 24, .inl res.2.2.2.2.1)), (a_o1_rents, .inl (cI, 24, .inl res.2.2.2.2.2.1)), (a_o1_roofs, .inl (cZ, 24, .inl res.2.2.2.2.2.2))] (va_A [(a_this, .inr (4, [.ref a_text, .int v_length, .int v_position, .int v_rowsRead, .int v_error, .int v_errorAt])), (a_text, .inl (cI, 600, .inl v_text)), (a_o1, .inr (2, [.int v_o1_pitches, .ref a_o1_rows, .ref a_o1_rents, .ref a_o1_roofs, .int v_o1_traders, .ref a_o1_trades, .ref a_o1_fronts, .ref a_o1_limits, .ref a_o1_needy, .ref a_o1_clashes, .int v_o1_covers, .ref a_o1_starts, .ref a_o1_standing, .int v_o1_coversBusy])), (a_o1_rows, .inl (cI, 24, .inl v_o1_rows)), (a_o1_rents, .inl (cI, 24, .inl v_o1_rents)), (a_o1_roofs, .inl (cZ, 24, .inl v_o1_roofs))] sz)) 0 0 (va_A [(a_this, .inr (4, [.ref a_text, .int v_length, .int v_position, .int v_rowsRead, .int v_error, .int v_errorAt])), (a_text, .inl (cI, 600, .inl v_text)), (a_o1, .inr (2, [.int v_o1_pitches, .ref a_o1_rows, .ref a_o1_rents, .ref a_o1_roofs, .int v_o1_traders, .ref a_o1_trades, .ref a_o1_fronts, .ref a_o1_limits, .ref a_o1_needy, .ref a_o1_clashes, .int v_o1_covers, .ref a_o1_starts, .ref a_o1_standing, .int v_o1_coversBusy])), (a_o1_rows, .inl (cI, 24, .inl v_o1_rows)), (a_o1_rents, .inl (cI, 24, .inl v_o1_rents)), (a_o1_roofs, .inl (cZ, 24, .inl v_o1_roofs))] sz) := by
  refine z_metG (cc := cX4_readPitch) (maxL := 6) (ret := none) (by decide) rfl (Nat.le_of_ble_eq_true rfl) ?_
  intro p e s m below meth c ls E hT hLt hG hsz hw hl
  obtain ⟨⟨hx, hb, hml, hown, hts⟩, hr, hlocks⟩ := id E
  have hl : lv_has ls 6 [(0, .ref a_this), (1, .ref a_o1), (2, .int x2)] := hl
  unfold f_X4_readPitch at hf
  refine lv_aload_n hx hb dX4_readPitch_0 rfl (lv_at hl 0 rfl) ?_
  obtain ⟨v_12, h_13, hf⟩ := oB_elim hf
  refine z_callVv (ws' := [(a_this, .inr (4, [.ref a_text, .int v_length, .int v_12, .int v_rowsRead, .int v_error, .int v_errorAt])), (a_text, .inl (cI, 600, .inl v_text)), (a_o1, .inr (2, [.int v_o1_pitches, .ref a_o1_rows, .ref a_o1_rents, .ref a_o1_roofs, .int v_o1_traders, .ref a_o1_trades, .ref a_o1_fronts, .ref a_o1_limits, .ref a_o1_needy, .ref a_o1_clashes, .int v_o1_covers, .ref a_o1_starts, .ref a_o1_standing, .int v_o1_coversBusy])), (a_o1_rows, .inl (cI, 24, .inl v_o1_rows)), (a_o1_rents, .inl (cI, 24, .inl v_o1_rents)), (a_o1_roofs, .inl (cZ, 24, .inl v_o1_roofs))]) (wr := [(a_o1, .inr (2, [.int v_o1_pitches, .ref a_o1_rows, .ref a_o1_rents, .ref a_o1_roofs, .int v_o1_traders, .ref a_o1_trades, .ref a_o1_fronts, .ref a_o1_limits, .ref a_o1_needy, .ref a_o1_clashes, .int v_o1_covers, .ref a_o1_starts, .ref a_o1_standing, .int v_o1_coversBusy])), (a_o1_rows, .inl (cI, 24, .inl v_o1_rows)), (a_o1_rents, .inl (cI, 24, .inl v_o1_rents)), (a_o1_roofs, .inl (cZ, 24, .inl v_o1_roofs))]) (As := []) (rest := []) E.1 hl hw (c_X4_skipSpaces h_13) (cwV 0 hts (z_gV mw_281 mw_282 mw_283 mw_284 mw_285) rfl rfl rfl (by decide +kernel) ⟨(Nat.le_of_ble_eq_true rfl), (Nat.le_of_ble_eq_true rfl)⟩) 6 [(0, 2)] [(2, 4)] rfl rfl rfl rfl rfl rfl (by decide +kernel) rfl (q0 := 0) rfl rfl rfl (Nat.le_of_ble_eq_true rfl) dX4_readPitch_1 ⟨Nat.le_of_ble_eq_true rfl, Nat.le_of_ble_eq_true rfl⟩ (fun H locs hw => ?_)
  refine lv_aload_n hx hb dX4_readPitch_4 rfl (lv_at hl 0 rfl) ?_
  refine z_get E.1 hw in_wsX40 0 rfl rfl 2 (z_lt rfl) mw_278 (v := .int v_12) rfl dX4_readPitch_5 ?_
  refine lv_istore_n (lv' := [(3, .int v_12), (0, .ref a_this), (1, .ref a_o1), (2, .int x2)]) hx hb dX4_readPitch_8 rfl hl (z_lt rfl) rfl (fun ls hl => ?_)
  refine lv_aload_n hx hb dX4_readPitch_9 rfl (lv_at hl 1 rfl) ?_
  refine lv_iconst (v := 1) hx hb dX4_readPitch_10 (by decide) ?_
  refine lv_sipush (v := 999) hx hb dX4_readPitch_11 (by decide) ?_
  obtain ⟨r_14, v_15, v_16, v_17, h_18, hf⟩ := oB4_elim hf
  refine z_callGVi (ws' := [(a_this, .inr (4, [.ref a_text, .int v_length, .int v_15, .int v_rowsRead, .int v_16, .int v_17])), (a_text, .inl (cI, 600, .inl v_text)), (a_o1, .inr (2, [.int v_o1_pitches, .ref a_o1_rows, .ref a_o1_rents, .ref a_o1_roofs, .int v_o1_traders, .ref a_o1_trades, .ref a_o1_fronts, .ref a_o1_limits, .ref a_o1_needy, .ref a_o1_clashes, .int v_o1_covers, .ref a_o1_starts, .ref a_o1_standing, .int v_o1_coversBusy])), (a_o1_rows, .inl (cI, 24, .inl v_o1_rows)), (a_o1_rents, .inl (cI, 24, .inl v_o1_rents)), (a_o1_roofs, .inl (cZ, 24, .inl v_o1_roofs))]) (wr := [(a_o1, .inr (2, [.int v_o1_pitches, .ref a_o1_rows, .ref a_o1_rents, .ref a_o1_roofs, .int v_o1_traders, .ref a_o1_trades, .ref a_o1_fronts, .ref a_o1_limits, .ref a_o1_needy, .ref a_o1_clashes, .int v_o1_covers, .ref a_o1_starts, .ref a_o1_standing, .int v_o1_coversBusy])), (a_o1_rows, .inl (cI, 24, .inl v_o1_rows)), (a_o1_rents, .inl (cI, 24, .inl v_o1_rents)), (a_o1_roofs, .inl (cZ, 24, .inl v_o1_roofs))]) (As := [.int (1 : Int32), .int (999 : Int32)]) (rest := []) E.1 hl hT hLt hG hw (c_X4_readNumber h_18) (cwV 2 hts (z_gV mw_369 mw_370 mw_371 mw_284 mw_372) rfl rfl rfl (by decide +kernel) ⟨(Nat.le_of_ble_eq_true rfl), (Nat.le_of_ble_eq_true rfl)⟩) 6 [(0, 2)] [(2, 4)] rfl rfl rfl rfl rfl rfl (by decide +kernel) rfl (q0 := 0) rfl rfl rfl (Nat.le_of_ble_eq_true rfl) dX4_readPitch_14 ⟨Nat.le_of_ble_eq_true rfl, Nat.le_of_ble_eq_true rfl⟩ (fun H locs hw => ?_)
  refine lv_istore (lv' := [(4, .int r_14), (3, .int v_12), (0, .ref a_this), (1, .ref a_o1), (2, .int x2)]) hx hb dX4_readPitch_17 hl (z_lt rfl) rfl (fun ls hl => ?_)
  refine lv_iload_n hx hb dX4_readPitch_19 rfl (lv_at hl 4 rfl) ?_
  refine lv_bipush (v := 12) hx hb dX4_readPitch_20 (by decide) ?_
  refine lv_icmp_ge (tgt := 34) hx hb dX4_readPitch_22 (by decide) (fun hc => ?_) (fun hc => ?_)
  · have hf := oI_pos hc hf
    exact w_X4_readPitch_34 E hT hLt hG  _ _ _ _ _ _ _ _ _ _ _ _ hf _ _ _ hw (lv_sub hl [2, 3, 1, 0] rfl)
  · have hf := oI_neg hc hf
    refine lv_aload_n hx hb dX4_readPitch_25 rfl (lv_at hl 3 rfl) ?_
    refine z_get E.1 hw in_wsX20 2 rfl rfl 0 (z_lt rfl) mw_368 (v := .int v_o1_pitches) rfl dX4_readPitch_26 ?_
    refine lv_bipush (v := 24) hx hb dX4_readPitch_29 (by decide) ?_
    refine lv_icmp_lt (tgt := 41) hx hb dX4_readPitch_31 (by decide) (fun hc => ?_) (fun hc => ?_)
    · have hf := oI_pos hc hf
      exact w_X4_readPitch_41 E hT hLt hG  _ _ _ _ _ _ _ _ _ _ _ hf _ _ _ hw (lv_sub hl [2, 3, 0] rfl)
    · have hf := oI_neg hc hf
      exact w_X4_readPitch_34 E hT hLt hG  _ _ _ _ _ _ _ _ _ _ _ _ hf _ _ _ hw (lv_sub hl [2, 3, 1, 0] rfl)
end
/-! X4_readRow -/
section
variable {p : Program} {l : Launch} {e : Env} {s : State} {m : MethodId} {args : Array Value} {below : List Frame} {meth : Method} {c : Code} {D : va_G} {A : Nat → Prop} {cI cZ cM : ClassId} {a_this a_text a_o1 a_o1_rows a_o1_rents a_o1_roofs a_o1_trades a_o1_fronts a_o1_limits a_o1_needy a_o1_clashes a_o1_starts a_o1_standing : Nat} {v_o1_traders : Int32} {v_o1_covers : Int32} {v_o1_coversBusy : Int32} {res : Int32 × Int32 × Int32 × Int32 × Int32 × (Nat → Int32) × (Nat → Int32) × (Nat → Int32)} {adK adV : Nat → Nat}
def rmX4_readRow : Room := { frames := 6, cells := 0, slots := 0, locals := 159 }
abbrev zwX4_readRow : List Cond := Cond.code yX4_readRow cX4_readRow 4 none :: wsAll
set_option maxHeartbeats 4000000 in
set_option maxRecDepth 100000 in
theorem w_X4_readRow_49 {n : Nat} {v_text : Nat → Int32} {v_length : Int32} (E : zE p s m args meth c cX4_readRow 4 none zwX4_readRow RX4) (hT : zTn s) (hLt : zLt adK s) (hG : zSg adK adV A s s.heap) : ∀ (v_position : Int32) (v_rowsRead : Int32) (v_error : Int32) (v_errorAt : Int32) (v_o1_pitches : Int32) (v_o1_rows : Nat → Int32) (v_o1_rents : Nat → Int32) (v_o1_roofs : Nat → Int32), f_X4_readRow_49 n v_position v_rowsRead v_error v_errorAt v_o1_pitches v_o1_rows v_o1_rents v_o1_roofs = some res → ∀ (H : Heap) (locs : List Loc) (ls : Array Slot), zW D (zT cI cZ cM) A s [(a_this, .inr (4, [.ref a_text, .int v_length, .int v_position, .int v_rowsRead, .int v_error, .int v_errorAt])), (a_text, .inl (cI, 600, .inl v_text)), (a_o1, .inr (2, [.int v_o1_pitches, .ref a_o1_rows, .ref a_o1_rents, .ref a_o1_roofs, .int v_o1_traders, .ref a_o1_trades, .ref a_o1_fronts, .ref a_o1_limits, .ref a_o1_needy, .ref a_o1_clashes, .int v_o1_covers, .ref a_o1_starts, .ref a_o1_standing, .int v_o1_coversBusy])), (a_o1_rows, .inl (cI, 24, .inl v_o1_rows)), (a_o1_rents, .inl (cI, 24, .inl v_o1_rents)), (a_o1_roofs, .inl (cZ, 24, .inl v_o1_roofs))] H locs → lv_has ls 4 [(0, .ref a_this)] → W p l e rmX4_readRow s m args below meth c H locs 0 0 (MQ below (zQv D (zT cI cZ cM) [(a_this, .inr (4, [.ref a_text, .int v_length, .int res.1, .int res.2.1, .int res.2.2.1, .int res.2.2.2.1])), (a_text, .inl (cI, 600, .inl v_text)), (a_o1, .inr (2, [.int res.2.2.2.2.1, .ref a_o1_rows, .ref a_o1_rents, .ref a_o1_roofs, .int v_o1_traders, .ref a_o1_trades, .ref a_o1_fronts, .ref a_o1_limits, .ref a_o1_needy, .ref a_o1_clashes, .int v_o1_covers, .ref a_o1_starts, .ref a_o1_standing, .int v_o1_coversBusy])), (a_o1_rows, .inl (cI, 24, .inl res.2.2.2.2.2.1)), (a_o1_rents, .inl (cI, 24, .inl res.2.2.2.2.2.2.1)), (a_o1_roofs, .inl (cZ, 24, .inl res.2.2.2.2.2.2.2))] A) args s 0 0 A) (F0 m 49 ls []) := by
  obtain ⟨⟨hx, hb, hml, hown, hts⟩, hr, hlocks⟩ := id E
  intro v_position v_rowsRead v_error v_errorAt v_o1_pitches v_o1_rows v_o1_rents v_o1_roofs hf H locs ls hw hl
  unfold f_X4_readRow_49 at hf
  refine lv_aload_n hx hb dX4_readRow_49 rfl (lv_at hl 0 rfl) ?_
  refine lv_dup hx hb dX4_readRow_50 rfl ?_
  refine z_get E.1 hw in_wsX40 0 rfl rfl 3 (z_lt rfl) mw_279 (v := .int v_rowsRead) rfl dX4_readRow_51 ?_
  refine lv_iconst (v := 1) hx hb dX4_readRow_54 (by decide) ?_
  refine lv_iadd hx hb dX4_readRow_55 ?_
  obtain ⟨y_1, e_y_1, hf⟩ := oL_elim hf
  refine z_top e_y_1 ?_
  refine z_put (ws' := [(a_this, .inr (4, [.ref a_text, .int v_length, .int v_position, .int y_1, .int v_error, .int v_errorAt])), (a_text, .inl (cI, 600, .inl v_text)), (a_o1, .inr (2, [.int v_o1_pitches, .ref a_o1_rows, .ref a_o1_rents, .ref a_o1_roofs, .int v_o1_traders, .ref a_o1_trades, .ref a_o1_fronts, .ref a_o1_limits, .ref a_o1_needy, .ref a_o1_clashes, .int v_o1_covers, .ref a_o1_starts, .ref a_o1_standing, .int v_o1_coversBusy])), (a_o1_rows, .inl (cI, 24, .inl v_o1_rows)), (a_o1_rents, .inl (cI, 24, .inl v_o1_rents)), (a_o1_roofs, .inl (cZ, 24, .inl v_o1_roofs))]) E.1 hw in_wsX40 tyX4 tyX4_ok nmX4 0 rfl rfl 3 (z_lt rfl) mw_279 rfl rfl rfl (z_lt rfl) rfl dX4_readRow_56 (fun H locs hw => ?_)
  cases hf
  exact z_vret E rfl hw dX4_readRow_59
set_option maxHeartbeats 4000000 in
set_option maxRecDepth 100000 in
theorem w_X4_readRow_24 {n : Nat} (E : zE p s m args meth c cX4_readRow 4 none zwX4_readRow RX4) (hT : zTn s) (hLt : zLt adK s) (hG : zSg adK adV A s s.heap) : ∀ (fu : Nat), ∀ (x3 : Int32) (v_text : Nat → Int32) (v_length : Int32) (v_position : Int32) (v_rowsRead : Int32) (v_error : Int32) (v_errorAt : Int32) (v_o1_pitches : Int32) (v_o1_rows : Nat → Int32) (v_o1_rents : Nat → Int32) (v_o1_roofs : Nat → Int32), f_X4_readRow_24 n fu x3 v_text v_length v_position v_rowsRead v_error v_errorAt v_o1_pitches v_o1_rows v_o1_rents v_o1_roofs = some res → ∀ (H : Heap) (locs : List Loc) (ls : Array Slot), zW D (zT cI cZ cM) A s [(a_this, .inr (4, [.ref a_text, .int v_length, .int v_position, .int v_rowsRead, .int v_error, .int v_errorAt])), (a_text, .inl (cI, 600, .inl v_text)), (a_o1, .inr (2, [.int v_o1_pitches, .ref a_o1_rows, .ref a_o1_rents, .ref a_o1_roofs, .int v_o1_traders, .ref a_o1_trades, .ref a_o1_fronts, .ref a_o1_limits, .ref a_o1_needy, .ref a_o1_clashes, .int v_o1_covers, .ref a_o1_starts, .ref a_o1_standing, .int v_o1_coversBusy])), (a_o1_rows, .inl (cI, 24, .inl v_o1_rows)), (a_o1_rents, .inl (cI, 24, .inl v_o1_rents)), (a_o1_roofs, .inl (cZ, 24, .inl v_o1_roofs))] H locs → lv_has ls 4 [(0, .ref a_this), (1, .ref a_o1), (3, .int x3)] → W p l e rmX4_readRow s m args below meth c H locs 0 0 (MQ below (zQv D (zT cI cZ cM) [(a_this, .inr (4, [.ref a_text, .int v_length, .int res.1, .int res.2.1, .int res.2.2.1, .int res.2.2.2.1])), (a_text, .inl (cI, 600, .inl v_text)), (a_o1, .inr (2, [.int res.2.2.2.2.1, .ref a_o1_rows, .ref a_o1_rents, .ref a_o1_roofs, .int v_o1_traders, .ref a_o1_trades, .ref a_o1_fronts, .ref a_o1_limits, .ref a_o1_needy, .ref a_o1_clashes, .int v_o1_covers, .ref a_o1_starts, .ref a_o1_standing, .int v_o1_coversBusy])), (a_o1_rows, .inl (cI, 24, .inl res.2.2.2.2.2.1)), (a_o1_rents, .inl (cI, 24, .inl res.2.2.2.2.2.2.1)), (a_o1_roofs, .inl (cZ, 24, .inl res.2.2.2.2.2.2.2))] A) args s 0 0 A) (F0 m 24 ls []) := by
  obtain ⟨⟨hx, hb, hml, hown, hts⟩, hr, hlocks⟩ := id E
  intro fu
  induction fu with
  | zero => intro x3 v_text v_length v_position v_rowsRead v_error v_errorAt v_o1_pitches v_o1_rows v_o1_rents v_o1_roofs hf; rw [f_X4_readRow_24.eq_1] at hf; cases hf
  | succ fu ih =>
    intro x3 v_text v_length v_position v_rowsRead v_error v_errorAt v_o1_pitches v_o1_rows v_o1_rents v_o1_roofs hf H locs ls hw hl
    rw [f_X4_readRow_24.eq_2] at hf
    refine lv_iload_n hx hb dX4_readRow_24 rfl (lv_at hl 2 rfl) ?_
    refine lv_bipush (v := 12) hx hb dX4_readRow_25 (by decide) ?_
    refine lv_icmp_gt (tgt := 49) hx hb dX4_readRow_27 (by decide) (fun hc => ?_) (fun hc => ?_)
    · have hf := oI_pos hc hf
      exact w_X4_readRow_49 E hT hLt hG  _ _ _ _ _ _ _ _ hf _ _ _ hw (lv_sub hl [0] rfl)
    · have hf := oI_neg hc hf
      refine lv_aload_n hx hb dX4_readRow_30 rfl (lv_at hl 0 rfl) ?_
      obtain ⟨r_2, v_3, h_4, hf⟩ := oB2_elim hf
      refine z_callVi (ws' := [(a_this, .inr (4, [.ref a_text, .int v_length, .int v_3, .int v_rowsRead, .int v_error, .int v_errorAt])), (a_text, .inl (cI, 600, .inl v_text)), (a_o1, .inr (2, [.int v_o1_pitches, .ref a_o1_rows, .ref a_o1_rents, .ref a_o1_roofs, .int v_o1_traders, .ref a_o1_trades, .ref a_o1_fronts, .ref a_o1_limits, .ref a_o1_needy, .ref a_o1_clashes, .int v_o1_covers, .ref a_o1_starts, .ref a_o1_standing, .int v_o1_coversBusy])), (a_o1_rows, .inl (cI, 24, .inl v_o1_rows)), (a_o1_rents, .inl (cI, 24, .inl v_o1_rents)), (a_o1_roofs, .inl (cZ, 24, .inl v_o1_roofs))]) (wr := [(a_o1, .inr (2, [.int v_o1_pitches, .ref a_o1_rows, .ref a_o1_rents, .ref a_o1_roofs, .int v_o1_traders, .ref a_o1_trades, .ref a_o1_fronts, .ref a_o1_limits, .ref a_o1_needy, .ref a_o1_clashes, .int v_o1_covers, .ref a_o1_starts, .ref a_o1_standing, .int v_o1_coversBusy])), (a_o1_rows, .inl (cI, 24, .inl v_o1_rows)), (a_o1_rents, .inl (cI, 24, .inl v_o1_rents)), (a_o1_roofs, .inl (cZ, 24, .inl v_o1_roofs))]) (As := []) (rest := []) E.1 hl hw (c_X4_isAtDigit h_4) (cwV 0 hts (z_gV mw_373 mw_374 mw_375 mw_284 mw_280) rfl rfl rfl (by decide +kernel) ⟨(Nat.le_of_ble_eq_true rfl), (Nat.le_of_ble_eq_true rfl)⟩) 6 [(0, 2)] [(2, 4)] rfl rfl rfl rfl rfl rfl (by decide +kernel) rfl (q0 := 0) rfl rfl rfl (Nat.le_of_ble_eq_true rfl) dX4_readRow_31 ⟨Nat.le_of_ble_eq_true rfl, Nat.le_of_ble_eq_true rfl⟩ (fun H locs hw => ?_)
      refine lv_if_eq (tgt := 49) hx hb dX4_readRow_34 (by decide) (fun hc => ?_) (fun hc => ?_)
      · have hf := oI_pos hc hf
        exact w_X4_readRow_49 E hT hLt hG  _ _ _ _ _ _ _ _ hf _ _ _ hw (lv_sub hl [0] rfl)
      · have hf := oI_neg hc hf
        refine lv_aload_n hx hb dX4_readRow_37 rfl (lv_at hl 0 rfl) ?_
        refine lv_aload_n hx hb dX4_readRow_38 rfl (lv_at hl 1 rfl) ?_
        refine lv_iload_n hx hb dX4_readRow_39 rfl (lv_at hl 2 rfl) ?_
        obtain ⟨v_5, v_6, v_7, v_8, v_9, v_10, v_11, h_12, hf⟩ := oB7_elim hf
        refine z_callGVv (ws' := [(a_this, .inr (4, [.ref a_text, .int v_length, .int v_5, .int v_rowsRead, .int v_6, .int v_7])), (a_text, .inl (cI, 600, .inl v_text)), (a_o1, .inr (2, [.int v_8, .ref a_o1_rows, .ref a_o1_rents, .ref a_o1_roofs, .int v_o1_traders, .ref a_o1_trades, .ref a_o1_fronts, .ref a_o1_limits, .ref a_o1_needy, .ref a_o1_clashes, .int v_o1_covers, .ref a_o1_starts, .ref a_o1_standing, .int v_o1_coversBusy])), (a_o1_rows, .inl (cI, 24, .inl v_9)), (a_o1_rents, .inl (cI, 24, .inl v_10)), (a_o1_roofs, .inl (cZ, 24, .inl v_11))]) (wr := []) (As := [.ref a_o1, .int x3]) (rest := []) E.1 hl hT hLt hG hw (c_X4_readPitch h_12) (cwV 2 hts (z_gV mw_364 mw_365 mw_366 mw_284 mw_367) rfl rfl rfl (by decide +kernel) ⟨(Nat.le_of_ble_eq_true rfl), (Nat.le_of_ble_eq_true rfl)⟩) 6 [(0, 6)] [] rfl rfl rfl rfl rfl rfl (by decide +kernel) rfl (q0 := 0) rfl rfl rfl (Nat.le_of_ble_eq_true rfl) dX4_readRow_40 ⟨Nat.le_of_ble_eq_true rfl, Nat.le_of_ble_eq_true rfl⟩ (fun H locs hw => ?_)
        refine lv_iinc (v := (x3 + (1 : Int32))) (lv' := [(3, .int (x3 + (1 : Int32))), (0, .ref a_this), (1, .ref a_o1)]) hx hb dX4_readRow_43 hl (k := 2) rfl rfl (z_lt rfl) rfl (fun ls hl => ?_)
        refine lv_goto (tgt := 24) hx hb dX4_readRow_46 (by decide) ?_
        exact ih _ _ _ _ _ _ _ _ _ _ _ hf _ _ _ hw (lv_sub hl [1, 2, 0] rfl)
set_option maxHeartbeats 4000000 in
set_option maxRecDepth 100000 in
theorem c_X4_readRow {l : Launch} {D : va_G} {cI cZ cM : ClassId} {adK adV : Nat → Nat} {a_this a_text a_o1 a_o1_rows a_o1_rents a_o1_roofs a_o1_trades a_o1_fronts a_o1_limits a_o1_needy a_o1_clashes a_o1_starts a_o1_standing : Nat} {v_o1_traders : Int32} {v_o1_covers : Int32} {v_o1_coversBusy : Int32} {res : Int32 × Int32 × Int32 × Int32 × Int32 × (Nat → Int32) × (Nat → Int32) × (Nat → Int32)} {sz : Nat} {n : Nat} {v_text : Nat → Int32} {v_length : Int32} {v_position : Int32} {v_rowsRead : Int32} {v_error : Int32} {v_errorAt : Int32} {v_o1_pitches : Int32} {v_o1_rows : Nat → Int32} {v_o1_rents : Nat → Int32} {v_o1_roofs : Nat → Int32} {x2 : Int32} (hf : f_X4_readRow n v_text v_length v_position v_rowsRead v_error v_errorAt v_o1_pitches v_o1_rows v_o1_rents v_o1_roofs x2 = some res) : Met l yX4_readRow zwX4_readRow rmX4_readRow (zPcG D (zT cI cZ cM) [.ref a_this, .ref a_o1, .int x2] [(a_this, .inr (4, [.ref a_text, .int v_length, .int v_position, .int v_rowsRead, .int v_error, .int v_errorAt])), (a_text, .inl (cI, 600, .inl v_text)), (a_o1, .inr (2, [.int v_o1_pitches, .ref a_o1_rows, .ref a_o1_rents, .ref a_o1_roofs, .int v_o1_traders, .ref a_o1_trades, .ref a_o1_fronts, .ref a_o1_limits, .ref a_o1_needy, .ref a_o1_clashes, .int v_o1_covers, .ref a_o1_starts, .ref a_o1_standing, .int v_o1_coversBusy])), (a_o1_rows, .inl (cI, 24, .inl v_o1_rows)), (a_o1_rents, .inl (cI, 24, .inl v_o1_rents)), (a_o1_roofs, .inl (cZ, 24, .inl v_o1_roofs))] sz adK adV) (zQv D (zT cI cZ cM) [(a_this, .inr (4, [.ref a_text, .int v_length, .int res.1, .int res.2.1, .int res.2.2.1, .int res.2.2.2.1])), (a_text, .inl (cI, 600, .inl v_text)), (a_o1, .inr (2, [.int res.2.2.2.2.1, .ref a_o1_rows, .ref a_o1_rents, .ref a_o1_roofs, .int v_o1_traders, .ref a_o1_trades, .ref a_o1_fronts, .ref a_o1_limits, .ref a_o1_needy, .ref a_o1_clashes, .int v_o1_covers, .ref a_o1_starts, .ref a_o1_standing, .int v_o1_coversBusy])), (a_o1_rows, .inl (cI, 24, .inl res.2.2.2.2.2.1)), (a_o1_rents, .inl (cI, 24, .inl res.2.2.2.2.2.2.1)), (a_o1_roofs, .inl (cZ, 24, .inl res.2.2.2.2.2.2.2))] (va_A [(a_this, .inr (4, [.ref a_text, .int v_length, .int v_position, .int v_rowsRead, .int v_error, .int v_errorAt])), (a_text, .inl (cI, 600, .inl v_text)), (a_o1, .inr (2, [.int v_o1_pitches, .ref a_o1_rows, .ref a_o1_rents, .ref a_o1_roofs, .int v_o1_traders, .ref a_o1_trades, .ref a_o1_fronts, .ref a_o1_limits, .ref a_o1_needy, .ref a_o1_clashes, .int v_o1_covers, .ref a_o1_starts, .ref a_o1_standing, .int v_o1_coversBusy])), (a_o1_rows, .inl (cI, 24, .inl v_o1_rows)), (a_o1_rents, .inl (cI, 24, .inl v_o1_rents)), (a_o1_roofs, .inl (cZ, 24, .inl v_o1_roofs))] sz)) 0 0 (va_A [(a_this, .inr (4, [.ref a_text, .int v_length, .int v_position, .int v_rowsRead, .int v_error, .int v_errorAt])), (a_text, .inl (cI, 600, .inl v_text)), (a_o1, .inr (2, [.int v_o1_pitches, .ref a_o1_rows, .ref a_o1_rents, .ref a_o1_roofs, .int v_o1_traders, .ref a_o1_trades, .ref a_o1_fronts, .ref a_o1_limits, .ref a_o1_needy, .ref a_o1_clashes, .int v_o1_covers, .ref a_o1_starts, .ref a_o1_standing, .int v_o1_coversBusy])), (a_o1_rows, .inl (cI, 24, .inl v_o1_rows)), (a_o1_rents, .inl (cI, 24, .inl v_o1_rents)), (a_o1_roofs, .inl (cZ, 24, .inl v_o1_roofs))] sz) := by
  refine z_metG (cc := cX4_readRow) (maxL := 4) (ret := none) (by decide) rfl (Nat.le_of_ble_eq_true rfl) ?_
  intro p e s m below meth c ls E hT hLt hG hsz hw hl
  obtain ⟨⟨hx, hb, hml, hown, hts⟩, hr, hlocks⟩ := id E
  have hl : lv_has ls 4 [(0, .ref a_this), (1, .ref a_o1), (2, .int x2)] := hl
  unfold f_X4_readRow at hf
  refine lv_aload_n hx hb dX4_readRow_0 rfl (lv_at hl 0 rfl) ?_
  refine z_get E.1 hw in_wsX40 0 rfl rfl 3 (z_lt rfl) mw_279 (v := .int v_rowsRead) rfl dX4_readRow_1 ?_
  refine lv_iconst (v := 4) hx hb dX4_readRow_4 (by decide) ?_
  refine lv_icmp_lt (tgt := 16) hx hb dX4_readRow_5 (by decide) (fun hc => ?_) (fun hc => ?_)
  · have hf := oI_pos hc hf
    refine lv_aload_n hx hb dX4_readRow_16 rfl (lv_at hl 0 rfl) ?_
    refine lv_aload_n hx hb dX4_readRow_17 rfl (lv_at hl 1 rfl) ?_
    refine lv_iconst (v := 0) hx hb dX4_readRow_18 (by decide) ?_
    obtain ⟨v_13, v_14, v_15, v_16, v_17, v_18, v_19, h_20, hf⟩ := oB7_elim hf
    refine z_callGVv (ws' := [(a_this, .inr (4, [.ref a_text, .int v_length, .int v_13, .int v_rowsRead, .int v_14, .int v_15])), (a_text, .inl (cI, 600, .inl v_text)), (a_o1, .inr (2, [.int v_16, .ref a_o1_rows, .ref a_o1_rents, .ref a_o1_roofs, .int v_o1_traders, .ref a_o1_trades, .ref a_o1_fronts, .ref a_o1_limits, .ref a_o1_needy, .ref a_o1_clashes, .int v_o1_covers, .ref a_o1_starts, .ref a_o1_standing, .int v_o1_coversBusy])), (a_o1_rows, .inl (cI, 24, .inl v_17)), (a_o1_rents, .inl (cI, 24, .inl v_18)), (a_o1_roofs, .inl (cZ, 24, .inl v_19))]) (wr := []) (As := [.ref a_o1, .int (0 : Int32)]) (rest := []) E.1 hl hT hLt hG hw (c_X4_readPitch h_20) (cwV 2 hts (z_gV mw_364 mw_365 mw_366 mw_284 mw_367) rfl rfl rfl (by decide +kernel) ⟨(Nat.le_of_ble_eq_true rfl), (Nat.le_of_ble_eq_true rfl)⟩) 6 [(0, 6)] [] rfl rfl rfl rfl rfl rfl (by decide +kernel) rfl (q0 := 0) rfl rfl rfl (Nat.le_of_ble_eq_true rfl) dX4_readRow_19 ⟨Nat.le_of_ble_eq_true rfl, Nat.le_of_ble_eq_true rfl⟩ (fun H locs hw => ?_)
    refine lv_iconst (v := 1) hx hb dX4_readRow_22 (by decide) ?_
    refine lv_istore_n (lv' := [(3, .int (1 : Int32)), (0, .ref a_this), (1, .ref a_o1), (2, .int x2)]) hx hb dX4_readRow_23 rfl hl (z_lt rfl) rfl (fun ls hl => ?_)
    exact w_X4_readRow_24 E hT hLt hG  n _ _ _ _ _ _ _ _ _ _ _ hf _ _ _ hw (lv_sub hl [1, 2, 0] rfl)
  · have hf := oI_neg hc hf
    refine lv_aload_n hx hb dX4_readRow_8 rfl (lv_at hl 0 rfl) ?_
    refine lv_bipush (v := -4) hx hb dX4_readRow_9 (by decide) ?_
    refine lv_iload_n hx hb dX4_readRow_11 rfl (lv_at hl 2 rfl) ?_
    obtain ⟨v_21, v_22, h_23, hf⟩ := oB2_elim hf
    refine z_callVv (ws' := [(a_this, .inr (4, [.ref a_text, .int v_length, .int v_position, .int v_rowsRead, .int v_21, .int v_22])), (a_text, .inl (cI, 600, .inl v_text)), (a_o1, .inr (2, [.int v_o1_pitches, .ref a_o1_rows, .ref a_o1_rents, .ref a_o1_roofs, .int v_o1_traders, .ref a_o1_trades, .ref a_o1_fronts, .ref a_o1_limits, .ref a_o1_needy, .ref a_o1_clashes, .int v_o1_covers, .ref a_o1_starts, .ref a_o1_standing, .int v_o1_coversBusy])), (a_o1_rows, .inl (cI, 24, .inl v_o1_rows)), (a_o1_rents, .inl (cI, 24, .inl v_o1_rents)), (a_o1_roofs, .inl (cZ, 24, .inl v_o1_roofs))]) (wr := [(a_text, .inl (cI, 600, .inl v_text)), (a_o1, .inr (2, [.int v_o1_pitches, .ref a_o1_rows, .ref a_o1_rents, .ref a_o1_roofs, .int v_o1_traders, .ref a_o1_trades, .ref a_o1_fronts, .ref a_o1_limits, .ref a_o1_needy, .ref a_o1_clashes, .int v_o1_covers, .ref a_o1_starts, .ref a_o1_standing, .int v_o1_coversBusy])), (a_o1_rows, .inl (cI, 24, .inl v_o1_rows)), (a_o1_rents, .inl (cI, 24, .inl v_o1_rents)), (a_o1_roofs, .inl (cZ, 24, .inl v_o1_roofs))]) (As := [.int (-4 : Int32), .int x2]) (rest := []) E.1 hl hw (c_X4_fail h_23) (cwV 2 hts (z_gV mw_361 mw_362 mw_363 mw_284 mw_271) rfl rfl rfl (by decide +kernel) ⟨(Nat.le_of_ble_eq_true rfl), (Nat.le_of_ble_eq_true rfl)⟩) 6 [(0, 1)] [(1, 5)] rfl rfl rfl rfl rfl rfl (by decide +kernel) rfl (q0 := 0) rfl rfl rfl (Nat.le_of_ble_eq_true rfl) dX4_readRow_12 ⟨Nat.le_of_ble_eq_true rfl, Nat.le_of_ble_eq_true rfl⟩ (fun H locs hw => ?_)
    cases hf
    exact z_vret E rfl hw dX4_readRow_15
end
