/-! X2_copyFrom -/
section
variable {p : Program} {l : Launch} {e : Env} {s : State} {m : MethodId} {args : Array Value} {below : List Frame} {meth : Method} {c : Code} {D : va_G} {A : Nat → Prop} {cI cZ cM : ClassId} {a_this a_rows a_rents a_roofs a_trades a_fronts a_limits a_needy a_clashes a_starts a_standing a_o1 a_o1_rows a_o1_rents a_o1_roofs a_o1_trades a_o1_fronts a_o1_limits a_o1_needy a_o1_clashes a_o1_starts a_o1_standing : Nat} {w_pitches : Int32} {w_rows : Nat → Int32} {w_rents : Nat → Int32} {w_roofs : Nat → Int32} {w_traders : Int32} {w_trades : Nat → Int32} {w_fronts : Nat → Int32} {w_limits : Nat → Int32} {w_needy : Nat → Int32} {w_clashes : Nat → Int32} {w_covers : Int32} {w_starts : Nat → Int32} {w_standing : Nat → Int32} {w_coversBusy : Int32}
def rmX2_copyFrom : Room := { frames := 1, cells := 0, slots := 0, locals := 48 }
abbrev zwX2_copyFrom : List Cond := Cond.code yX2_copyFrom cX2_copyFrom 3 none :: wsAll
set_option maxHeartbeats 4000000 in
set_option maxRecDepth 100000 in
theorem w_X2_copyFrom_119 {n : Nat} {v_o1_pitches : Int32} {v_o1_rows : Nat → Int32} {v_o1_rents : Nat → Int32} {v_o1_roofs : Nat → Int32} {v_o1_traders : Int32} {v_o1_trades : Nat → Int32} {v_o1_fronts : Nat → Int32} {v_o1_limits : Nat → Int32} (E : zE p s m args meth c cX2_copyFrom 3 none zwX2_copyFrom RX2) : ∀ (fu : Nat), ∀ (x2 : Int32) (v_pitches : Int32) (v_rows : Nat → Int32) (v_rents : Nat → Int32) (v_roofs : Nat → Int32) (v_traders : Int32) (v_trades : Nat → Int32) (v_fronts : Nat → Int32) (v_limits : Nat → Int32) (v_needy : Nat → Int32) (v_clashes : Nat → Int32) (v_covers : Int32) (v_starts : Nat → Int32) (v_standing : Nat → Int32) (v_coversBusy : Int32) (v_o1_needy : Nat → Int32) (v_o1_clashes : Nat → Int32) (v_o1_covers : Int32) (v_o1_starts : Nat → Int32) (v_o1_standing : Nat → Int32) (v_o1_coversBusy : Int32), f_X2_copyFrom_119 n fu x2 v_pitches v_rows v_rents v_roofs v_traders v_trades v_fronts v_limits v_needy v_clashes v_covers v_starts v_standing v_coversBusy v_o1_needy v_o1_clashes v_o1_covers v_o1_starts v_o1_standing v_o1_coversBusy = some (w_pitches, w_rows, w_rents, w_roofs, w_traders, w_trades, w_fronts, w_limits, w_needy, w_clashes, w_covers, w_starts, w_standing, w_coversBusy) → ∀ (H : Heap) (locs : List Loc) (ls : Array Slot), zW D (zT cI cZ cM) A s [(a_this, .inr (2, [.int v_pitches, .ref a_rows, .ref a_rents, .ref a_roofs, .int v_traders, .ref a_trades, .ref a_fronts, .ref a_limits, .ref a_needy, .ref a_clashes, .int v_covers, .ref a_starts, .ref a_standing, .int v_coversBusy])), (a_rows, .inl (cI, 24, .inl v_rows)), (a_rents, .inl (cI, 24, .inl v_rents)), (a_roofs, .inl (cZ, 24, .inl v_roofs)), (a_trades, .inl (cI, 8, .inl v_trades)), (a_fronts, .inl (cI, 8, .inl v_fronts)), (a_limits, .inl (cI, 8, .inl v_limits)), (a_needy, .inl (cZ, 8, .inl v_needy)), (a_clashes, .inl (cI, 8, .inl v_clashes)), (a_starts, .inl (cI, 8, .inl v_starts)), (a_standing, .inl (cI, 24, .inl v_standing)), (a_o1, .inr (2, [.int v_o1_pitches, .ref a_o1_rows, .ref a_o1_rents, .ref a_o1_roofs, .int v_o1_traders, .ref a_o1_trades, .ref a_o1_fronts, .ref a_o1_limits, .ref a_o1_needy, .ref a_o1_clashes, .int v_o1_covers, .ref a_o1_starts, .ref a_o1_standing, .int v_o1_coversBusy])), (a_o1_rows, .inl (cI, 24, .inl v_o1_rows)), (a_o1_rents, .inl (cI, 24, .inl v_o1_rents)), (a_o1_roofs, .inl (cZ, 24, .inl v_o1_roofs)), (a_o1_trades, .inl (cI, 8, .inl v_o1_trades)), (a_o1_fronts, .inl (cI, 8, .inl v_o1_fronts)), (a_o1_limits, .inl (cI, 8, .inl v_o1_limits)), (a_o1_needy, .inl (cZ, 8, .inl v_o1_needy)), (a_o1_clashes, .inl (cI, 8, .inl v_o1_clashes)), (a_o1_starts, .inl (cI, 8, .inl v_o1_starts)), (a_o1_standing, .inl (cI, 24, .inl v_o1_standing))] H locs → lv_has ls 3 [(0, .ref a_this), (1, .ref a_o1), (2, .int x2)] → W p l e rmX2_copyFrom s m args below meth c H locs 0 0 (MQ below (zQv D (zT cI cZ cM) [(a_this, .inr (2, [.int w_pitches, .ref a_rows, .ref a_rents, .ref a_roofs, .int w_traders, .ref a_trades, .ref a_fronts, .ref a_limits, .ref a_needy, .ref a_clashes, .int w_covers, .ref a_starts, .ref a_standing, .int w_coversBusy])), (a_rows, .inl (cI, 24, .inl w_rows)), (a_rents, .inl (cI, 24, .inl w_rents)), (a_roofs, .inl (cZ, 24, .inl w_roofs)), (a_trades, .inl (cI, 8, .inl w_trades)), (a_fronts, .inl (cI, 8, .inl w_fronts)), (a_limits, .inl (cI, 8, .inl w_limits)), (a_needy, .inl (cZ, 8, .inl w_needy)), (a_clashes, .inl (cI, 8, .inl w_clashes)), (a_starts, .inl (cI, 8, .inl w_starts)), (a_standing, .inl (cI, 24, .inl w_standing)), (a_o1, .inr (2, [.int v_o1_pitches, .ref a_o1_rows, .ref a_o1_rents, .ref a_o1_roofs, .int v_o1_traders, .ref a_o1_trades, .ref a_o1_fronts, .ref a_o1_limits, .ref a_o1_needy, .ref a_o1_clashes, .int v_o1_covers, .ref a_o1_starts, .ref a_o1_standing, .int v_o1_coversBusy])), (a_o1_rows, .inl (cI, 24, .inl v_o1_rows)), (a_o1_rents, .inl (cI, 24, .inl v_o1_rents)), (a_o1_roofs, .inl (cZ, 24, .inl v_o1_roofs)), (a_o1_trades, .inl (cI, 8, .inl v_o1_trades)), (a_o1_fronts, .inl (cI, 8, .inl v_o1_fronts)), (a_o1_limits, .inl (cI, 8, .inl v_o1_limits)), (a_o1_needy, .inl (cZ, 8, .inl v_o1_needy)), (a_o1_clashes, .inl (cI, 8, .inl v_o1_clashes)), (a_o1_starts, .inl (cI, 8, .inl v_o1_starts)), (a_o1_standing, .inl (cI, 24, .inl v_o1_standing))] A) args s 0 0 A) (F0 m 119 ls []) := by
  obtain ⟨⟨hx, hb, hml, hown, hts⟩, hr, hlocks⟩ := id E
  intro fu
  induction fu with
  | zero => intro x2 v_pitches v_rows v_rents v_roofs v_traders v_trades v_fronts v_limits v_needy v_clashes v_covers v_starts v_standing v_coversBusy v_o1_needy v_o1_clashes v_o1_covers v_o1_starts v_o1_standing v_o1_coversBusy hf; rw [f_X2_copyFrom_119.eq_1] at hf; cases hf
  | succ fu ih =>
    intro x2 v_pitches v_rows v_rents v_roofs v_traders v_trades v_fronts v_limits v_needy v_clashes v_covers v_starts v_standing v_coversBusy v_o1_needy v_o1_clashes v_o1_covers v_o1_starts v_o1_standing v_o1_coversBusy hf H locs ls hw hl
    rw [f_X2_copyFrom_119.eq_2] at hf
    refine lv_iload_n hx hb dX2_copyFrom_119 rfl (lv_at hl 2 rfl) ?_
    refine lv_bipush (v := 8) hx hb dX2_copyFrom_120 (by decide) ?_
    refine lv_icmp_ge (tgt := 143) hx hb dX2_copyFrom_122 (by decide) (fun hc => ?_) (fun hc => ?_)
    · have hf := oI_pos hc hf
      refine lv_aload_n hx hb dX2_copyFrom_143 rfl (lv_at hl 1 rfl) ?_
      refine z_get E.1 hw in_wsX20 11 rfl rfl 9 (z_lt rfl) mw_25 (v := .ref a_o1_clashes) rfl dX2_copyFrom_144 ?_
      refine lv_iconst (v := 0) hx hb dX2_copyFrom_147 (by decide) ?_
      refine lv_aload_n hx hb dX2_copyFrom_148 rfl (lv_at hl 0 rfl) ?_
      refine z_get E.1 hw in_wsX20 0 rfl rfl 9 (z_lt rfl) mw_25 (v := .ref a_clashes) rfl dX2_copyFrom_149 ?_
      refine lv_iconst (v := 0) hx hb dX2_copyFrom_152 (by decide) ?_
      refine lv_bipush (v := 8) hx hb dX2_copyFrom_153 (by decide) ?_
      obtain ⟨v_1, e_v_1, hf⟩ := oL_elim hf
      refine z_copyi (ws' := [(a_this, .inr (2, [.int v_pitches, .ref a_rows, .ref a_rents, .ref a_roofs, .int v_traders, .ref a_trades, .ref a_fronts, .ref a_limits, .ref a_needy, .ref a_clashes, .int v_covers, .ref a_starts, .ref a_standing, .int v_coversBusy])), (a_rows, .inl (cI, 24, .inl v_rows)), (a_rents, .inl (cI, 24, .inl v_rents)), (a_roofs, .inl (cZ, 24, .inl v_roofs)), (a_trades, .inl (cI, 8, .inl v_trades)), (a_fronts, .inl (cI, 8, .inl v_fronts)), (a_limits, .inl (cI, 8, .inl v_limits)), (a_needy, .inl (cZ, 8, .inl v_needy)), (a_clashes, .inl (cI, 8, .inl v_1)), (a_starts, .inl (cI, 8, .inl v_starts)), (a_standing, .inl (cI, 24, .inl v_standing)), (a_o1, .inr (2, [.int v_o1_pitches, .ref a_o1_rows, .ref a_o1_rents, .ref a_o1_roofs, .int v_o1_traders, .ref a_o1_trades, .ref a_o1_fronts, .ref a_o1_limits, .ref a_o1_needy, .ref a_o1_clashes, .int v_o1_covers, .ref a_o1_starts, .ref a_o1_standing, .int v_o1_coversBusy])), (a_o1_rows, .inl (cI, 24, .inl v_o1_rows)), (a_o1_rents, .inl (cI, 24, .inl v_o1_rents)), (a_o1_roofs, .inl (cZ, 24, .inl v_o1_roofs)), (a_o1_trades, .inl (cI, 8, .inl v_o1_trades)), (a_o1_fronts, .inl (cI, 8, .inl v_o1_fronts)), (a_o1_limits, .inl (cI, 8, .inl v_o1_limits)), (a_o1_needy, .inl (cZ, 8, .inl v_o1_needy)), (a_o1_clashes, .inl (cI, 8, .inl v_o1_clashes)), (a_o1_starts, .inl (cI, 8, .inl v_o1_starts)), (a_o1_standing, .inl (cI, 24, .inl v_o1_standing))]) E.1 hl hw mw_35 mw_36 mw_37 mw_38 19 8 0 rfl rfl rfl (by decide) (by decide) (by decide) (by decide) (by decide) (Nat.le_of_ble_eq_true rfl) (Nat.le_of_ble_eq_true rfl) (by subst e_v_1; rfl) dX2_copyFrom_155 (fun H locs hw => ?_)
      refine lv_aload_n hx hb dX2_copyFrom_158 rfl (lv_at hl 0 rfl) ?_
      refine lv_aload_n hx hb dX2_copyFrom_159 rfl (lv_at hl 1 rfl) ?_
      refine z_get E.1 hw in_wsX20 11 rfl rfl 10 (z_lt rfl) mw_26 (v := .int v_o1_covers) rfl dX2_copyFrom_160 ?_
      refine z_put (ws' := [(a_this, .inr (2, [.int v_pitches, .ref a_rows, .ref a_rents, .ref a_roofs, .int v_traders, .ref a_trades, .ref a_fronts, .ref a_limits, .ref a_needy, .ref a_clashes, .int v_o1_covers, .ref a_starts, .ref a_standing, .int v_coversBusy])), (a_rows, .inl (cI, 24, .inl v_rows)), (a_rents, .inl (cI, 24, .inl v_rents)), (a_roofs, .inl (cZ, 24, .inl v_roofs)), (a_trades, .inl (cI, 8, .inl v_trades)), (a_fronts, .inl (cI, 8, .inl v_fronts)), (a_limits, .inl (cI, 8, .inl v_limits)), (a_needy, .inl (cZ, 8, .inl v_needy)), (a_clashes, .inl (cI, 8, .inl v_1)), (a_starts, .inl (cI, 8, .inl v_starts)), (a_standing, .inl (cI, 24, .inl v_standing)), (a_o1, .inr (2, [.int v_o1_pitches, .ref a_o1_rows, .ref a_o1_rents, .ref a_o1_roofs, .int v_o1_traders, .ref a_o1_trades, .ref a_o1_fronts, .ref a_o1_limits, .ref a_o1_needy, .ref a_o1_clashes, .int v_o1_covers, .ref a_o1_starts, .ref a_o1_standing, .int v_o1_coversBusy])), (a_o1_rows, .inl (cI, 24, .inl v_o1_rows)), (a_o1_rents, .inl (cI, 24, .inl v_o1_rents)), (a_o1_roofs, .inl (cZ, 24, .inl v_o1_roofs)), (a_o1_trades, .inl (cI, 8, .inl v_o1_trades)), (a_o1_fronts, .inl (cI, 8, .inl v_o1_fronts)), (a_o1_limits, .inl (cI, 8, .inl v_o1_limits)), (a_o1_needy, .inl (cZ, 8, .inl v_o1_needy)), (a_o1_clashes, .inl (cI, 8, .inl v_o1_clashes)), (a_o1_starts, .inl (cI, 8, .inl v_o1_starts)), (a_o1_standing, .inl (cI, 24, .inl v_o1_standing))]) E.1 hw in_wsX20 tyX2 tyX2_ok nmX2 0 rfl rfl 10 (z_lt rfl) mw_26 rfl rfl rfl (z_lt rfl) rfl dX2_copyFrom_163 (fun H locs hw => ?_)
      refine lv_aload_n hx hb dX2_copyFrom_166 rfl (lv_at hl 1 rfl) ?_
      refine z_get E.1 hw in_wsX20 11 rfl rfl 11 (z_lt rfl) mw_27 (v := .ref a_o1_starts) rfl dX2_copyFrom_167 ?_
      refine lv_iconst (v := 0) hx hb dX2_copyFrom_170 (by decide) ?_
      refine lv_aload_n hx hb dX2_copyFrom_171 rfl (lv_at hl 0 rfl) ?_
      refine z_get E.1 hw in_wsX20 0 rfl rfl 11 (z_lt rfl) mw_27 (v := .ref a_starts) rfl dX2_copyFrom_172 ?_
      refine lv_iconst (v := 0) hx hb dX2_copyFrom_175 (by decide) ?_
      refine lv_bipush (v := 8) hx hb dX2_copyFrom_176 (by decide) ?_
      obtain ⟨v_2, e_v_2, hf⟩ := oL_elim hf
      refine z_copyi (ws' := [(a_this, .inr (2, [.int v_pitches, .ref a_rows, .ref a_rents, .ref a_roofs, .int v_traders, .ref a_trades, .ref a_fronts, .ref a_limits, .ref a_needy, .ref a_clashes, .int v_o1_covers, .ref a_starts, .ref a_standing, .int v_coversBusy])), (a_rows, .inl (cI, 24, .inl v_rows)), (a_rents, .inl (cI, 24, .inl v_rents)), (a_roofs, .inl (cZ, 24, .inl v_roofs)), (a_trades, .inl (cI, 8, .inl v_trades)), (a_fronts, .inl (cI, 8, .inl v_fronts)), (a_limits, .inl (cI, 8, .inl v_limits)), (a_needy, .inl (cZ, 8, .inl v_needy)), (a_clashes, .inl (cI, 8, .inl v_1)), (a_starts, .inl (cI, 8, .inl v_2)), (a_standing, .inl (cI, 24, .inl v_standing)), (a_o1, .inr (2, [.int v_o1_pitches, .ref a_o1_rows, .ref a_o1_rents, .ref a_o1_roofs, .int v_o1_traders, .ref a_o1_trades, .ref a_o1_fronts, .ref a_o1_limits, .ref a_o1_needy, .ref a_o1_clashes, .int v_o1_covers, .ref a_o1_starts, .ref a_o1_standing, .int v_o1_coversBusy])), (a_o1_rows, .inl (cI, 24, .inl v_o1_rows)), (a_o1_rents, .inl (cI, 24, .inl v_o1_rents)), (a_o1_roofs, .inl (cZ, 24, .inl v_o1_roofs)), (a_o1_trades, .inl (cI, 8, .inl v_o1_trades)), (a_o1_fronts, .inl (cI, 8, .inl v_o1_fronts)), (a_o1_limits, .inl (cI, 8, .inl v_o1_limits)), (a_o1_needy, .inl (cZ, 8, .inl v_o1_needy)), (a_o1_clashes, .inl (cI, 8, .inl v_o1_clashes)), (a_o1_starts, .inl (cI, 8, .inl v_o1_starts)), (a_o1_standing, .inl (cI, 24, .inl v_o1_standing))]) E.1 hl hw mw_35 mw_36 mw_37 mw_38 20 9 0 rfl rfl rfl (by decide) (by decide) (by decide) (by decide) (by decide) (Nat.le_of_ble_eq_true rfl) (Nat.le_of_ble_eq_true rfl) (by subst e_v_2; rfl) dX2_copyFrom_178 (fun H locs hw => ?_)
      refine lv_aload_n hx hb dX2_copyFrom_181 rfl (lv_at hl 1 rfl) ?_
      refine z_get E.1 hw in_wsX20 11 rfl rfl 12 (z_lt rfl) mw_28 (v := .ref a_o1_standing) rfl dX2_copyFrom_182 ?_
      refine lv_iconst (v := 0) hx hb dX2_copyFrom_185 (by decide) ?_
      refine lv_aload_n hx hb dX2_copyFrom_186 rfl (lv_at hl 0 rfl) ?_
      refine z_get E.1 hw in_wsX20 0 rfl rfl 12 (z_lt rfl) mw_28 (v := .ref a_standing) rfl dX2_copyFrom_187 ?_
      refine lv_iconst (v := 0) hx hb dX2_copyFrom_190 (by decide) ?_
      refine lv_bipush (v := 24) hx hb dX2_copyFrom_191 (by decide) ?_
      obtain ⟨v_3, e_v_3, hf⟩ := oL_elim hf
      refine z_copyi (ws' := [(a_this, .inr (2, [.int v_pitches, .ref a_rows, .ref a_rents, .ref a_roofs, .int v_traders, .ref a_trades, .ref a_fronts, .ref a_limits, .ref a_needy, .ref a_clashes, .int v_o1_covers, .ref a_starts, .ref a_standing, .int v_coversBusy])), (a_rows, .inl (cI, 24, .inl v_rows)), (a_rents, .inl (cI, 24, .inl v_rents)), (a_roofs, .inl (cZ, 24, .inl v_roofs)), (a_trades, .inl (cI, 8, .inl v_trades)), (a_fronts, .inl (cI, 8, .inl v_fronts)), (a_limits, .inl (cI, 8, .inl v_limits)), (a_needy, .inl (cZ, 8, .inl v_needy)), (a_clashes, .inl (cI, 8, .inl v_1)), (a_starts, .inl (cI, 8, .inl v_2)), (a_standing, .inl (cI, 24, .inl v_3)), (a_o1, .inr (2, [.int v_o1_pitches, .ref a_o1_rows, .ref a_o1_rents, .ref a_o1_roofs, .int v_o1_traders, .ref a_o1_trades, .ref a_o1_fronts, .ref a_o1_limits, .ref a_o1_needy, .ref a_o1_clashes, .int v_o1_covers, .ref a_o1_starts, .ref a_o1_standing, .int v_o1_coversBusy])), (a_o1_rows, .inl (cI, 24, .inl v_o1_rows)), (a_o1_rents, .inl (cI, 24, .inl v_o1_rents)), (a_o1_roofs, .inl (cZ, 24, .inl v_o1_roofs)), (a_o1_trades, .inl (cI, 8, .inl v_o1_trades)), (a_o1_fronts, .inl (cI, 8, .inl v_o1_fronts)), (a_o1_limits, .inl (cI, 8, .inl v_o1_limits)), (a_o1_needy, .inl (cZ, 8, .inl v_o1_needy)), (a_o1_clashes, .inl (cI, 8, .inl v_o1_clashes)), (a_o1_starts, .inl (cI, 8, .inl v_o1_starts)), (a_o1_standing, .inl (cI, 24, .inl v_o1_standing))]) E.1 hl hw mw_35 mw_36 mw_37 mw_38 21 10 0 rfl rfl rfl (by decide) (by decide) (by decide) (by decide) (by decide) (Nat.le_of_ble_eq_true rfl) (Nat.le_of_ble_eq_true rfl) (by subst e_v_3; rfl) dX2_copyFrom_193 (fun H locs hw => ?_)
      refine lv_aload_n hx hb dX2_copyFrom_196 rfl (lv_at hl 0 rfl) ?_
      refine lv_aload_n hx hb dX2_copyFrom_197 rfl (lv_at hl 1 rfl) ?_
      refine z_get E.1 hw in_wsX20 11 rfl rfl 13 (z_lt rfl) mw_29 (v := .int v_o1_coversBusy) rfl dX2_copyFrom_198 ?_
      refine z_put (ws' := [(a_this, .inr (2, [.int v_pitches, .ref a_rows, .ref a_rents, .ref a_roofs, .int v_traders, .ref a_trades, .ref a_fronts, .ref a_limits, .ref a_needy, .ref a_clashes, .int v_o1_covers, .ref a_starts, .ref a_standing, .int v_o1_coversBusy])), (a_rows, .inl (cI, 24, .inl v_rows)), (a_rents, .inl (cI, 24, .inl v_rents)), (a_roofs, .inl (cZ, 24, .inl v_roofs)), (a_trades, .inl (cI, 8, .inl v_trades)), (a_fronts, .inl (cI, 8, .inl v_fronts)), (a_limits, .inl (cI, 8, .inl v_limits)), (a_needy, .inl (cZ, 8, .inl v_needy)), (a_clashes, .inl (cI, 8, .inl v_1)), (a_starts, .inl (cI, 8, .inl v_2)), (a_standing, .inl (cI, 24, .inl v_3)), (a_o1, .inr (2, [.int v_o1_pitches, .ref a_o1_rows, .ref a_o1_rents, .ref a_o1_roofs, .int v_o1_traders, .ref a_o1_trades, .ref a_o1_fronts, .ref a_o1_limits, .ref a_o1_needy, .ref a_o1_clashes, .int v_o1_covers, .ref a_o1_starts, .ref a_o1_standing, .int v_o1_coversBusy])), (a_o1_rows, .inl (cI, 24, .inl v_o1_rows)), (a_o1_rents, .inl (cI, 24, .inl v_o1_rents)), (a_o1_roofs, .inl (cZ, 24, .inl v_o1_roofs)), (a_o1_trades, .inl (cI, 8, .inl v_o1_trades)), (a_o1_fronts, .inl (cI, 8, .inl v_o1_fronts)), (a_o1_limits, .inl (cI, 8, .inl v_o1_limits)), (a_o1_needy, .inl (cZ, 8, .inl v_o1_needy)), (a_o1_clashes, .inl (cI, 8, .inl v_o1_clashes)), (a_o1_starts, .inl (cI, 8, .inl v_o1_starts)), (a_o1_standing, .inl (cI, 24, .inl v_o1_standing))]) E.1 hw in_wsX20 tyX2 tyX2_ok nmX2 0 rfl rfl 13 (z_lt rfl) mw_29 rfl rfl rfl (z_lt rfl) rfl dX2_copyFrom_201 (fun H locs hw => ?_)
      cases hf
      exact z_vret E rfl hw dX2_copyFrom_204
    · have hf := oI_neg hc hf
      refine lv_aload_n hx hb dX2_copyFrom_125 rfl (lv_at hl 0 rfl) ?_
      refine z_get E.1 hw in_wsX20 0 rfl rfl 8 (z_lt rfl) mw_24 (v := .ref a_needy) rfl dX2_copyFrom_126 ?_
      refine lv_iload_n hx hb dX2_copyFrom_129 rfl (lv_at hl 2 rfl) ?_
      refine lv_aload_n hx hb dX2_copyFrom_130 rfl (lv_at hl 1 rfl) ?_
      refine z_get E.1 hw in_wsX20 11 rfl rfl 8 (z_lt rfl) mw_24 (v := .ref a_o1_needy) rfl dX2_copyFrom_131 ?_
      refine lv_iload_n hx hb dX2_copyFrom_134 rfl (lv_at hl 2 rfl) ?_
      obtain ⟨h_4, hf⟩ := oA_elim hf
      refine z_zald E.1 hw 18 1 rfl rfl h_4 dX2_copyFrom_135 ?_
      obtain ⟨h_5, hf⟩ := oA_elim hf
      obtain ⟨v_6, e_v_6, hf⟩ := oL_elim hf
      refine z_zast (ws' := [(a_this, .inr (2, [.int v_pitches, .ref a_rows, .ref a_rents, .ref a_roofs, .int v_traders, .ref a_trades, .ref a_fronts, .ref a_limits, .ref a_needy, .ref a_clashes, .int v_covers, .ref a_starts, .ref a_standing, .int v_coversBusy])), (a_rows, .inl (cI, 24, .inl v_rows)), (a_rents, .inl (cI, 24, .inl v_rents)), (a_roofs, .inl (cZ, 24, .inl v_roofs)), (a_trades, .inl (cI, 8, .inl v_trades)), (a_fronts, .inl (cI, 8, .inl v_fronts)), (a_limits, .inl (cI, 8, .inl v_limits)), (a_needy, .inl (cZ, 8, .inl v_6)), (a_clashes, .inl (cI, 8, .inl v_clashes)), (a_starts, .inl (cI, 8, .inl v_starts)), (a_standing, .inl (cI, 24, .inl v_standing)), (a_o1, .inr (2, [.int v_o1_pitches, .ref a_o1_rows, .ref a_o1_rents, .ref a_o1_roofs, .int v_o1_traders, .ref a_o1_trades, .ref a_o1_fronts, .ref a_o1_limits, .ref a_o1_needy, .ref a_o1_clashes, .int v_o1_covers, .ref a_o1_starts, .ref a_o1_standing, .int v_o1_coversBusy])), (a_o1_rows, .inl (cI, 24, .inl v_o1_rows)), (a_o1_rents, .inl (cI, 24, .inl v_o1_rents)), (a_o1_roofs, .inl (cZ, 24, .inl v_o1_roofs)), (a_o1_trades, .inl (cI, 8, .inl v_o1_trades)), (a_o1_fronts, .inl (cI, 8, .inl v_o1_fronts)), (a_o1_limits, .inl (cI, 8, .inl v_o1_limits)), (a_o1_needy, .inl (cZ, 8, .inl v_o1_needy)), (a_o1_clashes, .inl (cI, 8, .inl v_o1_clashes)), (a_o1_starts, .inl (cI, 8, .inl v_o1_starts)), (a_o1_standing, .inl (cI, 24, .inl v_o1_standing))]) E.1 hw 7 1 rfl rfl h_5 (by subst e_v_6; rfl) dX2_copyFrom_136 (fun H locs hw => ?_)
      refine lv_iinc (v := (x2 + (1 : Int32))) (lv' := [(2, .int (x2 + (1 : Int32))), (0, .ref a_this), (1, .ref a_o1)]) hx hb dX2_copyFrom_137 hl (k := 2) rfl rfl (z_lt rfl) rfl (fun ls hl => ?_)
      refine lv_goto (tgt := 119) hx hb dX2_copyFrom_140 (by decide) ?_
      exact ih _ _ _ _ _ _ _ _ _ _ _ _ _ _ _ _ _ _ _ _ _ hf _ _ _ hw (lv_sub hl [1, 2, 0] rfl)
set_option maxHeartbeats 4000000 in
set_option maxRecDepth 100000 in
theorem w_X2_copyFrom_40 {n : Nat} {v_o1_pitches : Int32} {v_o1_rows : Nat → Int32} {v_o1_rents : Nat → Int32} (E : zE p s m args meth c cX2_copyFrom 3 none zwX2_copyFrom RX2) : ∀ (fu : Nat), ∀ (x2 : Int32) (v_pitches : Int32) (v_rows : Nat → Int32) (v_rents : Nat → Int32) (v_roofs : Nat → Int32) (v_traders : Int32) (v_trades : Nat → Int32) (v_fronts : Nat → Int32) (v_limits : Nat → Int32) (v_needy : Nat → Int32) (v_clashes : Nat → Int32) (v_covers : Int32) (v_starts : Nat → Int32) (v_standing : Nat → Int32) (v_coversBusy : Int32) (v_o1_roofs : Nat → Int32) (v_o1_traders : Int32) (v_o1_trades : Nat → Int32) (v_o1_fronts : Nat → Int32) (v_o1_limits : Nat → Int32) (v_o1_needy : Nat → Int32) (v_o1_clashes : Nat → Int32) (v_o1_covers : Int32) (v_o1_starts : Nat → Int32) (v_o1_standing : Nat → Int32) (v_o1_coversBusy : Int32), f_X2_copyFrom_40 n fu x2 v_pitches v_rows v_rents v_roofs v_traders v_trades v_fronts v_limits v_needy v_clashes v_covers v_starts v_standing v_coversBusy v_o1_roofs v_o1_traders v_o1_trades v_o1_fronts v_o1_limits v_o1_needy v_o1_clashes v_o1_covers v_o1_starts v_o1_standing v_o1_coversBusy = some (w_pitches, w_rows, w_rents, w_roofs, w_traders, w_trades, w_fronts, w_limits, w_needy, w_clashes, w_covers, w_starts, w_standing, w_coversBusy) → ∀ (H : Heap) (locs : List Loc) (ls : Array Slot), zW D (zT cI cZ cM) A s [(a_this, .inr (2, [.int v_pitches, .ref a_rows, .ref a_rents, .ref a_roofs, .int v_traders, .ref a_trades, .ref a_fronts, .ref a_limits, .ref a_needy, .ref a_clashes, .int v_covers, .ref a_starts, .ref a_standing, .int v_coversBusy])), (a_rows, .inl (cI, 24, .inl v_rows)), (a_rents, .inl (cI, 24, .inl v_rents)), (a_roofs, .inl (cZ, 24, .inl v_roofs)), (a_trades, .inl (cI, 8, .inl v_trades)), (a_fronts, .inl (cI, 8, .inl v_fronts)), (a_limits, .inl (cI, 8, .inl v_limits)), (a_needy, .inl (cZ, 8, .inl v_needy)), (a_clashes, .inl (cI, 8, .inl v_clashes)), (a_starts, .inl (cI, 8, .inl v_starts)), (a_standing, .inl (cI, 24, .inl v_standing)), (a_o1, .inr (2, [.int v_o1_pitches, .ref a_o1_rows, .ref a_o1_rents, .ref a_o1_roofs, .int v_o1_traders, .ref a_o1_trades, .ref a_o1_fronts, .ref a_o1_limits, .ref a_o1_needy, .ref a_o1_clashes, .int v_o1_covers, .ref a_o1_starts, .ref a_o1_standing, .int v_o1_coversBusy])), (a_o1_rows, .inl (cI, 24, .inl v_o1_rows)), (a_o1_rents, .inl (cI, 24, .inl v_o1_rents)), (a_o1_roofs, .inl (cZ, 24, .inl v_o1_roofs)), (a_o1_trades, .inl (cI, 8, .inl v_o1_trades)), (a_o1_fronts, .inl (cI, 8, .inl v_o1_fronts)), (a_o1_limits, .inl (cI, 8, .inl v_o1_limits)), (a_o1_needy, .inl (cZ, 8, .inl v_o1_needy)), (a_o1_clashes, .inl (cI, 8, .inl v_o1_clashes)), (a_o1_starts, .inl (cI, 8, .inl v_o1_starts)), (a_o1_standing, .inl (cI, 24, .inl v_o1_standing))] H locs → lv_has ls 3 [(0, .ref a_this), (1, .ref a_o1), (2, .int x2)] → W p l e rmX2_copyFrom s m args below meth c H locs 0 0 (MQ below (zQv D (zT cI cZ cM) [(a_this, .inr (2, [.int w_pitches, .ref a_rows, .ref a_rents, .ref a_roofs, .int w_traders, .ref a_trades, .ref a_fronts, .ref a_limits, .ref a_needy, .ref a_clashes, .int w_covers, .ref a_starts, .ref a_standing, .int w_coversBusy])), (a_rows, .inl (cI, 24, .inl w_rows)), (a_rents, .inl (cI, 24, .inl w_rents)), (a_roofs, .inl (cZ, 24, .inl w_roofs)), (a_trades, .inl (cI, 8, .inl w_trades)), (a_fronts, .inl (cI, 8, .inl w_fronts)), (a_limits, .inl (cI, 8, .inl w_limits)), (a_needy, .inl (cZ, 8, .inl w_needy)), (a_clashes, .inl (cI, 8, .inl w_clashes)), (a_starts, .inl (cI, 8, .inl w_starts)), (a_standing, .inl (cI, 24, .inl w_standing)), (a_o1, .inr (2, [.int v_o1_pitches, .ref a_o1_rows, .ref a_o1_rents, .ref a_o1_roofs, .int v_o1_traders, .ref a_o1_trades, .ref a_o1_fronts, .ref a_o1_limits, .ref a_o1_needy, .ref a_o1_clashes, .int v_o1_covers, .ref a_o1_starts, .ref a_o1_standing, .int v_o1_coversBusy])), (a_o1_rows, .inl (cI, 24, .inl v_o1_rows)), (a_o1_rents, .inl (cI, 24, .inl v_o1_rents)), (a_o1_roofs, .inl (cZ, 24, .inl v_o1_roofs)), (a_o1_trades, .inl (cI, 8, .inl v_o1_trades)), (a_o1_fronts, .inl (cI, 8, .inl v_o1_fronts)), (a_o1_limits, .inl (cI, 8, .inl v_o1_limits)), (a_o1_needy, .inl (cZ, 8, .inl v_o1_needy)), (a_o1_clashes, .inl (cI, 8, .inl v_o1_clashes)), (a_o1_starts, .inl (cI, 8, .inl v_o1_starts)), (a_o1_standing, .inl (cI, 24, .inl v_o1_standing))] A) args s 0 0 A) (F0 m 40 ls []) := by
  obtain ⟨⟨hx, hb, hml, hown, hts⟩, hr, hlocks⟩ := id E
  intro fu
  induction fu with
  | zero => intro x2 v_pitches v_rows v_rents v_roofs v_traders v_trades v_fronts v_limits v_needy v_clashes v_covers v_starts v_standing v_coversBusy v_o1_roofs v_o1_traders v_o1_trades v_o1_fronts v_o1_limits v_o1_needy v_o1_clashes v_o1_covers v_o1_starts v_o1_standing v_o1_coversBusy hf; rw [f_X2_copyFrom_40.eq_1] at hf; cases hf
  | succ fu ih =>
    intro x2 v_pitches v_rows v_rents v_roofs v_traders v_trades v_fronts v_limits v_needy v_clashes v_covers v_starts v_standing v_coversBusy v_o1_roofs v_o1_traders v_o1_trades v_o1_fronts v_o1_limits v_o1_needy v_o1_clashes v_o1_covers v_o1_starts v_o1_standing v_o1_coversBusy hf H locs ls hw hl
    rw [f_X2_copyFrom_40.eq_2] at hf
    refine lv_iload_n hx hb dX2_copyFrom_40 rfl (lv_at hl 2 rfl) ?_
    refine lv_bipush (v := 24) hx hb dX2_copyFrom_41 (by decide) ?_
    refine lv_icmp_ge (tgt := 64) hx hb dX2_copyFrom_43 (by decide) (fun hc => ?_) (fun hc => ?_)
    · have hf := oI_pos hc hf
      refine lv_aload_n hx hb dX2_copyFrom_64 rfl (lv_at hl 0 rfl) ?_
      refine lv_aload_n hx hb dX2_copyFrom_65 rfl (lv_at hl 1 rfl) ?_
      refine z_get E.1 hw in_wsX20 11 rfl rfl 4 (z_lt rfl) mw_20 (v := .int v_o1_traders) rfl dX2_copyFrom_66 ?_
      refine z_put (ws' := [(a_this, .inr (2, [.int v_pitches, .ref a_rows, .ref a_rents, .ref a_roofs, .int v_o1_traders, .ref a_trades, .ref a_fronts, .ref a_limits, .ref a_needy, .ref a_clashes, .int v_covers, .ref a_starts, .ref a_standing, .int v_coversBusy])), (a_rows, .inl (cI, 24, .inl v_rows)), (a_rents, .inl (cI, 24, .inl v_rents)), (a_roofs, .inl (cZ, 24, .inl v_roofs)), (a_trades, .inl (cI, 8, .inl v_trades)), (a_fronts, .inl (cI, 8, .inl v_fronts)), (a_limits, .inl (cI, 8, .inl v_limits)), (a_needy, .inl (cZ, 8, .inl v_needy)), (a_clashes, .inl (cI, 8, .inl v_clashes)), (a_starts, .inl (cI, 8, .inl v_starts)), (a_standing, .inl (cI, 24, .inl v_standing)), (a_o1, .inr (2, [.int v_o1_pitches, .ref a_o1_rows, .ref a_o1_rents, .ref a_o1_roofs, .int v_o1_traders, .ref a_o1_trades, .ref a_o1_fronts, .ref a_o1_limits, .ref a_o1_needy, .ref a_o1_clashes, .int v_o1_covers, .ref a_o1_starts, .ref a_o1_standing, .int v_o1_coversBusy])), (a_o1_rows, .inl (cI, 24, .inl v_o1_rows)), (a_o1_rents, .inl (cI, 24, .inl v_o1_rents)), (a_o1_roofs, .inl (cZ, 24, .inl v_o1_roofs)), (a_o1_trades, .inl (cI, 8, .inl v_o1_trades)), (a_o1_fronts, .inl (cI, 8, .inl v_o1_fronts)), (a_o1_limits, .inl (cI, 8, .inl v_o1_limits)), (a_o1_needy, .inl (cZ, 8, .inl v_o1_needy)), (a_o1_clashes, .inl (cI, 8, .inl v_o1_clashes)), (a_o1_starts, .inl (cI, 8, .inl v_o1_starts)), (a_o1_standing, .inl (cI, 24, .inl v_o1_standing))]) E.1 hw in_wsX20 tyX2 tyX2_ok nmX2 0 rfl rfl 4 (z_lt rfl) mw_20 rfl rfl rfl (z_lt rfl) rfl dX2_copyFrom_69 (fun H locs hw => ?_)
      refine lv_aload_n hx hb dX2_copyFrom_72 rfl (lv_at hl 1 rfl) ?_
      refine z_get E.1 hw in_wsX20 11 rfl rfl 5 (z_lt rfl) mw_21 (v := .ref a_o1_trades) rfl dX2_copyFrom_73 ?_
      refine lv_iconst (v := 0) hx hb dX2_copyFrom_76 (by decide) ?_
      refine lv_aload_n hx hb dX2_copyFrom_77 rfl (lv_at hl 0 rfl) ?_
      refine z_get E.1 hw in_wsX20 0 rfl rfl 5 (z_lt rfl) mw_21 (v := .ref a_trades) rfl dX2_copyFrom_78 ?_
      refine lv_iconst (v := 0) hx hb dX2_copyFrom_81 (by decide) ?_
      refine lv_bipush (v := 8) hx hb dX2_copyFrom_82 (by decide) ?_
      obtain ⟨v_7, e_v_7, hf⟩ := oL_elim hf
      refine z_copyi (ws' := [(a_this, .inr (2, [.int v_pitches, .ref a_rows, .ref a_rents, .ref a_roofs, .int v_o1_traders, .ref a_trades, .ref a_fronts, .ref a_limits, .ref a_needy, .ref a_clashes, .int v_covers, .ref a_starts, .ref a_standing, .int v_coversBusy])), (a_rows, .inl (cI, 24, .inl v_rows)), (a_rents, .inl (cI, 24, .inl v_rents)), (a_roofs, .inl (cZ, 24, .inl v_roofs)), (a_trades, .inl (cI, 8, .inl v_7)), (a_fronts, .inl (cI, 8, .inl v_fronts)), (a_limits, .inl (cI, 8, .inl v_limits)), (a_needy, .inl (cZ, 8, .inl v_needy)), (a_clashes, .inl (cI, 8, .inl v_clashes)), (a_starts, .inl (cI, 8, .inl v_starts)), (a_standing, .inl (cI, 24, .inl v_standing)), (a_o1, .inr (2, [.int v_o1_pitches, .ref a_o1_rows, .ref a_o1_rents, .ref a_o1_roofs, .int v_o1_traders, .ref a_o1_trades, .ref a_o1_fronts, .ref a_o1_limits, .ref a_o1_needy, .ref a_o1_clashes, .int v_o1_covers, .ref a_o1_starts, .ref a_o1_standing, .int v_o1_coversBusy])), (a_o1_rows, .inl (cI, 24, .inl v_o1_rows)), (a_o1_rents, .inl (cI, 24, .inl v_o1_rents)), (a_o1_roofs, .inl (cZ, 24, .inl v_o1_roofs)), (a_o1_trades, .inl (cI, 8, .inl v_o1_trades)), (a_o1_fronts, .inl (cI, 8, .inl v_o1_fronts)), (a_o1_limits, .inl (cI, 8, .inl v_o1_limits)), (a_o1_needy, .inl (cZ, 8, .inl v_o1_needy)), (a_o1_clashes, .inl (cI, 8, .inl v_o1_clashes)), (a_o1_starts, .inl (cI, 8, .inl v_o1_starts)), (a_o1_standing, .inl (cI, 24, .inl v_o1_standing))]) E.1 hl hw mw_35 mw_36 mw_37 mw_38 15 4 0 rfl rfl rfl (by decide) (by decide) (by decide) (by decide) (by decide) (Nat.le_of_ble_eq_true rfl) (Nat.le_of_ble_eq_true rfl) (by subst e_v_7; rfl) dX2_copyFrom_84 (fun H locs hw => ?_)
      refine lv_aload_n hx hb dX2_copyFrom_87 rfl (lv_at hl 1 rfl) ?_
      refine z_get E.1 hw in_wsX20 11 rfl rfl 6 (z_lt rfl) mw_22 (v := .ref a_o1_fronts) rfl dX2_copyFrom_88 ?_
      refine lv_iconst (v := 0) hx hb dX2_copyFrom_91 (by decide) ?_
      refine lv_aload_n hx hb dX2_copyFrom_92 rfl (lv_at hl 0 rfl) ?_
      refine z_get E.1 hw in_wsX20 0 rfl rfl 6 (z_lt rfl) mw_22 (v := .ref a_fronts) rfl dX2_copyFrom_93 ?_
      refine lv_iconst (v := 0) hx hb dX2_copyFrom_96 (by decide) ?_
      refine lv_bipush (v := 8) hx hb dX2_copyFrom_97 (by decide) ?_
      obtain ⟨v_8, e_v_8, hf⟩ := oL_elim hf
      refine z_copyi (ws' := [(a_this, .inr (2, [.int v_pitches, .ref a_rows, .ref a_rents, .ref a_roofs, .int v_o1_traders, .ref a_trades, .ref a_fronts, .ref a_limits, .ref a_needy, .ref a_clashes, .int v_covers, .ref a_starts, .ref a_standing, .int v_coversBusy])), (a_rows, .inl (cI, 24, .inl v_rows)), (a_rents, .inl (cI, 24, .inl v_rents)), (a_roofs, .inl (cZ, 24, .inl v_roofs)), (a_trades, .inl (cI, 8, .inl v_7)), (a_fronts, .inl (cI, 8, .inl v_8)), (a_limits, .inl (cI, 8, .inl v_limits)), (a_needy, .inl (cZ, 8, .inl v_needy)), (a_clashes, .inl (cI, 8, .inl v_clashes)), (a_starts, .inl (cI, 8, .inl v_starts)), (a_standing, .inl (cI, 24, .inl v_standing)), (a_o1, .inr (2, [.int v_o1_pitches, .ref a_o1_rows, .ref a_o1_rents, .ref a_o1_roofs, .int v_o1_traders, .ref a_o1_trades, .ref a_o1_fronts, .ref a_o1_limits, .ref a_o1_needy, .ref a_o1_clashes, .int v_o1_covers, .ref a_o1_starts, .ref a_o1_standing, .int v_o1_coversBusy])), (a_o1_rows, .inl (cI, 24, .inl v_o1_rows)), (a_o1_rents, .inl (cI, 24, .inl v_o1_rents)), (a_o1_roofs, .inl (cZ, 24, .inl v_o1_roofs)), (a_o1_trades, .inl (cI, 8, .inl v_o1_trades)), (a_o1_fronts, .inl (cI, 8, .inl v_o1_fronts)), (a_o1_limits, .inl (cI, 8, .inl v_o1_limits)), (a_o1_needy, .inl (cZ, 8, .inl v_o1_needy)), (a_o1_clashes, .inl (cI, 8, .inl v_o1_clashes)), (a_o1_starts, .inl (cI, 8, .inl v_o1_starts)), (a_o1_standing, .inl (cI, 24, .inl v_o1_standing))]) E.1 hl hw mw_35 mw_36 mw_37 mw_38 16 5 0 rfl rfl rfl (by decide) (by decide) (by decide) (by decide) (by decide) (Nat.le_of_ble_eq_true rfl) (Nat.le_of_ble_eq_true rfl) (by subst e_v_8; rfl) dX2_copyFrom_99 (fun H locs hw => ?_)
      refine lv_aload_n hx hb dX2_copyFrom_102 rfl (lv_at hl 1 rfl) ?_
      refine z_get E.1 hw in_wsX20 11 rfl rfl 7 (z_lt rfl) mw_23 (v := .ref a_o1_limits) rfl dX2_copyFrom_103 ?_
      refine lv_iconst (v := 0) hx hb dX2_copyFrom_106 (by decide) ?_
      refine lv_aload_n hx hb dX2_copyFrom_107 rfl (lv_at hl 0 rfl) ?_
      refine z_get E.1 hw in_wsX20 0 rfl rfl 7 (z_lt rfl) mw_23 (v := .ref a_limits) rfl dX2_copyFrom_108 ?_
      refine lv_iconst (v := 0) hx hb dX2_copyFrom_111 (by decide) ?_
      refine lv_bipush (v := 8) hx hb dX2_copyFrom_112 (by decide) ?_
      obtain ⟨v_9, e_v_9, hf⟩ := oL_elim hf
      refine z_copyi (ws' := [(a_this, .inr (2, [.int v_pitches, .ref a_rows, .ref a_rents, .ref a_roofs, .int v_o1_traders, .ref a_trades, .ref a_fronts, .ref a_limits, .ref a_needy, .ref a_clashes, .int v_covers, .ref a_starts, .ref a_standing, .int v_coversBusy])), (a_rows, .inl (cI, 24, .inl v_rows)), (a_rents, .inl (cI, 24, .inl v_rents)), (a_roofs, .inl (cZ, 24, .inl v_roofs)), (a_trades, .inl (cI, 8, .inl v_7)), (a_fronts, .inl (cI, 8, .inl v_8)), (a_limits, .inl (cI, 8, .inl v_9)), (a_needy, .inl (cZ, 8, .inl v_needy)), (a_clashes, .inl (cI, 8, .inl v_clashes)), (a_starts, .inl (cI, 8, .inl v_starts)), (a_standing, .inl (cI, 24, .inl v_standing)), (a_o1, .inr (2, [.int v_o1_pitches, .ref a_o1_rows, .ref a_o1_rents, .ref a_o1_roofs, .int v_o1_traders, .ref a_o1_trades, .ref a_o1_fronts, .ref a_o1_limits, .ref a_o1_needy, .ref a_o1_clashes, .int v_o1_covers, .ref a_o1_starts, .ref a_o1_standing, .int v_o1_coversBusy])), (a_o1_rows, .inl (cI, 24, .inl v_o1_rows)), (a_o1_rents, .inl (cI, 24, .inl v_o1_rents)), (a_o1_roofs, .inl (cZ, 24, .inl v_o1_roofs)), (a_o1_trades, .inl (cI, 8, .inl v_o1_trades)), (a_o1_fronts, .inl (cI, 8, .inl v_o1_fronts)), (a_o1_limits, .inl (cI, 8, .inl v_o1_limits)), (a_o1_needy, .inl (cZ, 8, .inl v_o1_needy)), (a_o1_clashes, .inl (cI, 8, .inl v_o1_clashes)), (a_o1_starts, .inl (cI, 8, .inl v_o1_starts)), (a_o1_standing, .inl (cI, 24, .inl v_o1_standing))]) E.1 hl hw mw_35 mw_36 mw_37 mw_38 17 6 0 rfl rfl rfl (by decide) (by decide) (by decide) (by decide) (by decide) (Nat.le_of_ble_eq_true rfl) (Nat.le_of_ble_eq_true rfl) (by subst e_v_9; rfl) dX2_copyFrom_114 (fun H locs hw => ?_)
      refine lv_iconst (v := 0) hx hb dX2_copyFrom_117 (by decide) ?_
      refine lv_istore_n (lv' := [(2, .int (0 : Int32)), (0, .ref a_this), (1, .ref a_o1)]) hx hb dX2_copyFrom_118 rfl hl (z_lt rfl) rfl (fun ls hl => ?_)
      exact w_X2_copyFrom_119 E  n _ _ _ _ _ _ _ _ _ _ _ _ _ _ _ _ _ _ _ _ _ hf _ _ _ hw (lv_sub hl [1, 2, 0] rfl)
    · have hf := oI_neg hc hf
      refine lv_aload_n hx hb dX2_copyFrom_46 rfl (lv_at hl 0 rfl) ?_
      refine z_get E.1 hw in_wsX20 0 rfl rfl 3 (z_lt rfl) mw_19 (v := .ref a_roofs) rfl dX2_copyFrom_47 ?_
      refine lv_iload_n hx hb dX2_copyFrom_50 rfl (lv_at hl 2 rfl) ?_
      refine lv_aload_n hx hb dX2_copyFrom_51 rfl (lv_at hl 1 rfl) ?_
      refine z_get E.1 hw in_wsX20 11 rfl rfl 3 (z_lt rfl) mw_19 (v := .ref a_o1_roofs) rfl dX2_copyFrom_52 ?_
      refine lv_iload_n hx hb dX2_copyFrom_55 rfl (lv_at hl 2 rfl) ?_
      obtain ⟨h_10, hf⟩ := oA_elim hf
      refine z_zald E.1 hw 14 1 rfl rfl h_10 dX2_copyFrom_56 ?_
      obtain ⟨h_11, hf⟩ := oA_elim hf
      obtain ⟨v_12, e_v_12, hf⟩ := oL_elim hf
      refine z_zast (ws' := [(a_this, .inr (2, [.int v_pitches, .ref a_rows, .ref a_rents, .ref a_roofs, .int v_traders, .ref a_trades, .ref a_fronts, .ref a_limits, .ref a_needy, .ref a_clashes, .int v_covers, .ref a_starts, .ref a_standing, .int v_coversBusy])), (a_rows, .inl (cI, 24, .inl v_rows)), (a_rents, .inl (cI, 24, .inl v_rents)), (a_roofs, .inl (cZ, 24, .inl v_12)), (a_trades, .inl (cI, 8, .inl v_trades)), (a_fronts, .inl (cI, 8, .inl v_fronts)), (a_limits, .inl (cI, 8, .inl v_limits)), (a_needy, .inl (cZ, 8, .inl v_needy)), (a_clashes, .inl (cI, 8, .inl v_clashes)), (a_starts, .inl (cI, 8, .inl v_starts)), (a_standing, .inl (cI, 24, .inl v_standing)), (a_o1, .inr (2, [.int v_o1_pitches, .ref a_o1_rows, .ref a_o1_rents, .ref a_o1_roofs, .int v_o1_traders, .ref a_o1_trades, .ref a_o1_fronts, .ref a_o1_limits, .ref a_o1_needy, .ref a_o1_clashes, .int v_o1_covers, .ref a_o1_starts, .ref a_o1_standing, .int v_o1_coversBusy])), (a_o1_rows, .inl (cI, 24, .inl v_o1_rows)), (a_o1_rents, .inl (cI, 24, .inl v_o1_rents)), (a_o1_roofs, .inl (cZ, 24, .inl v_o1_roofs)), (a_o1_trades, .inl (cI, 8, .inl v_o1_trades)), (a_o1_fronts, .inl (cI, 8, .inl v_o1_fronts)), (a_o1_limits, .inl (cI, 8, .inl v_o1_limits)), (a_o1_needy, .inl (cZ, 8, .inl v_o1_needy)), (a_o1_clashes, .inl (cI, 8, .inl v_o1_clashes)), (a_o1_starts, .inl (cI, 8, .inl v_o1_starts)), (a_o1_standing, .inl (cI, 24, .inl v_o1_standing))]) E.1 hw 3 1 rfl rfl h_11 (by subst e_v_12; rfl) dX2_copyFrom_57 (fun H locs hw => ?_)
      refine lv_iinc (v := (x2 + (1 : Int32))) (lv' := [(2, .int (x2 + (1 : Int32))), (0, .ref a_this), (1, .ref a_o1)]) hx hb dX2_copyFrom_58 hl (k := 2) rfl rfl (z_lt rfl) rfl (fun ls hl => ?_)
      refine lv_goto (tgt := 40) hx hb dX2_copyFrom_61 (by decide) ?_
      exact ih _ _ _ _ _ _ _ _ _ _ _ _ _ _ _ _ _ _ _ _ _ _ _ _ _ _ hf _ _ _ hw (lv_sub hl [1, 2, 0] rfl)
set_option maxHeartbeats 4000000 in
set_option maxRecDepth 100000 in
theorem c_X2_copyFrom {l : Launch} {D : va_G} {cI cZ cM : ClassId} {a_this a_rows a_rents a_roofs a_trades a_fronts a_limits a_needy a_clashes a_starts a_standing a_o1 a_o1_rows a_o1_rents a_o1_roofs a_o1_trades a_o1_fronts a_o1_limits a_o1_needy a_o1_clashes a_o1_starts a_o1_standing : Nat} {w_pitches : Int32} {w_rows : Nat → Int32} {w_rents : Nat → Int32} {w_roofs : Nat → Int32} {w_traders : Int32} {w_trades : Nat → Int32} {w_fronts : Nat → Int32} {w_limits : Nat → Int32} {w_needy : Nat → Int32} {w_clashes : Nat → Int32} {w_covers : Int32} {w_starts : Nat → Int32} {w_standing : Nat → Int32} {w_coversBusy : Int32} {sz : Nat} {n : Nat} {v_pitches : Int32} {v_rows : Nat → Int32} {v_rents : Nat → Int32} {v_roofs : Nat → Int32} {v_traders : Int32} {v_trades : Nat → Int32} {v_fronts : Nat → Int32} {v_limits : Nat → Int32} {v_needy : Nat → Int32} {v_clashes : Nat → Int32} {v_covers : Int32} {v_starts : Nat → Int32} {v_standing : Nat → Int32} {v_coversBusy : Int32} {v_o1_pitches : Int32} {v_o1_rows : Nat → Int32} {v_o1_rents : Nat → Int32} {v_o1_roofs : Nat → Int32} {v_o1_traders : Int32} {v_o1_trades : Nat → Int32} {v_o1_fronts : Nat → Int32} {v_o1_limits : Nat → Int32} {v_o1_needy : Nat → Int32} {v_o1_clashes : Nat → Int32} {v_o1_covers : Int32} {v_o1_starts : Nat → Int32} {v_o1_standing : Nat → Int32} {v_o1_coversBusy : Int32} (hf : f_X2_copyFrom n v_pitches v_rows v_rents v_roofs v_traders v_trades v_fronts v_limits v_needy v_clashes v_covers v_starts v_standing v_coversBusy v_o1_pitches v_o1_rows v_o1_rents v_o1_roofs v_o1_traders v_o1_trades v_o1_fronts v_o1_limits v_o1_needy v_o1_clashes v_o1_covers v_o1_starts v_o1_standing v_o1_coversBusy = some (w_pitches, w_rows, w_rents, w_roofs, w_traders, w_trades, w_fronts, w_limits, w_needy, w_clashes, w_covers, w_starts, w_standing, w_coversBusy)) : Met l yX2_copyFrom zwX2_copyFrom rmX2_copyFrom (zPc D (zT cI cZ cM) [.ref a_this, .ref a_o1] [(a_this, .inr (2, [.int v_pitches, .ref a_rows, .ref a_rents, .ref a_roofs, .int v_traders, .ref a_trades, .ref a_fronts, .ref a_limits, .ref a_needy, .ref a_clashes, .int v_covers, .ref a_starts, .ref a_standing, .int v_coversBusy])), (a_rows, .inl (cI, 24, .inl v_rows)), (a_rents, .inl (cI, 24, .inl v_rents)), (a_roofs, .inl (cZ, 24, .inl v_roofs)), (a_trades, .inl (cI, 8, .inl v_trades)), (a_fronts, .inl (cI, 8, .inl v_fronts)), (a_limits, .inl (cI, 8, .inl v_limits)), (a_needy, .inl (cZ, 8, .inl v_needy)), (a_clashes, .inl (cI, 8, .inl v_clashes)), (a_starts, .inl (cI, 8, .inl v_starts)), (a_standing, .inl (cI, 24, .inl v_standing)), (a_o1, .inr (2, [.int v_o1_pitches, .ref a_o1_rows, .ref a_o1_rents, .ref a_o1_roofs, .int v_o1_traders, .ref a_o1_trades, .ref a_o1_fronts, .ref a_o1_limits, .ref a_o1_needy, .ref a_o1_clashes, .int v_o1_covers, .ref a_o1_starts, .ref a_o1_standing, .int v_o1_coversBusy])), (a_o1_rows, .inl (cI, 24, .inl v_o1_rows)), (a_o1_rents, .inl (cI, 24, .inl v_o1_rents)), (a_o1_roofs, .inl (cZ, 24, .inl v_o1_roofs)), (a_o1_trades, .inl (cI, 8, .inl v_o1_trades)), (a_o1_fronts, .inl (cI, 8, .inl v_o1_fronts)), (a_o1_limits, .inl (cI, 8, .inl v_o1_limits)), (a_o1_needy, .inl (cZ, 8, .inl v_o1_needy)), (a_o1_clashes, .inl (cI, 8, .inl v_o1_clashes)), (a_o1_starts, .inl (cI, 8, .inl v_o1_starts)), (a_o1_standing, .inl (cI, 24, .inl v_o1_standing))] sz) (zQv D (zT cI cZ cM) [(a_this, .inr (2, [.int w_pitches, .ref a_rows, .ref a_rents, .ref a_roofs, .int w_traders, .ref a_trades, .ref a_fronts, .ref a_limits, .ref a_needy, .ref a_clashes, .int w_covers, .ref a_starts, .ref a_standing, .int w_coversBusy])), (a_rows, .inl (cI, 24, .inl w_rows)), (a_rents, .inl (cI, 24, .inl w_rents)), (a_roofs, .inl (cZ, 24, .inl w_roofs)), (a_trades, .inl (cI, 8, .inl w_trades)), (a_fronts, .inl (cI, 8, .inl w_fronts)), (a_limits, .inl (cI, 8, .inl w_limits)), (a_needy, .inl (cZ, 8, .inl w_needy)), (a_clashes, .inl (cI, 8, .inl w_clashes)), (a_starts, .inl (cI, 8, .inl w_starts)), (a_standing, .inl (cI, 24, .inl w_standing)), (a_o1, .inr (2, [.int v_o1_pitches, .ref a_o1_rows, .ref a_o1_rents, .ref a_o1_roofs, .int v_o1_traders, .ref a_o1_trades, .ref a_o1_fronts, .ref a_o1_limits, .ref a_o1_needy, .ref a_o1_clashes, .int v_o1_covers, .ref a_o1_starts, .ref a_o1_standing, .int v_o1_coversBusy])), (a_o1_rows, .inl (cI, 24, .inl v_o1_rows)), (a_o1_rents, .inl (cI, 24, .inl v_o1_rents)), (a_o1_roofs, .inl (cZ, 24, .inl v_o1_roofs)), (a_o1_trades, .inl (cI, 8, .inl v_o1_trades)), (a_o1_fronts, .inl (cI, 8, .inl v_o1_fronts)), (a_o1_limits, .inl (cI, 8, .inl v_o1_limits)), (a_o1_needy, .inl (cZ, 8, .inl v_o1_needy)), (a_o1_clashes, .inl (cI, 8, .inl v_o1_clashes)), (a_o1_starts, .inl (cI, 8, .inl v_o1_starts)), (a_o1_standing, .inl (cI, 24, .inl v_o1_standing))] (va_A [(a_this, .inr (2, [.int v_pitches, .ref a_rows, .ref a_rents, .ref a_roofs, .int v_traders, .ref a_trades, .ref a_fronts, .ref a_limits, .ref a_needy, .ref a_clashes, .int v_covers, .ref a_starts, .ref a_standing, .int v_coversBusy])), (a_rows, .inl (cI, 24, .inl v_rows)), (a_rents, .inl (cI, 24, .inl v_rents)), (a_roofs, .inl (cZ, 24, .inl v_roofs)), (a_trades, .inl (cI, 8, .inl v_trades)), (a_fronts, .inl (cI, 8, .inl v_fronts)), (a_limits, .inl (cI, 8, .inl v_limits)), (a_needy, .inl (cZ, 8, .inl v_needy)), (a_clashes, .inl (cI, 8, .inl v_clashes)), (a_starts, .inl (cI, 8, .inl v_starts)), (a_standing, .inl (cI, 24, .inl v_standing)), (a_o1, .inr (2, [.int v_o1_pitches, .ref a_o1_rows, .ref a_o1_rents, .ref a_o1_roofs, .int v_o1_traders, .ref a_o1_trades, .ref a_o1_fronts, .ref a_o1_limits, .ref a_o1_needy, .ref a_o1_clashes, .int v_o1_covers, .ref a_o1_starts, .ref a_o1_standing, .int v_o1_coversBusy])), (a_o1_rows, .inl (cI, 24, .inl v_o1_rows)), (a_o1_rents, .inl (cI, 24, .inl v_o1_rents)), (a_o1_roofs, .inl (cZ, 24, .inl v_o1_roofs)), (a_o1_trades, .inl (cI, 8, .inl v_o1_trades)), (a_o1_fronts, .inl (cI, 8, .inl v_o1_fronts)), (a_o1_limits, .inl (cI, 8, .inl v_o1_limits)), (a_o1_needy, .inl (cZ, 8, .inl v_o1_needy)), (a_o1_clashes, .inl (cI, 8, .inl v_o1_clashes)), (a_o1_starts, .inl (cI, 8, .inl v_o1_starts)), (a_o1_standing, .inl (cI, 24, .inl v_o1_standing))] sz)) 0 0 (va_A [(a_this, .inr (2, [.int v_pitches, .ref a_rows, .ref a_rents, .ref a_roofs, .int v_traders, .ref a_trades, .ref a_fronts, .ref a_limits, .ref a_needy, .ref a_clashes, .int v_covers, .ref a_starts, .ref a_standing, .int v_coversBusy])), (a_rows, .inl (cI, 24, .inl v_rows)), (a_rents, .inl (cI, 24, .inl v_rents)), (a_roofs, .inl (cZ, 24, .inl v_roofs)), (a_trades, .inl (cI, 8, .inl v_trades)), (a_fronts, .inl (cI, 8, .inl v_fronts)), (a_limits, .inl (cI, 8, .inl v_limits)), (a_needy, .inl (cZ, 8, .inl v_needy)), (a_clashes, .inl (cI, 8, .inl v_clashes)), (a_starts, .inl (cI, 8, .inl v_starts)), (a_standing, .inl (cI, 24, .inl v_standing)), (a_o1, .inr (2, [.int v_o1_pitches, .ref a_o1_rows, .ref a_o1_rents, .ref a_o1_roofs, .int v_o1_traders, .ref a_o1_trades, .ref a_o1_fronts, .ref a_o1_limits, .ref a_o1_needy, .ref a_o1_clashes, .int v_o1_covers, .ref a_o1_starts, .ref a_o1_standing, .int v_o1_coversBusy])), (a_o1_rows, .inl (cI, 24, .inl v_o1_rows)), (a_o1_rents, .inl (cI, 24, .inl v_o1_rents)), (a_o1_roofs, .inl (cZ, 24, .inl v_o1_roofs)), (a_o1_trades, .inl (cI, 8, .inl v_o1_trades)), (a_o1_fronts, .inl (cI, 8, .inl v_o1_fronts)), (a_o1_limits, .inl (cI, 8, .inl v_o1_limits)), (a_o1_needy, .inl (cZ, 8, .inl v_o1_needy)), (a_o1_clashes, .inl (cI, 8, .inl v_o1_clashes)), (a_o1_starts, .inl (cI, 8, .inl v_o1_starts)), (a_o1_standing, .inl (cI, 24, .inl v_o1_standing))] sz) := by
  refine z_met (cc := cX2_copyFrom) (maxL := 3) (ret := none) (by decide) rfl (Nat.le_of_ble_eq_true rfl) ?_
  intro p e s m below meth c ls E hsz hw hl
  obtain ⟨⟨hx, hb, hml, hown, hts⟩, hr, hlocks⟩ := id E
  have hl : lv_has ls 3 [(0, .ref a_this), (1, .ref a_o1)] := hl
  unfold f_X2_copyFrom at hf
  refine lv_aload_n hx hb dX2_copyFrom_0 rfl (lv_at hl 0 rfl) ?_
  refine lv_aload_n hx hb dX2_copyFrom_1 rfl (lv_at hl 1 rfl) ?_
  refine z_get E.1 hw in_wsX20 11 rfl rfl 0 (z_lt rfl) mw_14 (v := .int v_o1_pitches) rfl dX2_copyFrom_2 ?_
  refine z_put (ws' := [(a_this, .inr (2, [.int v_o1_pitches, .ref a_rows, .ref a_rents, .ref a_roofs, .int v_traders, .ref a_trades, .ref a_fronts, .ref a_limits, .ref a_needy, .ref a_clashes, .int v_covers, .ref a_starts, .ref a_standing, .int v_coversBusy])), (a_rows, .inl (cI, 24, .inl v_rows)), (a_rents, .inl (cI, 24, .inl v_rents)), (a_roofs, .inl (cZ, 24, .inl v_roofs)), (a_trades, .inl (cI, 8, .inl v_trades)), (a_fronts, .inl (cI, 8, .inl v_fronts)), (a_limits, .inl (cI, 8, .inl v_limits)), (a_needy, .inl (cZ, 8, .inl v_needy)), (a_clashes, .inl (cI, 8, .inl v_clashes)), (a_starts, .inl (cI, 8, .inl v_starts)), (a_standing, .inl (cI, 24, .inl v_standing)), (a_o1, .inr (2, [.int v_o1_pitches, .ref a_o1_rows, .ref a_o1_rents, .ref a_o1_roofs, .int v_o1_traders, .ref a_o1_trades, .ref a_o1_fronts, .ref a_o1_limits, .ref a_o1_needy, .ref a_o1_clashes, .int v_o1_covers, .ref a_o1_starts, .ref a_o1_standing, .int v_o1_coversBusy])), (a_o1_rows, .inl (cI, 24, .inl v_o1_rows)), (a_o1_rents, .inl (cI, 24, .inl v_o1_rents)), (a_o1_roofs, .inl (cZ, 24, .inl v_o1_roofs)), (a_o1_trades, .inl (cI, 8, .inl v_o1_trades)), (a_o1_fronts, .inl (cI, 8, .inl v_o1_fronts)), (a_o1_limits, .inl (cI, 8, .inl v_o1_limits)), (a_o1_needy, .inl (cZ, 8, .inl v_o1_needy)), (a_o1_clashes, .inl (cI, 8, .inl v_o1_clashes)), (a_o1_starts, .inl (cI, 8, .inl v_o1_starts)), (a_o1_standing, .inl (cI, 24, .inl v_o1_standing))]) E.1 hw in_wsX20 tyX2 tyX2_ok nmX2 0 rfl rfl 0 (z_lt rfl) mw_14 rfl rfl rfl (z_lt rfl) rfl dX2_copyFrom_5 (fun H locs hw => ?_)
  refine lv_aload_n hx hb dX2_copyFrom_8 rfl (lv_at hl 1 rfl) ?_
  refine z_get E.1 hw in_wsX20 11 rfl rfl 1 (z_lt rfl) mw_16 (v := .ref a_o1_rows) rfl dX2_copyFrom_9 ?_
  refine lv_iconst (v := 0) hx hb dX2_copyFrom_12 (by decide) ?_
  refine lv_aload_n hx hb dX2_copyFrom_13 rfl (lv_at hl 0 rfl) ?_
  refine z_get E.1 hw in_wsX20 0 rfl rfl 1 (z_lt rfl) mw_16 (v := .ref a_rows) rfl dX2_copyFrom_14 ?_
  refine lv_iconst (v := 0) hx hb dX2_copyFrom_17 (by decide) ?_
  refine lv_bipush (v := 24) hx hb dX2_copyFrom_18 (by decide) ?_
  obtain ⟨v_13, e_v_13, hf⟩ := oL_elim hf
  refine z_copyi (ws' := [(a_this, .inr (2, [.int v_o1_pitches, .ref a_rows, .ref a_rents, .ref a_roofs, .int v_traders, .ref a_trades, .ref a_fronts, .ref a_limits, .ref a_needy, .ref a_clashes, .int v_covers, .ref a_starts, .ref a_standing, .int v_coversBusy])), (a_rows, .inl (cI, 24, .inl v_13)), (a_rents, .inl (cI, 24, .inl v_rents)), (a_roofs, .inl (cZ, 24, .inl v_roofs)), (a_trades, .inl (cI, 8, .inl v_trades)), (a_fronts, .inl (cI, 8, .inl v_fronts)), (a_limits, .inl (cI, 8, .inl v_limits)), (a_needy, .inl (cZ, 8, .inl v_needy)), (a_clashes, .inl (cI, 8, .inl v_clashes)), (a_starts, .inl (cI, 8, .inl v_starts)), (a_standing, .inl (cI, 24, .inl v_standing)), (a_o1, .inr (2, [.int v_o1_pitches, .ref a_o1_rows, .ref a_o1_rents, .ref a_o1_roofs, .int v_o1_traders, .ref a_o1_trades, .ref a_o1_fronts, .ref a_o1_limits, .ref a_o1_needy, .ref a_o1_clashes, .int v_o1_covers, .ref a_o1_starts, .ref a_o1_standing, .int v_o1_coversBusy])), (a_o1_rows, .inl (cI, 24, .inl v_o1_rows)), (a_o1_rents, .inl (cI, 24, .inl v_o1_rents)), (a_o1_roofs, .inl (cZ, 24, .inl v_o1_roofs)), (a_o1_trades, .inl (cI, 8, .inl v_o1_trades)), (a_o1_fronts, .inl (cI, 8, .inl v_o1_fronts)), (a_o1_limits, .inl (cI, 8, .inl v_o1_limits)), (a_o1_needy, .inl (cZ, 8, .inl v_o1_needy)), (a_o1_clashes, .inl (cI, 8, .inl v_o1_clashes)), (a_o1_starts, .inl (cI, 8, .inl v_o1_starts)), (a_o1_standing, .inl (cI, 24, .inl v_o1_standing))]) E.1 hl hw mw_35 mw_36 mw_37 mw_38 12 1 0 rfl rfl rfl (by decide) (by decide) (by decide) (by decide) (by decide) (Nat.le_of_ble_eq_true rfl) (Nat.le_of_ble_eq_true rfl) (by subst e_v_13; rfl) dX2_copyFrom_20 (fun H locs hw => ?_)
  refine lv_aload_n hx hb dX2_copyFrom_23 rfl (lv_at hl 1 rfl) ?_
  refine z_get E.1 hw in_wsX20 11 rfl rfl 2 (z_lt rfl) mw_17 (v := .ref a_o1_rents) rfl dX2_copyFrom_24 ?_
  refine lv_iconst (v := 0) hx hb dX2_copyFrom_27 (by decide) ?_
  refine lv_aload_n hx hb dX2_copyFrom_28 rfl (lv_at hl 0 rfl) ?_
  refine z_get E.1 hw in_wsX20 0 rfl rfl 2 (z_lt rfl) mw_17 (v := .ref a_rents) rfl dX2_copyFrom_29 ?_
  refine lv_iconst (v := 0) hx hb dX2_copyFrom_32 (by decide) ?_
  refine lv_bipush (v := 24) hx hb dX2_copyFrom_33 (by decide) ?_
  obtain ⟨v_14, e_v_14, hf⟩ := oL_elim hf
  refine z_copyi (ws' := [(a_this, .inr (2, [.int v_o1_pitches, .ref a_rows, .ref a_rents, .ref a_roofs, .int v_traders, .ref a_trades, .ref a_fronts, .ref a_limits, .ref a_needy, .ref a_clashes, .int v_covers, .ref a_starts, .ref a_standing, .int v_coversBusy])), (a_rows, .inl (cI, 24, .inl v_13)), (a_rents, .inl (cI, 24, .inl v_14)), (a_roofs, .inl (cZ, 24, .inl v_roofs)), (a_trades, .inl (cI, 8, .inl v_trades)), (a_fronts, .inl (cI, 8, .inl v_fronts)), (a_limits, .inl (cI, 8, .inl v_limits)), (a_needy, .inl (cZ, 8, .inl v_needy)), (a_clashes, .inl (cI, 8, .inl v_clashes)), (a_starts, .inl (cI, 8, .inl v_starts)), (a_standing, .inl (cI, 24, .inl v_standing)), (a_o1, .inr (2, [.int v_o1_pitches, .ref a_o1_rows, .ref a_o1_rents, .ref a_o1_roofs, .int v_o1_traders, .ref a_o1_trades, .ref a_o1_fronts, .ref a_o1_limits, .ref a_o1_needy, .ref a_o1_clashes, .int v_o1_covers, .ref a_o1_starts, .ref a_o1_standing, .int v_o1_coversBusy])), (a_o1_rows, .inl (cI, 24, .inl v_o1_rows)), (a_o1_rents, .inl (cI, 24, .inl v_o1_rents)), (a_o1_roofs, .inl (cZ, 24, .inl v_o1_roofs)), (a_o1_trades, .inl (cI, 8, .inl v_o1_trades)), (a_o1_fronts, .inl (cI, 8, .inl v_o1_fronts)), (a_o1_limits, .inl (cI, 8, .inl v_o1_limits)), (a_o1_needy, .inl (cZ, 8, .inl v_o1_needy)), (a_o1_clashes, .inl (cI, 8, .inl v_o1_clashes)), (a_o1_starts, .inl (cI, 8, .inl v_o1_starts)), (a_o1_standing, .inl (cI, 24, .inl v_o1_standing))]) E.1 hl hw mw_35 mw_36 mw_37 mw_38 13 2 0 rfl rfl rfl (by decide) (by decide) (by decide) (by decide) (by decide) (Nat.le_of_ble_eq_true rfl) (Nat.le_of_ble_eq_true rfl) (by subst e_v_14; rfl) dX2_copyFrom_35 (fun H locs hw => ?_)
  refine lv_iconst (v := 0) hx hb dX2_copyFrom_38 (by decide) ?_
  refine lv_istore_n (lv' := [(2, .int (0 : Int32)), (0, .ref a_this), (1, .ref a_o1)]) hx hb dX2_copyFrom_39 rfl hl (z_lt rfl) rfl (fun ls hl => ?_)
  exact w_X2_copyFrom_40 E  n _ _ _ _ _ _ _ _ _ _ _ _ _ _ _ _ _ _ _ _ _ _ _ _ _ _ hf _ _ _ hw (lv_sub hl [1, 2, 0] rfl)
end
/-! X2_comesBefore -/
section
variable {p : Program} {l : Launch} {e : Env} {s : State} {m : MethodId} {args : Array Value} {below : List Frame} {meth : Method} {c : Code} {D : va_G} {A : Nat → Prop} {cI cZ cM : ClassId} {a_this a_rows a_rents a_roofs a_trades a_fronts a_limits a_needy a_clashes a_starts a_standing a_o1 a_o1_rows a_o1_rents a_o1_roofs a_o1_trades a_o1_fronts a_o1_limits a_o1_needy a_o1_clashes a_o1_starts a_o1_standing : Nat} {v_traders : Int32} {v_covers : Int32} {v_coversBusy : Int32} {v_o1_pitches : Int32} {v_o1_traders : Int32} {v_o1_covers : Int32} {v_o1_coversBusy : Int32} {r0 : Int32}
def rmX2_comesBefore : Room := { frames := 0, cells := 0, slots := 0, locals := 0 }
abbrev zwX2_comesBefore : List Cond := Cond.code yX2_comesBefore cX2_comesBefore 5 (some .boolean) :: wsAll
set_option maxHeartbeats 4000000 in
set_option maxRecDepth 100000 in
theorem w_X2_comesBefore_48 {n : Nat} {v_pitches : Int32} {v_standing : Nat → Int32} {v_o1_standing : Nat → Int32} (E : zE p s m args meth c cX2_comesBefore 5 (some .boolean) zwX2_comesBefore RX2) : f_X2_comesBefore_48 n = some r0 → ∀ (H : Heap) (locs : List Loc) (ls : Array Slot), zW D (zT cI cZ cM) A s [(a_this, .inr (2, [.int v_pitches, .ref a_rows, .ref a_rents, .ref a_roofs, .int v_traders, .ref a_trades, .ref a_fronts, .ref a_limits, .ref a_needy, .ref a_clashes, .int v_covers, .ref a_starts, .ref a_standing, .int v_coversBusy])), (a_standing, .inl (cI, 24, .inl v_standing)), (a_o1, .inr (2, [.int v_o1_pitches, .ref a_o1_rows, .ref a_o1_rents, .ref a_o1_roofs, .int v_o1_traders, .ref a_o1_trades, .ref a_o1_fronts, .ref a_o1_limits, .ref a_o1_needy, .ref a_o1_clashes, .int v_o1_covers, .ref a_o1_starts, .ref a_o1_standing, .int v_o1_coversBusy])), (a_o1_standing, .inl (cI, 24, .inl v_o1_standing))] H locs → lv_has ls 5 [] → W p l e rmX2_comesBefore s m args below meth c H locs 0 0 (MQ below (zQi D (zT cI cZ cM) r0 [(a_this, .inr (2, [.int v_pitches, .ref a_rows, .ref a_rents, .ref a_roofs, .int v_traders, .ref a_trades, .ref a_fronts, .ref a_limits, .ref a_needy, .ref a_clashes, .int v_covers, .ref a_starts, .ref a_standing, .int v_coversBusy])), (a_standing, .inl (cI, 24, .inl v_standing)), (a_o1, .inr (2, [.int v_o1_pitches, .ref a_o1_rows, .ref a_o1_rents, .ref a_o1_roofs, .int v_o1_traders, .ref a_o1_trades, .ref a_o1_fronts, .ref a_o1_limits, .ref a_o1_needy, .ref a_o1_clashes, .int v_o1_covers, .ref a_o1_starts, .ref a_o1_standing, .int v_o1_coversBusy])), (a_o1_standing, .inl (cI, 24, .inl v_o1_standing))] A) args s 0 0 A) (F0 m 48 ls []) := by
  obtain ⟨⟨hx, hb, hml, hown, hts⟩, hr, hlocks⟩ := id E
  intro  hf H locs ls hw hl
  unfold f_X2_comesBefore_48 at hf
  refine lv_iconst (v := 1) hx hb dX2_comesBefore_48 (by decide) ?_
  refine lv_goto (tgt := 53) hx hb dX2_comesBefore_49 (by decide) ?_
  cases hf
  exact z_zret E rfl rfl hw dX2_comesBefore_53
set_option maxHeartbeats 4000000 in
set_option maxRecDepth 100000 in
theorem w_X2_comesBefore_2 {n : Nat} (E : zE p s m args meth c cX2_comesBefore 5 (some .boolean) zwX2_comesBefore RX2) : ∀ (fu : Nat), ∀ (x2 : Int32) (v_pitches : Int32) (v_standing : Nat → Int32) (v_o1_standing : Nat → Int32), f_X2_comesBefore_2 n fu x2 v_pitches v_standing v_o1_standing = some r0 → ∀ (H : Heap) (locs : List Loc) (ls : Array Slot), zW D (zT cI cZ cM) A s [(a_this, .inr (2, [.int v_pitches, .ref a_rows, .ref a_rents, .ref a_roofs, .int v_traders, .ref a_trades, .ref a_fronts, .ref a_limits, .ref a_needy, .ref a_clashes, .int v_covers, .ref a_starts, .ref a_standing, .int v_coversBusy])), (a_standing, .inl (cI, 24, .inl v_standing)), (a_o1, .inr (2, [.int v_o1_pitches, .ref a_o1_rows, .ref a_o1_rents, .ref a_o1_roofs, .int v_o1_traders, .ref a_o1_trades, .ref a_o1_fronts, .ref a_o1_limits, .ref a_o1_needy, .ref a_o1_clashes, .int v_o1_covers, .ref a_o1_starts, .ref a_o1_standing, .int v_o1_coversBusy])), (a_o1_standing, .inl (cI, 24, .inl v_o1_standing))] H locs → lv_has ls 5 [(0, .ref a_this), (1, .ref a_o1), (2, .int x2)] → W p l e rmX2_comesBefore s m args below meth c H locs 0 0 (MQ below (zQi D (zT cI cZ cM) r0 [(a_this, .inr (2, [.int v_pitches, .ref a_rows, .ref a_rents, .ref a_roofs, .int v_traders, .ref a_trades, .ref a_fronts, .ref a_limits, .ref a_needy, .ref a_clashes, .int v_covers, .ref a_starts, .ref a_standing, .int v_coversBusy])), (a_standing, .inl (cI, 24, .inl v_standing)), (a_o1, .inr (2, [.int v_o1_pitches, .ref a_o1_rows, .ref a_o1_rents, .ref a_o1_roofs, .int v_o1_traders, .ref a_o1_trades, .ref a_o1_fronts, .ref a_o1_limits, .ref a_o1_needy, .ref a_o1_clashes, .int v_o1_covers, .ref a_o1_starts, .ref a_o1_standing, .int v_o1_coversBusy])), (a_o1_standing, .inl (cI, 24, .inl v_o1_standing))] A) args s 0 0 A) (F0 m 2 ls []) := by
  obtain ⟨⟨hx, hb, hml, hown, hts⟩, hr, hlocks⟩ := id E
  intro fu
  induction fu with
  | zero => intro x2 v_pitches v_standing v_o1_standing hf; rw [f_X2_comesBefore_2.eq_1] at hf; cases hf
  | succ fu ih =>
    intro x2 v_pitches v_standing v_o1_standing hf H locs ls hw hl
    rw [f_X2_comesBefore_2.eq_2] at hf
    refine lv_iload_n hx hb dX2_comesBefore_2 rfl (lv_at hl 2 rfl) ?_
    refine lv_aload_n hx hb dX2_comesBefore_3 rfl (lv_at hl 0 rfl) ?_
    refine z_get E.1 hw in_wsX20 0 rfl rfl 0 (z_lt rfl) mw_14 (v := .int v_pitches) rfl dX2_comesBefore_4 ?_
    refine lv_icmp_ge (tgt := 60) hx hb dX2_comesBefore_7 (by decide) (fun hc => ?_) (fun hc => ?_)
    · have hf := oI_pos hc hf
      refine lv_iconst (v := 0) hx hb dX2_comesBefore_60 (by decide) ?_
      cases hf
      exact z_zret E rfl rfl hw dX2_comesBefore_61
    · have hf := oI_neg hc hf
      refine lv_aload_n hx hb dX2_comesBefore_10 rfl (lv_at hl 0 rfl) ?_
      refine z_get E.1 hw in_wsX20 0 rfl rfl 12 (z_lt rfl) mw_28 (v := .ref a_standing) rfl dX2_comesBefore_11 ?_
      refine lv_iload_n hx hb dX2_comesBefore_14 rfl (lv_at hl 2 rfl) ?_
      obtain ⟨h_1, hf⟩ := oA_elim hf
      refine z_iald E.1 hw 1 0 rfl rfl h_1 dX2_comesBefore_15 ?_
      obtain ⟨y_2, e_y_2, hf⟩ := oL_elim hf
      refine z_top e_y_2 ?_
      refine lv_istore_n (lv' := [(3, .int y_2), (0, .ref a_this), (1, .ref a_o1), (2, .int x2)]) hx hb dX2_comesBefore_16 rfl hl (z_lt rfl) rfl (fun ls hl => ?_)
      refine lv_aload_n hx hb dX2_comesBefore_17 rfl (lv_at hl 2 rfl) ?_
      refine z_get E.1 hw in_wsX20 2 rfl rfl 12 (z_lt rfl) mw_28 (v := .ref a_o1_standing) rfl dX2_comesBefore_18 ?_
      refine lv_iload_n hx hb dX2_comesBefore_21 rfl (lv_at hl 3 rfl) ?_
      obtain ⟨h_3, hf⟩ := oA_elim hf
      refine z_iald E.1 hw 3 0 rfl rfl h_3 dX2_comesBefore_22 ?_
      obtain ⟨y_4, e_y_4, hf⟩ := oL_elim hf
      refine z_top e_y_4 ?_
      refine lv_istore (lv' := [(4, .int y_4), (3, .int y_2), (0, .ref a_this), (1, .ref a_o1), (2, .int x2)]) hx hb dX2_comesBefore_23 hl (z_lt rfl) rfl (fun ls hl => ?_)
      refine lv_iload_n hx hb dX2_comesBefore_25 rfl (lv_at hl 1 rfl) ?_
      refine lv_iload hx hb dX2_comesBefore_26 (lv_at hl 0 rfl) ?_
      refine lv_icmp_eq (tgt := 54) hx hb dX2_comesBefore_28 (by decide) (fun hc => ?_) (fun hc => ?_)
      · have hf := oI_pos hc hf
        refine lv_iinc (v := (x2 + (1 : Int32))) (lv' := [(2, .int (x2 + (1 : Int32))), (4, .int y_4), (3, .int y_2), (0, .ref a_this), (1, .ref a_o1)]) hx hb dX2_comesBefore_54 hl (k := 4) rfl rfl (z_lt rfl) rfl (fun ls hl => ?_)
        refine lv_goto (tgt := 2) hx hb dX2_comesBefore_57 (by decide) ?_
        exact ih _ _ _ _ hf _ _ _ hw (lv_sub hl [3, 4, 0] rfl)
      · have hf := oI_neg hc hf
        refine lv_iload hx hb dX2_comesBefore_31 (lv_at hl 0 rfl) ?_
        refine lv_iconst (v := -1) hx hb dX2_comesBefore_33 (by decide) ?_
        refine lv_icmp_eq (tgt := 48) hx hb dX2_comesBefore_34 (by decide) (fun hc => ?_) (fun hc => ?_)
        · have hf := oI_pos hc hf
          exact w_X2_comesBefore_48 E   hf _ _ _ hw (lv_sub hl [] rfl)
        · have hf := oI_neg hc hf
          refine lv_iload_n hx hb dX2_comesBefore_37 rfl (lv_at hl 1 rfl) ?_
          refine lv_iconst (v := -1) hx hb dX2_comesBefore_38 (by decide) ?_
          refine lv_icmp_eq (tgt := 52) hx hb dX2_comesBefore_39 (by decide) (fun hc => ?_) (fun hc => ?_)
          · have hf := oI_pos hc hf
            refine lv_iconst (v := 0) hx hb dX2_comesBefore_52 (by decide) ?_
            cases hf
            exact z_zret E rfl rfl hw dX2_comesBefore_53
          · have hf := oI_neg hc hf
            refine lv_iload_n hx hb dX2_comesBefore_42 rfl (lv_at hl 1 rfl) ?_
            refine lv_iload hx hb dX2_comesBefore_43 (lv_at hl 0 rfl) ?_
            refine lv_icmp_ge (tgt := 52) hx hb dX2_comesBefore_45 (by decide) (fun hc => ?_) (fun hc => ?_)
            · have hf := oI_pos hc hf
              refine lv_iconst (v := 0) hx hb dX2_comesBefore_52 (by decide) ?_
              cases hf
              exact z_zret E rfl rfl hw dX2_comesBefore_53
            · have hf := oI_neg hc hf
              exact w_X2_comesBefore_48 E   hf _ _ _ hw (lv_sub hl [] rfl)
set_option maxHeartbeats 4000000 in
set_option maxRecDepth 100000 in
theorem c_X2_comesBefore {l : Launch} {D : va_G} {cI cZ cM : ClassId} {a_this a_rows a_rents a_roofs a_trades a_fronts a_limits a_needy a_clashes a_starts a_standing a_o1 a_o1_rows a_o1_rents a_o1_roofs a_o1_trades a_o1_fronts a_o1_limits a_o1_needy a_o1_clashes a_o1_starts a_o1_standing : Nat} {v_traders : Int32} {v_covers : Int32} {v_coversBusy : Int32} {v_o1_pitches : Int32} {v_o1_traders : Int32} {v_o1_covers : Int32} {v_o1_coversBusy : Int32} {r0 : Int32} {sz : Nat} {n : Nat} {v_pitches : Int32} {v_standing : Nat → Int32} {v_o1_standing : Nat → Int32} (hf : f_X2_comesBefore n v_pitches v_standing v_o1_standing = some r0) : Met l yX2_comesBefore zwX2_comesBefore rmX2_comesBefore (zPc D (zT cI cZ cM) [.ref a_this, .ref a_o1] [(a_this, .inr (2, [.int v_pitches, .ref a_rows, .ref a_rents, .ref a_roofs, .int v_traders, .ref a_trades, .ref a_fronts, .ref a_limits, .ref a_needy, .ref a_clashes, .int v_covers, .ref a_starts, .ref a_standing, .int v_coversBusy])), (a_standing, .inl (cI, 24, .inl v_standing)), (a_o1, .inr (2, [.int v_o1_pitches, .ref a_o1_rows, .ref a_o1_rents, .ref a_o1_roofs, .int v_o1_traders, .ref a_o1_trades, .ref a_o1_fronts, .ref a_o1_limits, .ref a_o1_needy, .ref a_o1_clashes, .int v_o1_covers, .ref a_o1_starts, .ref a_o1_standing, .int v_o1_coversBusy])), (a_o1_standing, .inl (cI, 24, .inl v_o1_standing))] sz) (zQi D (zT cI cZ cM) r0 [(a_this, .inr (2, [.int v_pitches, .ref a_rows, .ref a_rents, .ref a_roofs, .int v_traders, .ref a_trades, .ref a_fronts, .ref a_limits, .ref a_needy, .ref a_clashes, .int v_covers, .ref a_starts, .ref a_standing, .int v_coversBusy])), (a_standing, .inl (cI, 24, .inl v_standing)), (a_o1, .inr (2, [.int v_o1_pitches, .ref a_o1_rows, .ref a_o1_rents, .ref a_o1_roofs, .int v_o1_traders, .ref a_o1_trades, .ref a_o1_fronts, .ref a_o1_limits, .ref a_o1_needy, .ref a_o1_clashes, .int v_o1_covers, .ref a_o1_starts, .ref a_o1_standing, .int v_o1_coversBusy])), (a_o1_standing, .inl (cI, 24, .inl v_o1_standing))] (va_A [(a_this, .inr (2, [.int v_pitches, .ref a_rows, .ref a_rents, .ref a_roofs, .int v_traders, .ref a_trades, .ref a_fronts, .ref a_limits, .ref a_needy, .ref a_clashes, .int v_covers, .ref a_starts, .ref a_standing, .int v_coversBusy])), (a_standing, .inl (cI, 24, .inl v_standing)), (a_o1, .inr (2, [.int v_o1_pitches, .ref a_o1_rows, .ref a_o1_rents, .ref a_o1_roofs, .int v_o1_traders, .ref a_o1_trades, .ref a_o1_fronts, .ref a_o1_limits, .ref a_o1_needy, .ref a_o1_clashes, .int v_o1_covers, .ref a_o1_starts, .ref a_o1_standing, .int v_o1_coversBusy])), (a_o1_standing, .inl (cI, 24, .inl v_o1_standing))] sz)) 0 0 (va_A [(a_this, .inr (2, [.int v_pitches, .ref a_rows, .ref a_rents, .ref a_roofs, .int v_traders, .ref a_trades, .ref a_fronts, .ref a_limits, .ref a_needy, .ref a_clashes, .int v_covers, .ref a_starts, .ref a_standing, .int v_coversBusy])), (a_standing, .inl (cI, 24, .inl v_standing)), (a_o1, .inr (2, [.int v_o1_pitches, .ref a_o1_rows, .ref a_o1_rents, .ref a_o1_roofs, .int v_o1_traders, .ref a_o1_trades, .ref a_o1_fronts, .ref a_o1_limits, .ref a_o1_needy, .ref a_o1_clashes, .int v_o1_covers, .ref a_o1_starts, .ref a_o1_standing, .int v_o1_coversBusy])), (a_o1_standing, .inl (cI, 24, .inl v_o1_standing))] sz) := by
  refine z_met (cc := cX2_comesBefore) (maxL := 5) (ret := (some .boolean)) (by decide) rfl (Nat.le_of_ble_eq_true rfl) ?_
  intro p e s m below meth c ls E hsz hw hl
  obtain ⟨⟨hx, hb, hml, hown, hts⟩, hr, hlocks⟩ := id E
  have hl : lv_has ls 5 [(0, .ref a_this), (1, .ref a_o1)] := hl
  unfold f_X2_comesBefore at hf
  refine lv_iconst (v := 0) hx hb dX2_comesBefore_0 (by decide) ?_
  refine lv_istore_n (lv' := [(2, .int (0 : Int32)), (0, .ref a_this), (1, .ref a_o1)]) hx hb dX2_comesBefore_1 rfl hl (z_lt rfl) rfl (fun ls hl => ?_)
  exact w_X2_comesBefore_2 E  n _ _ _ _ hf _ _ _ hw (lv_sub hl [1, 2, 0] rfl)
end
/-! X1_consider -/
section
variable {p : Program} {l : Launch} {e : Env} {s : State} {m : MethodId} {args : Array Value} {below : List Frame} {meth : Method} {c : Code} {D : va_G} {A : Nat → Prop} {cI cZ cM : ClassId} {a_this a_street a_found a_oldStarts a_walkers a_hopes a_street_rows a_street_rents a_street_roofs a_street_trades a_street_fronts a_street_limits a_street_needy a_street_clashes a_street_starts a_street_standing a_found_rows a_found_rents a_found_roofs a_found_trades a_found_fronts a_found_limits a_found_needy a_found_clashes a_found_starts a_found_standing : Nat} {w_found_pitches : Int32} {w_found_rows : Nat → Int32} {w_found_rents : Nat → Int32} {w_found_roofs : Nat → Int32} {w_found_traders : Int32} {w_found_trades : Nat → Int32} {w_found_fronts : Nat → Int32} {w_found_limits : Nat → Int32} {w_found_needy : Nat → Int32} {w_found_clashes : Nat → Int32} {w_found_covers : Int32} {w_found_starts : Nat → Int32} {w_found_standing : Nat → Int32} {w_found_coversBusy : Int32} {w_mostIncome : Int32} {w_fewestMoved : Int32}
def rmX1_consider : Room := { frames := 2, cells := 0, slots := 0, locals := 70 }
abbrev zwX1_consider : List Cond := Cond.code yX1_consider cX1_consider 3 none :: wsAll
set_option maxHeartbeats 4000000 in
set_option maxRecDepth 100000 in
theorem w_X1_consider_46 {n : Nat} (E : zE p s m args meth c cX1_consider 3 none zwX1_consider RX1) : ∀ (x1 : Int32) (x2 : Int32) (v_street_pitches : Int32) (v_street_rows : Nat → Int32) (v_street_rents : Nat → Int32) (v_street_roofs : Nat → Int32) (v_street_traders : Int32) (v_street_trades : Nat → Int32) (v_street_fronts : Nat → Int32) (v_street_limits : Nat → Int32) (v_street_needy : Nat → Int32) (v_street_clashes : Nat → Int32) (v_street_covers : Int32) (v_street_starts : Nat → Int32) (v_street_standing : Nat → Int32) (v_street_coversBusy : Int32) (v_found_pitches : Int32) (v_found_rows : Nat → Int32) (v_found_rents : Nat → Int32) (v_found_roofs : Nat → Int32) (v_found_traders : Int32) (v_found_trades : Nat → Int32) (v_found_fronts : Nat → Int32) (v_found_limits : Nat → Int32) (v_found_needy : Nat → Int32) (v_found_clashes : Nat → Int32) (v_found_covers : Int32) (v_found_starts : Nat → Int32) (v_found_standing : Nat → Int32) (v_found_coversBusy : Int32) (v_mostIncome : Int32) (v_fewestMoved : Int32), f_X1_consider_46 n x1 x2 v_street_pitches v_street_rows v_street_rents v_street_roofs v_street_traders v_street_trades v_street_fronts v_street_limits v_street_needy v_street_clashes v_street_covers v_street_starts v_street_standing v_street_coversBusy v_found_pitches v_found_rows v_found_rents v_found_roofs v_found_traders v_found_trades v_found_fronts v_found_limits v_found_needy v_found_clashes v_found_covers v_found_starts v_found_standing v_found_coversBusy v_mostIncome v_fewestMoved = some (w_found_pitches, w_found_rows, w_found_rents, w_found_roofs, w_found_traders, w_found_trades, w_found_fronts, w_found_limits, w_found_needy, w_found_clashes, w_found_covers, w_found_starts, w_found_standing, w_found_coversBusy, w_mostIncome, w_fewestMoved) → ∀ (H : Heap) (locs : List Loc) (ls : Array Slot), zW D (zT cI cZ cM) A s [(a_this, .inr (1, [.ref a_street, .ref a_found, .int v_mostIncome, .int v_fewestMoved, .ref a_oldStarts, .ref a_walkers, .ref a_hopes])), (a_street, .inr (2, [.int v_street_pitches, .ref a_street_rows, .ref a_street_rents, .ref a_street_roofs, .int v_street_traders, .ref a_street_trades, .ref a_street_fronts, .ref a_street_limits, .ref a_street_needy, .ref a_street_clashes, .int v_street_covers, .ref a_street_starts, .ref a_street_standing, .int v_street_coversBusy])), (a_street_rows, .inl (cI, 24, .inl v_street_rows)), (a_street_rents, .inl (cI, 24, .inl v_street_rents)), (a_street_roofs, .inl (cZ, 24, .inl v_street_roofs)), (a_street_trades, .inl (cI, 8, .inl v_street_trades)), (a_street_fronts, .inl (cI, 8, .inl v_street_fronts)), (a_street_limits, .inl (cI, 8, .inl v_street_limits)), (a_street_needy, .inl (cZ, 8, .inl v_street_needy)), (a_street_clashes, .inl (cI, 8, .inl v_street_clashes)), (a_street_starts, .inl (cI, 8, .inl v_street_starts)), (a_street_standing, .inl (cI, 24, .inl v_street_standing)), (a_found, .inr (2, [.int v_found_pitches, .ref a_found_rows, .ref a_found_rents, .ref a_found_roofs, .int v_found_traders, .ref a_found_trades, .ref a_found_fronts, .ref a_found_limits, .ref a_found_needy, .ref a_found_clashes, .int v_found_covers, .ref a_found_starts, .ref a_found_standing, .int v_found_coversBusy])), (a_found_rows, .inl (cI, 24, .inl v_found_rows)), (a_found_rents, .inl (cI, 24, .inl v_found_rents)), (a_found_roofs, .inl (cZ, 24, .inl v_found_roofs)), (a_found_trades, .inl (cI, 8, .inl v_found_trades)), (a_found_fronts, .inl (cI, 8, .inl v_found_fronts)), (a_found_limits, .inl (cI, 8, .inl v_found_limits)), (a_found_needy, .inl (cZ, 8, .inl v_found_needy)), (a_found_clashes, .inl (cI, 8, .inl v_found_clashes)), (a_found_starts, .inl (cI, 8, .inl v_found_starts)), (a_found_standing, .inl (cI, 24, .inl v_found_standing))] H locs → lv_has ls 3 [(0, .ref a_this), (1, .int x1), (2, .int x2)] → W p l e rmX1_consider s m args below meth c H locs 0 0 (MQ below (zQv D (zT cI cZ cM) [(a_this, .inr (1, [.ref a_street, .ref a_found, .int w_mostIncome, .int w_fewestMoved, .ref a_oldStarts, .ref a_walkers, .ref a_hopes])), (a_street, .inr (2, [.int v_street_pitches, .ref a_street_rows, .ref a_street_rents, .ref a_street_roofs, .int v_street_traders, .ref a_street_trades, .ref a_street_fronts, .ref a_street_limits, .ref a_street_needy, .ref a_street_clashes, .int v_street_covers, .ref a_street_starts, .ref a_street_standing, .int v_street_coversBusy])), (a_street_rows, .inl (cI, 24, .inl v_street_rows)), (a_street_rents, .inl (cI, 24, .inl v_street_rents)), (a_street_roofs, .inl (cZ, 24, .inl v_street_roofs)), (a_street_trades, .inl (cI, 8, .inl v_street_trades)), (a_street_fronts, .inl (cI, 8, .inl v_street_fronts)), (a_street_limits, .inl (cI, 8, .inl v_street_limits)), (a_street_needy, .inl (cZ, 8, .inl v_street_needy)), (a_street_clashes, .inl (cI, 8, .inl v_street_clashes)), (a_street_starts, .inl (cI, 8, .inl v_street_starts)), (a_street_standing, .inl (cI, 24, .inl v_street_standing)), (a_found, .inr (2, [.int w_found_pitches, .ref a_found_rows, .ref a_found_rents, .ref a_found_roofs, .int w_found_traders, .ref a_found_trades, .ref a_found_fronts, .ref a_found_limits, .ref a_found_needy, .ref a_found_clashes, .int w_found_covers, .ref a_found_starts, .ref a_found_standing, .int w_found_coversBusy])), (a_found_rows, .inl (cI, 24, .inl w_found_rows)), (a_found_rents, .inl (cI, 24, .inl w_found_rents)), (a_found_roofs, .inl (cZ, 24, .inl w_found_roofs)), (a_found_trades, .inl (cI, 8, .inl w_found_trades)), (a_found_fronts, .inl (cI, 8, .inl w_found_fronts)), (a_found_limits, .inl (cI, 8, .inl w_found_limits)), (a_found_needy, .inl (cZ, 8, .inl w_found_needy)), (a_found_clashes, .inl (cI, 8, .inl w_found_clashes)), (a_found_starts, .inl (cI, 8, .inl w_found_starts)), (a_found_standing, .inl (cI, 24, .inl w_found_standing))] A) args s 0 0 A) (F0 m 46 ls []) := by
  obtain ⟨⟨hx, hb, hml, hown, hts⟩, hr, hlocks⟩ := id E
  intro x1 x2 v_street_pitches v_street_rows v_street_rents v_street_roofs v_street_traders v_street_trades v_street_fronts v_street_limits v_street_needy v_street_clashes v_street_covers v_street_starts v_street_standing v_street_coversBusy v_found_pitches v_found_rows v_found_rents v_found_roofs v_found_traders v_found_trades v_found_fronts v_found_limits v_found_needy v_found_clashes v_found_covers v_found_starts v_found_standing v_found_coversBusy v_mostIncome v_fewestMoved hf H locs ls hw hl
  unfold f_X1_consider_46 at hf
  refine lv_aload_n hx hb dX1_consider_46 rfl (lv_at hl 0 rfl) ?_
  refine lv_iload_n hx hb dX1_consider_47 rfl (lv_at hl 2 rfl) ?_
  refine z_put (ws' := [(a_this, .inr (1, [.ref a_street, .ref a_found, .int x2, .int v_fewestMoved, .ref a_oldStarts, .ref a_walkers, .ref a_hopes])), (a_street, .inr (2, [.int v_street_pitches, .ref a_street_rows, .ref a_street_rents, .ref a_street_roofs, .int v_street_traders, .ref a_street_trades, .ref a_street_fronts, .ref a_street_limits, .ref a_street_needy, .ref a_street_clashes, .int v_street_covers, .ref a_street_starts, .ref a_street_standing, .int v_street_coversBusy])), (a_street_rows, .inl (cI, 24, .inl v_street_rows)), (a_street_rents, .inl (cI, 24, .inl v_street_rents)), (a_street_roofs, .inl (cZ, 24, .inl v_street_roofs)), (a_street_trades, .inl (cI, 8, .inl v_street_trades)), (a_street_fronts, .inl (cI, 8, .inl v_street_fronts)), (a_street_limits, .inl (cI, 8, .inl v_street_limits)), (a_street_needy, .inl (cZ, 8, .inl v_street_needy)), (a_street_clashes, .inl (cI, 8, .inl v_street_clashes)), (a_street_starts, .inl (cI, 8, .inl v_street_starts)), (a_street_standing, .inl (cI, 24, .inl v_street_standing)), (a_found, .inr (2, [.int v_found_pitches, .ref a_found_rows, .ref a_found_rents, .ref a_found_roofs, .int v_found_traders, .ref a_found_trades, .ref a_found_fronts, .ref a_found_limits, .ref a_found_needy, .ref a_found_clashes, .int v_found_covers, .ref a_found_starts, .ref a_found_standing, .int v_found_coversBusy])), (a_found_rows, .inl (cI, 24, .inl v_found_rows)), (a_found_rents, .inl (cI, 24, .inl v_found_rents)), (a_found_roofs, .inl (cZ, 24, .inl v_found_roofs)), (a_found_trades, .inl (cI, 8, .inl v_found_trades)), (a_found_fronts, .inl (cI, 8, .inl v_found_fronts)), (a_found_limits, .inl (cI, 8, .inl v_found_limits)), (a_found_needy, .inl (cZ, 8, .inl v_found_needy)), (a_found_clashes, .inl (cI, 8, .inl v_found_clashes)), (a_found_starts, .inl (cI, 8, .inl v_found_starts)), (a_found_standing, .inl (cI, 24, .inl v_found_standing))]) E.1 hw in_wsX10 tyX1 tyX1_ok nmX1 0 rfl rfl 2 (z_lt rfl) mw_117 rfl rfl rfl (z_lt rfl) rfl dX1_consider_48 (fun H locs hw => ?_)
  refine lv_aload_n hx hb dX1_consider_51 rfl (lv_at hl 0 rfl) ?_
  refine lv_iload_n hx hb dX1_consider_52 rfl (lv_at hl 1 rfl) ?_
  refine z_put (ws' := [(a_this, .inr (1, [.ref a_street, .ref a_found, .int x2, .int x1, .ref a_oldStarts, .ref a_walkers, .ref a_hopes])), (a_street, .inr (2, [.int v_street_pitches, .ref a_street_rows, .ref a_street_rents, .ref a_street_roofs, .int v_street_traders, .ref a_street_trades, .ref a_street_fronts, .ref a_street_limits, .ref a_street_needy, .ref a_street_clashes, .int v_street_covers, .ref a_street_starts, .ref a_street_standing, .int v_street_coversBusy])), (a_street_rows, .inl (cI, 24, .inl v_street_rows)), (a_street_rents, .inl (cI, 24, .inl v_street_rents)), (a_street_roofs, .inl (cZ, 24, .inl v_street_roofs)), (a_street_trades, .inl (cI, 8, .inl v_street_trades)), (a_street_fronts, .inl (cI, 8, .inl v_street_fronts)), (a_street_limits, .inl (cI, 8, .inl v_street_limits)), (a_street_needy, .inl (cZ, 8, .inl v_street_needy)), (a_street_clashes, .inl (cI, 8, .inl v_street_clashes)), (a_street_starts, .inl (cI, 8, .inl v_street_starts)), (a_street_standing, .inl (cI, 24, .inl v_street_standing)), (a_found, .inr (2, [.int v_found_pitches, .ref a_found_rows, .ref a_found_rents, .ref a_found_roofs, .int v_found_traders, .ref a_found_trades, .ref a_found_fronts, .ref a_found_limits, .ref a_found_needy, .ref a_found_clashes, .int v_found_covers, .ref a_found_starts, .ref a_found_standing, .int v_found_coversBusy])), (a_found_rows, .inl (cI, 24, .inl v_found_rows)), (a_found_rents, .inl (cI, 24, .inl v_found_rents)), (a_found_roofs, .inl (cZ, 24, .inl v_found_roofs)), (a_found_trades, .inl (cI, 8, .inl v_found_trades)), (a_found_fronts, .inl (cI, 8, .inl v_found_fronts)), (a_found_limits, .inl (cI, 8, .inl v_found_limits)), (a_found_needy, .inl (cZ, 8, .inl v_found_needy)), (a_found_clashes, .inl (cI, 8, .inl v_found_clashes)), (a_found_starts, .inl (cI, 8, .inl v_found_starts)), (a_found_standing, .inl (cI, 24, .inl v_found_standing))]) E.1 hw in_wsX10 tyX1 tyX1_ok nmX1 0 rfl rfl 3 (z_lt rfl) mw_118 rfl rfl rfl (z_lt rfl) rfl dX1_consider_53 (fun H locs hw => ?_)
  refine lv_aload_n hx hb dX1_consider_56 rfl (lv_at hl 0 rfl) ?_
  refine z_get E.1 hw in_wsX10 0 rfl rfl 1 (z_lt rfl) mw_123 (v := .ref a_found) rfl dX1_consider_57 ?_
  refine lv_aload_n hx hb dX1_consider_60 rfl (lv_at hl 0 rfl) ?_
  refine z_get E.1 hw in_wsX10 0 rfl rfl 0 (z_lt rfl) mw_41 (v := .ref a_street) rfl dX1_consider_61 ?_
  obtain ⟨v_1, v_2, v_3, v_4, v_5, v_6, v_7, v_8, v_9, v_10, v_11, v_12, v_13, v_14, h_15, hf⟩ := oB14_elim hf
  refine z_callVv (ws' := [(a_this, .inr (1, [.ref a_street, .ref a_found, .int x2, .int x1, .ref a_oldStarts, .ref a_walkers, .ref a_hopes])), (a_street, .inr (2, [.int v_street_pitches, .ref a_street_rows, .ref a_street_rents, .ref a_street_roofs, .int v_street_traders, .ref a_street_trades, .ref a_street_fronts, .ref a_street_limits, .ref a_street_needy, .ref a_street_clashes, .int v_street_covers, .ref a_street_starts, .ref a_street_standing, .int v_street_coversBusy])), (a_street_rows, .inl (cI, 24, .inl v_street_rows)), (a_street_rents, .inl (cI, 24, .inl v_street_rents)), (a_street_roofs, .inl (cZ, 24, .inl v_street_roofs)), (a_street_trades, .inl (cI, 8, .inl v_street_trades)), (a_street_fronts, .inl (cI, 8, .inl v_street_fronts)), (a_street_limits, .inl (cI, 8, .inl v_street_limits)), (a_street_needy, .inl (cZ, 8, .inl v_street_needy)), (a_street_clashes, .inl (cI, 8, .inl v_street_clashes)), (a_street_starts, .inl (cI, 8, .inl v_street_starts)), (a_street_standing, .inl (cI, 24, .inl v_street_standing)), (a_found, .inr (2, [.int v_1, .ref a_found_rows, .ref a_found_rents, .ref a_found_roofs, .int v_5, .ref a_found_trades, .ref a_found_fronts, .ref a_found_limits, .ref a_found_needy, .ref a_found_clashes, .int v_11, .ref a_found_starts, .ref a_found_standing, .int v_14])), (a_found_rows, .inl (cI, 24, .inl v_2)), (a_found_rents, .inl (cI, 24, .inl v_3)), (a_found_roofs, .inl (cZ, 24, .inl v_4)), (a_found_trades, .inl (cI, 8, .inl v_6)), (a_found_fronts, .inl (cI, 8, .inl v_7)), (a_found_limits, .inl (cI, 8, .inl v_8)), (a_found_needy, .inl (cZ, 8, .inl v_9)), (a_found_clashes, .inl (cI, 8, .inl v_10)), (a_found_starts, .inl (cI, 8, .inl v_12)), (a_found_standing, .inl (cI, 24, .inl v_13))]) (wr := [(a_this, .inr (1, [.ref a_street, .ref a_found, .int x2, .int x1, .ref a_oldStarts, .ref a_walkers, .ref a_hopes]))]) (As := [.ref a_street]) (rest := []) E.1 hl hw (c_X2_copyFrom h_15) (cwV 1 hts (z_gV mw_128 mw_32 mw_33 mw_9 mw_34) rfl rfl rfl (by decide +kernel) ⟨(Nat.le_of_ble_eq_true rfl), (Nat.le_of_ble_eq_true rfl)⟩) [12, 13, 14, 15, 16, 17, 18, 19, 20, 21, 22, 1, 2, 3, 4, 5, 6, 7, 8, 9, 10, 11] [0] rfl rfl rfl rfl rfl rfl rfl (q0 := 0) rfl rfl rfl (Nat.le_of_ble_eq_true rfl) dX1_consider_64 ⟨Nat.le_of_ble_eq_true rfl, Nat.le_of_ble_eq_true rfl⟩ (fun H locs hw => ?_)
  cases hf
  exact z_vret E rfl hw dX1_consider_67
set_option maxHeartbeats 4000000 in
set_option maxRecDepth 100000 in
theorem c_X1_consider {l : Launch} {D : va_G} {cI cZ cM : ClassId} {a_this a_street a_found a_oldStarts a_walkers a_hopes a_street_rows a_street_rents a_street_roofs a_street_trades a_street_fronts a_street_limits a_street_needy a_street_clashes a_street_starts a_street_standing a_found_rows a_found_rents a_found_roofs a_found_trades a_found_fronts a_found_limits a_found_needy a_found_clashes a_found_starts a_found_standing : Nat} {w_found_pitches : Int32} {w_found_rows : Nat → Int32} {w_found_rents : Nat → Int32} {w_found_roofs : Nat → Int32} {w_found_traders : Int32} {w_found_trades : Nat → Int32} {w_found_fronts : Nat → Int32} {w_found_limits : Nat → Int32} {w_found_needy : Nat → Int32} {w_found_clashes : Nat → Int32} {w_found_covers : Int32} {w_found_starts : Nat → Int32} {w_found_standing : Nat → Int32} {w_found_coversBusy : Int32} {w_mostIncome : Int32} {w_fewestMoved : Int32} {sz : Nat} {n : Nat} {v_street_pitches : Int32} {v_street_rows : Nat → Int32} {v_street_rents : Nat → Int32} {v_street_roofs : Nat → Int32} {v_street_traders : Int32} {v_street_trades : Nat → Int32} {v_street_fronts : Nat → Int32} {v_street_limits : Nat → Int32} {v_street_needy : Nat → Int32} {v_street_clashes : Nat → Int32} {v_street_covers : Int32} {v_street_starts : Nat → Int32} {v_street_standing : Nat → Int32} {v_street_coversBusy : Int32} {v_found_pitches : Int32} {v_found_rows : Nat → Int32} {v_found_rents : Nat → Int32} {v_found_roofs : Nat → Int32} {v_found_traders : Int32} {v_found_trades : Nat → Int32} {v_found_fronts : Nat → Int32} {v_found_limits : Nat → Int32} {v_found_needy : Nat → Int32} {v_found_clashes : Nat → Int32} {v_found_covers : Int32} {v_found_starts : Nat → Int32} {v_found_standing : Nat → Int32} {v_found_coversBusy : Int32} {v_mostIncome : Int32} {v_fewestMoved : Int32} {x1 : Int32} {x2 : Int32} (hf : f_X1_consider n v_street_pitches v_street_rows v_street_rents v_street_roofs v_street_traders v_street_trades v_street_fronts v_street_limits v_street_needy v_street_clashes v_street_covers v_street_starts v_street_standing v_street_coversBusy v_found_pitches v_found_rows v_found_rents v_found_roofs v_found_traders v_found_trades v_found_fronts v_found_limits v_found_needy v_found_clashes v_found_covers v_found_starts v_found_standing v_found_coversBusy v_mostIncome v_fewestMoved x1 x2 = some (w_found_pitches, w_found_rows, w_found_rents, w_found_roofs, w_found_traders, w_found_trades, w_found_fronts, w_found_limits, w_found_needy, w_found_clashes, w_found_covers, w_found_starts, w_found_standing, w_found_coversBusy, w_mostIncome, w_fewestMoved)) : Met l yX1_consider zwX1_consider rmX1_consider (zPc D (zT cI cZ cM) [.ref a_this, .int x1, .int x2] [(a_this, .inr (1, [.ref a_street, .ref a_found, .int v_mostIncome, .int v_fewestMoved, .ref a_oldStarts, .ref a_walkers, .ref a_hopes])), (a_street, .inr (2, [.int v_street_pitches, .ref a_street_rows, .ref a_street_rents, .ref a_street_roofs, .int v_street_traders, .ref a_street_trades, .ref a_street_fronts, .ref a_street_limits, .ref a_street_needy, .ref a_street_clashes, .int v_street_covers, .ref a_street_starts, .ref a_street_standing, .int v_street_coversBusy])), (a_street_rows, .inl (cI, 24, .inl v_street_rows)), (a_street_rents, .inl (cI, 24, .inl v_street_rents)), (a_street_roofs, .inl (cZ, 24, .inl v_street_roofs)), (a_street_trades, .inl (cI, 8, .inl v_street_trades)), (a_street_fronts, .inl (cI, 8, .inl v_street_fronts)), (a_street_limits, .inl (cI, 8, .inl v_street_limits)), (a_street_needy, .inl (cZ, 8, .inl v_street_needy)), (a_street_clashes, .inl (cI, 8, .inl v_street_clashes)), (a_street_starts, .inl (cI, 8, .inl v_street_starts)), (a_street_standing, .inl (cI, 24, .inl v_street_standing)), (a_found, .inr (2, [.int v_found_pitches, .ref a_found_rows, .ref a_found_rents, .ref a_found_roofs, .int v_found_traders, .ref a_found_trades, .ref a_found_fronts, .ref a_found_limits, .ref a_found_needy, .ref a_found_clashes, .int v_found_covers, .ref a_found_starts, .ref a_found_standing, .int v_found_coversBusy])), (a_found_rows, .inl (cI, 24, .inl v_found_rows)), (a_found_rents, .inl (cI, 24, .inl v_found_rents)), (a_found_roofs, .inl (cZ, 24, .inl v_found_roofs)), (a_found_trades, .inl (cI, 8, .inl v_found_trades)), (a_found_fronts, .inl (cI, 8, .inl v_found_fronts)), (a_found_limits, .inl (cI, 8, .inl v_found_limits)), (a_found_needy, .inl (cZ, 8, .inl v_found_needy)), (a_found_clashes, .inl (cI, 8, .inl v_found_clashes)), (a_found_starts, .inl (cI, 8, .inl v_found_starts)), (a_found_standing, .inl (cI, 24, .inl v_found_standing))] sz) (zQv D (zT cI cZ cM) [(a_this, .inr (1, [.ref a_street, .ref a_found, .int w_mostIncome, .int w_fewestMoved, .ref a_oldStarts, .ref a_walkers, .ref a_hopes])), (a_street, .inr (2, [.int v_street_pitches, .ref a_street_rows, .ref a_street_rents, .ref a_street_roofs, .int v_street_traders, .ref a_street_trades, .ref a_street_fronts, .ref a_street_limits, .ref a_street_needy, .ref a_street_clashes, .int v_street_covers, .ref a_street_starts, .ref a_street_standing, .int v_street_coversBusy])), (a_street_rows, .inl (cI, 24, .inl v_street_rows)), (a_street_rents, .inl (cI, 24, .inl v_street_rents)), (a_street_roofs, .inl (cZ, 24, .inl v_street_roofs)), (a_street_trades, .inl (cI, 8, .inl v_street_trades)), (a_street_fronts, .inl (cI, 8, .inl v_street_fronts)), (a_street_limits, .inl (cI, 8, .inl v_street_limits)), (a_street_needy, .inl (cZ, 8, .inl v_street_needy)), (a_street_clashes, .inl (cI, 8, .inl v_street_clashes)), (a_street_starts, .inl (cI, 8, .inl v_street_starts)), (a_street_standing, .inl (cI, 24, .inl v_street_standing)), (a_found, .inr (2, [.int w_found_pitches, .ref a_found_rows, .ref a_found_rents, .ref a_found_roofs, .int w_found_traders, .ref a_found_trades, .ref a_found_fronts, .ref a_found_limits, .ref a_found_needy, .ref a_found_clashes, .int w_found_covers, .ref a_found_starts, .ref a_found_standing, .int w_found_coversBusy])), (a_found_rows, .inl (cI, 24, .inl w_found_rows)), (a_found_rents, .inl (cI, 24, .inl w_found_rents)), (a_found_roofs, .inl (cZ, 24, .inl w_found_roofs)), (a_found_trades, .inl (cI, 8, .inl w_found_trades)), (a_found_fronts, .inl (cI, 8, .inl w_found_fronts)), (a_found_limits, .inl (cI, 8, .inl w_found_limits)), (a_found_needy, .inl (cZ, 8, .inl w_found_needy)), (a_found_clashes, .inl (cI, 8, .inl w_found_clashes)), (a_found_starts, .inl (cI, 8, .inl w_found_starts)), (a_found_standing, .inl (cI, 24, .inl w_found_standing))] (va_A [(a_this, .inr (1, [.ref a_street, .ref a_found, .int v_mostIncome, .int v_fewestMoved, .ref a_oldStarts, .ref a_walkers, .ref a_hopes])), (a_street, .inr (2, [.int v_street_pitches, .ref a_street_rows, .ref a_street_rents, .ref a_street_roofs, .int v_street_traders, .ref a_street_trades, .ref a_street_fronts, .ref a_street_limits, .ref a_street_needy, .ref a_street_clashes, .int v_street_covers, .ref a_street_starts, .ref a_street_standing, .int v_street_coversBusy])), (a_street_rows, .inl (cI, 24, .inl v_street_rows)), (a_street_rents, .inl (cI, 24, .inl v_street_rents)), (a_street_roofs, .inl (cZ, 24, .inl v_street_roofs)), (a_street_trades, .inl (cI, 8, .inl v_street_trades)), (a_street_fronts, .inl (cI, 8, .inl v_street_fronts)), (a_street_limits, .inl (cI, 8, .inl v_street_limits)), (a_street_needy, .inl (cZ, 8, .inl v_street_needy)), (a_street_clashes, .inl (cI, 8, .inl v_street_clashes)), (a_street_starts, .inl (cI, 8, .inl v_street_starts)), (a_street_standing, .inl (cI, 24, .inl v_street_standing)), (a_found, .inr (2, [.int v_found_pitches, .ref a_found_rows, .ref a_found_rents, .ref a_found_roofs, .int v_found_traders, .ref a_found_trades, .ref a_found_fronts, .ref a_found_limits, .ref a_found_needy, .ref a_found_clashes, .int v_found_covers, .ref a_found_starts, .ref a_found_standing, .int v_found_coversBusy])), (a_found_rows, .inl (cI, 24, .inl v_found_rows)), (a_found_rents, .inl (cI, 24, .inl v_found_rents)), (a_found_roofs, .inl (cZ, 24, .inl v_found_roofs)), (a_found_trades, .inl (cI, 8, .inl v_found_trades)), (a_found_fronts, .inl (cI, 8, .inl v_found_fronts)), (a_found_limits, .inl (cI, 8, .inl v_found_limits)), (a_found_needy, .inl (cZ, 8, .inl v_found_needy)), (a_found_clashes, .inl (cI, 8, .inl v_found_clashes)), (a_found_starts, .inl (cI, 8, .inl v_found_starts)), (a_found_standing, .inl (cI, 24, .inl v_found_standing))] sz)) 0 0 (va_A [(a_this, .inr (1, [.ref a_street, .ref a_found, .int v_mostIncome, .int v_fewestMoved, .ref a_oldStarts, .ref a_walkers, .ref a_hopes])), (a_street, .inr (2, [.int v_street_pitches, .ref a_street_rows, .ref a_street_rents, .ref a_street_roofs, .int v_street_traders, .ref a_street_trades, .ref a_street_fronts, .ref a_street_limits, .ref a_street_needy, .ref a_street_clashes, .int v_street_covers, .ref a_street_starts, .ref a_street_standing, .int v_street_coversBusy])), (a_street_rows, .inl (cI, 24, .inl v_street_rows)), (a_street_rents, .inl (cI, 24, .inl v_street_rents)), (a_street_roofs, .inl (cZ, 24, .inl v_street_roofs)), (a_street_trades, .inl (cI, 8, .inl v_street_trades)), (a_street_fronts, .inl (cI, 8, .inl v_street_fronts)), (a_street_limits, .inl (cI, 8, .inl v_street_limits)), (a_street_needy, .inl (cZ, 8, .inl v_street_needy)), (a_street_clashes, .inl (cI, 8, .inl v_street_clashes)), (a_street_starts, .inl (cI, 8, .inl v_street_starts)), (a_street_standing, .inl (cI, 24, .inl v_street_standing)), (a_found, .inr (2, [.int v_found_pitches, .ref a_found_rows, .ref a_found_rents, .ref a_found_roofs, .int v_found_traders, .ref a_found_trades, .ref a_found_fronts, .ref a_found_limits, .ref a_found_needy, .ref a_found_clashes, .int v_found_covers, .ref a_found_starts, .ref a_found_standing, .int v_found_coversBusy])), (a_found_rows, .inl (cI, 24, .inl v_found_rows)), (a_found_rents, .inl (cI, 24, .inl v_found_rents)), (a_found_roofs, .inl (cZ, 24, .inl v_found_roofs)), (a_found_trades, .inl (cI, 8, .inl v_found_trades)), (a_found_fronts, .inl (cI, 8, .inl v_found_fronts)), (a_found_limits, .inl (cI, 8, .inl v_found_limits)), (a_found_needy, .inl (cZ, 8, .inl v_found_needy)), (a_found_clashes, .inl (cI, 8, .inl v_found_clashes)), (a_found_starts, .inl (cI, 8, .inl v_found_starts)), (a_found_standing, .inl (cI, 24, .inl v_found_standing))] sz) := by
  refine z_met (cc := cX1_consider) (maxL := 3) (ret := none) (by decide) rfl (Nat.le_of_ble_eq_true rfl) ?_
  intro p e s m below meth c ls E hsz hw hl
  obtain ⟨⟨hx, hb, hml, hown, hts⟩, hr, hlocks⟩ := id E
  have hl : lv_has ls 3 [(0, .ref a_this), (1, .int x1), (2, .int x2)] := hl
  unfold f_X1_consider at hf
  refine lv_iload_n hx hb dX1_consider_0 rfl (lv_at hl 2 rfl) ?_
  refine lv_aload_n hx hb dX1_consider_1 rfl (lv_at hl 0 rfl) ?_
  refine z_get E.1 hw in_wsX10 0 rfl rfl 2 (z_lt rfl) mw_117 (v := .int v_mostIncome) rfl dX1_consider_2 ?_
  refine lv_icmp_gt (tgt := 46) hx hb dX1_consider_5 (by decide) (fun hc => ?_) (fun hc => ?_)
  · have hf := oI_pos hc hf
    exact w_X1_consider_46 E  _ _ _ _ _ _ _ _ _ _ _ _ _ _ _ _ _ _ _ _ _ _ _ _ _ _ _ _ _ _ _ _ hf _ _ _ hw (lv_sub hl [0, 1, 2] rfl)
  · have hf := oI_neg hc hf
    refine lv_iload_n hx hb dX1_consider_8 rfl (lv_at hl 2 rfl) ?_
    refine lv_aload_n hx hb dX1_consider_9 rfl (lv_at hl 0 rfl) ?_
    refine z_get E.1 hw in_wsX10 0 rfl rfl 2 (z_lt rfl) mw_117 (v := .int v_mostIncome) rfl dX1_consider_10 ?_
    refine lv_icmp_ne (tgt := 67) hx hb dX1_consider_13 (by decide) (fun hc => ?_) (fun hc => ?_)
    · have hf := oI_neg hc hf
      cases hf
      exact z_vret E rfl hw dX1_consider_67
    · have hf := oI_pos hc hf
      refine lv_iload_n hx hb dX1_consider_16 rfl (lv_at hl 1 rfl) ?_
      refine lv_aload_n hx hb dX1_consider_17 rfl (lv_at hl 0 rfl) ?_
      refine z_get E.1 hw in_wsX10 0 rfl rfl 3 (z_lt rfl) mw_118 (v := .int v_fewestMoved) rfl dX1_consider_18 ?_
      refine lv_icmp_lt (tgt := 46) hx hb dX1_consider_21 (by decide) (fun hc => ?_) (fun hc => ?_)
      · have hf := oI_pos hc hf
        exact w_X1_consider_46 E  _ _ _ _ _ _ _ _ _ _ _ _ _ _ _ _ _ _ _ _ _ _ _ _ _ _ _ _ _ _ _ _ hf _ _ _ hw (lv_sub hl [0, 1, 2] rfl)
      · have hf := oI_neg hc hf
        refine lv_iload_n hx hb dX1_consider_24 rfl (lv_at hl 1 rfl) ?_
        refine lv_aload_n hx hb dX1_consider_25 rfl (lv_at hl 0 rfl) ?_
        refine z_get E.1 hw in_wsX10 0 rfl rfl 3 (z_lt rfl) mw_118 (v := .int v_fewestMoved) rfl dX1_consider_26 ?_
        refine lv_icmp_ne (tgt := 67) hx hb dX1_consider_29 (by decide) (fun hc => ?_) (fun hc => ?_)
        · have hf := oI_neg hc hf
          cases hf
          exact z_vret E rfl hw dX1_consider_67
        · have hf := oI_pos hc hf
          refine lv_aload_n hx hb dX1_consider_32 rfl (lv_at hl 0 rfl) ?_
          refine z_get E.1 hw in_wsX10 0 rfl rfl 0 (z_lt rfl) mw_41 (v := .ref a_street) rfl dX1_consider_33 ?_
          refine lv_aload_n hx hb dX1_consider_36 rfl (lv_at hl 0 rfl) ?_
          refine z_get E.1 hw in_wsX10 0 rfl rfl 1 (z_lt rfl) mw_123 (v := .ref a_found) rfl dX1_consider_37 ?_
          obtain ⟨r_16, h_17, hf⟩ := oB_elim hf
          refine z_callVi (ws' := [(a_this, .inr (1, [.ref a_street, .ref a_found, .int v_mostIncome, .int v_fewestMoved, .ref a_oldStarts, .ref a_walkers, .ref a_hopes])), (a_street, .inr (2, [.int v_street_pitches, .ref a_street_rows, .ref a_street_rents, .ref a_street_roofs, .int v_street_traders, .ref a_street_trades, .ref a_street_fronts, .ref a_street_limits, .ref a_street_needy, .ref a_street_clashes, .int v_street_covers, .ref a_street_starts, .ref a_street_standing, .int v_street_coversBusy])), (a_street_rows, .inl (cI, 24, .inl v_street_rows)), (a_street_rents, .inl (cI, 24, .inl v_street_rents)), (a_street_roofs, .inl (cZ, 24, .inl v_street_roofs)), (a_street_trades, .inl (cI, 8, .inl v_street_trades)), (a_street_fronts, .inl (cI, 8, .inl v_street_fronts)), (a_street_limits, .inl (cI, 8, .inl v_street_limits)), (a_street_needy, .inl (cZ, 8, .inl v_street_needy)), (a_street_clashes, .inl (cI, 8, .inl v_street_clashes)), (a_street_starts, .inl (cI, 8, .inl v_street_starts)), (a_street_standing, .inl (cI, 24, .inl v_street_standing)), (a_found, .inr (2, [.int v_found_pitches, .ref a_found_rows, .ref a_found_rents, .ref a_found_roofs, .int v_found_traders, .ref a_found_trades, .ref a_found_fronts, .ref a_found_limits, .ref a_found_needy, .ref a_found_clashes, .int v_found_covers, .ref a_found_starts, .ref a_found_standing, .int v_found_coversBusy])), (a_found_rows, .inl (cI, 24, .inl v_found_rows)), (a_found_rents, .inl (cI, 24, .inl v_found_rents)), (a_found_roofs, .inl (cZ, 24, .inl v_found_roofs)), (a_found_trades, .inl (cI, 8, .inl v_found_trades)), (a_found_fronts, .inl (cI, 8, .inl v_found_fronts)), (a_found_limits, .inl (cI, 8, .inl v_found_limits)), (a_found_needy, .inl (cZ, 8, .inl v_found_needy)), (a_found_clashes, .inl (cI, 8, .inl v_found_clashes)), (a_found_starts, .inl (cI, 8, .inl v_found_starts)), (a_found_standing, .inl (cI, 24, .inl v_found_standing))]) (wr := [(a_this, .inr (1, [.ref a_street, .ref a_found, .int v_mostIncome, .int v_fewestMoved, .ref a_oldStarts, .ref a_walkers, .ref a_hopes])), (a_street_rows, .inl (cI, 24, .inl v_street_rows)), (a_street_rents, .inl (cI, 24, .inl v_street_rents)), (a_street_roofs, .inl (cZ, 24, .inl v_street_roofs)), (a_street_trades, .inl (cI, 8, .inl v_street_trades)), (a_street_fronts, .inl (cI, 8, .inl v_street_fronts)), (a_street_limits, .inl (cI, 8, .inl v_street_limits)), (a_street_needy, .inl (cZ, 8, .inl v_street_needy)), (a_street_clashes, .inl (cI, 8, .inl v_street_clashes)), (a_street_starts, .inl (cI, 8, .inl v_street_starts)), (a_found_rows, .inl (cI, 24, .inl v_found_rows)), (a_found_rents, .inl (cI, 24, .inl v_found_rents)), (a_found_roofs, .inl (cZ, 24, .inl v_found_roofs)), (a_found_trades, .inl (cI, 8, .inl v_found_trades)), (a_found_fronts, .inl (cI, 8, .inl v_found_fronts)), (a_found_limits, .inl (cI, 8, .inl v_found_limits)), (a_found_needy, .inl (cZ, 8, .inl v_found_needy)), (a_found_clashes, .inl (cI, 8, .inl v_found_clashes)), (a_found_starts, .inl (cI, 8, .inl v_found_starts))]) (As := [.ref a_found]) (rest := []) E.1 hl hw (c_X2_comesBefore h_17) (cwV 1 hts (z_gV mw_124 mw_125 mw_126 mw_9 mw_127) rfl rfl rfl (by decide +kernel) ⟨(Nat.le_of_ble_eq_true rfl), (Nat.le_of_ble_eq_true rfl)⟩) [1, 11, 12, 22] [0, 2, 3, 4, 5, 6, 7, 8, 9, 10, 13, 14, 15, 16, 17, 18, 19, 20, 21] rfl rfl rfl rfl rfl rfl rfl (q0 := 0) rfl rfl rfl (Nat.le_of_ble_eq_true rfl) dX1_consider_40 ⟨Nat.le_of_ble_eq_true rfl, Nat.le_of_ble_eq_true rfl⟩ (fun H locs hw => ?_)
          refine lv_if_eq (tgt := 67) hx hb dX1_consider_43 (by decide) (fun hc => ?_) (fun hc => ?_)
          · have hf := oI_pos hc hf
            cases hf
            exact z_vret E rfl hw dX1_consider_67
          · have hf := oI_neg hc hf
            exact w_X1_consider_46 E  _ _ _ _ _ _ _ _ _ _ _ _ _ _ _ _ _ _ _ _ _ _ _ _ _ _ _ _ _ _ _ _ hf _ _ _ hw (lv_sub hl [0, 1, 2] rfl)
end
/-! X1_isHopeless -/
section
variable {p : Program} {l : Launch} {e : Env} {s : State} {m : MethodId} {args : Array Value} {below : List Frame} {meth : Method} {c : Code} {D : va_G} {A : Nat → Prop} {cI cZ cM : ClassId} {a_this a_street a_found a_oldStarts a_walkers a_hopes : Nat} {r0 : Int32}
def rmX1_isHopeless : Room := { frames := 0, cells := 0, slots := 0, locals := 0 }
abbrev zwX1_isHopeless : List Cond := Cond.code yX1_isHopeless cX1_isHopeless 3 (some .boolean) :: wsAll
set_option maxHeartbeats 4000000 in
set_option maxRecDepth 100000 in
theorem w_X1_isHopeless_24 {v_mostIncome : Int32} {v_fewestMoved : Int32} (E : zE p s m args meth c cX1_isHopeless 3 (some .boolean) zwX1_isHopeless RX1) : f_X1_isHopeless_24 = some r0 → ∀ (H : Heap) (locs : List Loc) (ls : Array Slot), zW D (zT cI cZ cM) A s [(a_this, .inr (1, [.ref a_street, .ref a_found, .int v_mostIncome, .int v_fewestMoved, .ref a_oldStarts, .ref a_walkers, .ref a_hopes]))] H locs → lv_has ls 3 [] → W p l e rmX1_isHopeless s m args below meth c H locs 0 0 (MQ below (zQi D (zT cI cZ cM) r0 [(a_this, .inr (1, [.ref a_street, .ref a_found, .int v_mostIncome, .int v_fewestMoved, .ref a_oldStarts, .ref a_walkers, .ref a_hopes]))] A) args s 0 0 A) (F0 m 24 ls []) := by
  obtain ⟨⟨hx, hb, hml, hown, hts⟩, hr, hlocks⟩ := id E
  intro  hf H locs ls hw hl
  unfold f_X1_isHopeless_24 at hf
  refine lv_iconst (v := 1) hx hb dX1_isHopeless_24 (by decide) ?_
  refine lv_goto (tgt := 29) hx hb dX1_isHopeless_25 (by decide) ?_
  cases hf
  exact z_zret E rfl rfl hw dX1_isHopeless_29
set_option maxHeartbeats 4000000 in
set_option maxRecDepth 100000 in
theorem c_X1_isHopeless {l : Launch} {D : va_G} {cI cZ cM : ClassId} {a_this a_street a_found a_oldStarts a_walkers a_hopes : Nat} {r0 : Int32} {sz : Nat} {v_mostIncome : Int32} {v_fewestMoved : Int32} {x1 : Int32} {x2 : Int32} (hf : f_X1_isHopeless v_mostIncome v_fewestMoved x1 x2 = some r0) : Met l yX1_isHopeless zwX1_isHopeless rmX1_isHopeless (zPc D (zT cI cZ cM) [.ref a_this, .int x1, .int x2] [(a_this, .inr (1, [.ref a_street, .ref a_found, .int v_mostIncome, .int v_fewestMoved, .ref a_oldStarts, .ref a_walkers, .ref a_hopes]))] sz) (zQi D (zT cI cZ cM) r0 [(a_this, .inr (1, [.ref a_street, .ref a_found, .int v_mostIncome, .int v_fewestMoved, .ref a_oldStarts, .ref a_walkers, .ref a_hopes]))] (va_A [(a_this, .inr (1, [.ref a_street, .ref a_found, .int v_mostIncome, .int v_fewestMoved, .ref a_oldStarts, .ref a_walkers, .ref a_hopes]))] sz)) 0 0 (va_A [(a_this, .inr (1, [.ref a_street, .ref a_found, .int v_mostIncome, .int v_fewestMoved, .ref a_oldStarts, .ref a_walkers, .ref a_hopes]))] sz) := by
  refine z_met (cc := cX1_isHopeless) (maxL := 3) (ret := (some .boolean)) (by decide) rfl (Nat.le_of_ble_eq_true rfl) ?_
  intro p e s m below meth c ls E hsz hw hl
  obtain ⟨⟨hx, hb, hml, hown, hts⟩, hr, hlocks⟩ := id E
  have hl : lv_has ls 3 [(0, .ref a_this), (1, .int x1), (2, .int x2)] := hl
  unfold f_X1_isHopeless at hf
  refine lv_iload_n hx hb dX1_isHopeless_0 rfl (lv_at hl 2 rfl) ?_
  refine lv_aload_n hx hb dX1_isHopeless_1 rfl (lv_at hl 0 rfl) ?_
  refine z_get E.1 hw in_wsX10 0 rfl rfl 2 (z_lt rfl) mw_117 (v := .int v_mostIncome) rfl dX1_isHopeless_2 ?_
  refine lv_icmp_lt (tgt := 24) hx hb dX1_isHopeless_5 (by decide) (fun hc => ?_) (fun hc => ?_)
  · have hf := oI_pos hc hf
    exact w_X1_isHopeless_24 E   hf _ _ _ hw (lv_sub hl [] rfl)
  · have hf := oI_neg hc hf
    refine lv_iload_n hx hb dX1_isHopeless_8 rfl (lv_at hl 2 rfl) ?_
    refine lv_aload_n hx hb dX1_isHopeless_9 rfl (lv_at hl 0 rfl) ?_
    refine z_get E.1 hw in_wsX10 0 rfl rfl 2 (z_lt rfl) mw_117 (v := .int v_mostIncome) rfl dX1_isHopeless_10 ?_
    refine lv_icmp_ne (tgt := 28) hx hb dX1_isHopeless_13 (by decide) (fun hc => ?_) (fun hc => ?_)
    · have hf := oI_neg hc hf
      refine lv_iconst (v := 0) hx hb dX1_isHopeless_28 (by decide) ?_
      cases hf
      exact z_zret E rfl rfl hw dX1_isHopeless_29
    · have hf := oI_pos hc hf
      refine lv_iload_n hx hb dX1_isHopeless_16 rfl (lv_at hl 1 rfl) ?_
      refine lv_aload_n hx hb dX1_isHopeless_17 rfl (lv_at hl 0 rfl) ?_
      refine z_get E.1 hw in_wsX10 0 rfl rfl 3 (z_lt rfl) mw_118 (v := .int v_fewestMoved) rfl dX1_isHopeless_18 ?_
      refine lv_icmp_le (tgt := 28) hx hb dX1_isHopeless_21 (by decide) (fun hc => ?_) (fun hc => ?_)
      · have hf := oI_pos hc hf
        refine lv_iconst (v := 0) hx hb dX1_isHopeless_28 (by decide) ?_
        cases hf
        exact z_zret E rfl rfl hw dX1_isHopeless_29
      · have hf := oI_neg hc hf
        exact w_X1_isHopeless_24 E   hf _ _ _ hw (lv_sub hl [] rfl)
end
/-! X2_blockRent -/
section
variable {p : Program} {l : Launch} {e : Env} {s : State} {m : MethodId} {args : Array Value} {below : List Frame} {meth : Method} {c : Code} {D : va_G} {A : Nat → Prop} {cI cZ cM : ClassId} {a_this a_rows a_rents a_roofs a_trades a_fronts a_limits a_needy a_clashes a_starts a_standing : Nat} {v_traders : Int32} {v_covers : Int32} {v_coversBusy : Int32} {r0 : Int32}
def rmX2_blockRent : Room := { frames := 1, cells := 0, slots := 0, locals := 21 }
abbrev zwX2_blockRent : List Cond := Cond.code yX2_blockRent cX2_blockRent 6 (some .int) :: wsAll
set_option maxHeartbeats 4000000 in
set_option maxRecDepth 100000 in
theorem w_X2_blockRent_22 {n : Nat} {v_pitches : Int32} {v_fronts : Nat → Int32} (E : zE p s m args meth c cX2_blockRent 6 (some .int) zwX2_blockRent RX2) : ∀ (fu : Nat), ∀ (x3 : Int32) (x4 : Int32) (x5 : Int32) (v_rents : Nat → Int32), f_X2_blockRent_22 n fu x3 x4 x5 v_rents = some r0 → ∀ (H : Heap) (locs : List Loc) (ls : Array Slot), zW D (zT cI cZ cM) A s [(a_this, .inr (2, [.int v_pitches, .ref a_rows, .ref a_rents, .ref a_roofs, .int v_traders, .ref a_trades, .ref a_fronts, .ref a_limits, .ref a_needy, .ref a_clashes, .int v_covers, .ref a_starts, .ref a_standing, .int v_coversBusy])), (a_rents, .inl (cI, 24, .inl v_rents)), (a_fronts, .inl (cI, 8, .inl v_fronts))] H locs → lv_has ls 6 [(0, .ref a_this), (3, .int x3), (4, .int x4), (5, .int x5)] → W p l e rmX2_blockRent s m args below meth c H locs 0 0 (MQ below (zQi D (zT cI cZ cM) r0 [(a_this, .inr (2, [.int v_pitches, .ref a_rows, .ref a_rents, .ref a_roofs, .int v_traders, .ref a_trades, .ref a_fronts, .ref a_limits, .ref a_needy, .ref a_clashes, .int v_covers, .ref a_starts, .ref a_standing, .int v_coversBusy])), (a_rents, .inl (cI, 24, .inl v_rents)), (a_fronts, .inl (cI, 8, .inl v_fronts))] A) args s 0 0 A) (F0 m 22 ls []) := by
  obtain ⟨⟨hx, hb, hml, hown, hts⟩, hr, hlocks⟩ := id E
  intro fu
  induction fu with
  | zero => intro x3 x4 x5 v_rents hf; rw [f_X2_blockRent_22.eq_1] at hf; cases hf
  | succ fu ih =>
    intro x3 x4 x5 v_rents hf H locs ls hw hl
    rw [f_X2_blockRent_22.eq_2] at hf
    refine lv_iload hx hb dX2_blockRent_22 (lv_at hl 3 rfl) ?_
    refine lv_iload hx hb dX2_blockRent_24 (lv_at hl 2 rfl) ?_
    refine lv_icmp_ge (tgt := 45) hx hb dX2_blockRent_26 (by decide) (fun hc => ?_) (fun hc => ?_)
    · have hf := oI_pos hc hf
      refine lv_iload_n hx hb dX2_blockRent_45 rfl (lv_at hl 1 rfl) ?_
      cases hf
      exact z_iret E rfl hw dX2_blockRent_46
    · have hf := oI_neg hc hf
      refine lv_iload_n hx hb dX2_blockRent_29 rfl (lv_at hl 1 rfl) ?_
      refine lv_aload_n hx hb dX2_blockRent_30 rfl (lv_at hl 0 rfl) ?_
      refine z_get E.1 hw in_wsX20 0 rfl rfl 2 (z_lt rfl) mw_17 (v := .ref a_rents) rfl dX2_blockRent_31 ?_
      refine lv_iload hx hb dX2_blockRent_34 (lv_at hl 3 rfl) ?_
      obtain ⟨h_1, hf⟩ := oA_elim hf
      refine z_iald E.1 hw 1 0 rfl rfl h_1 dX2_blockRent_36 ?_
      refine lv_iadd hx hb dX2_blockRent_37 ?_
      obtain ⟨y_2, e_y_2, hf⟩ := oL_elim hf
      refine z_top e_y_2 ?_
      refine lv_istore_n (lv' := [(3, .int y_2), (0, .ref a_this), (4, .int x4), (5, .int x5)]) hx hb dX2_blockRent_38 rfl hl (z_lt rfl) rfl (fun ls hl => ?_)
      refine lv_iinc (v := (x5 + (1 : Int32))) (lv' := [(5, .int (x5 + (1 : Int32))), (3, .int y_2), (0, .ref a_this), (4, .int x4)]) hx hb dX2_blockRent_39 hl (k := 3) rfl rfl (z_lt rfl) rfl (fun ls hl => ?_)
      refine lv_goto (tgt := 22) hx hb dX2_blockRent_42 (by decide) ?_
      exact ih _ _ _ _ hf _ _ _ hw (lv_sub hl [2, 1, 3, 0] rfl)
set_option maxHeartbeats 4000000 in
set_option maxRecDepth 100000 in
theorem c_X2_blockRent {l : Launch} {D : va_G} {cI cZ cM : ClassId} {a_this a_rows a_rents a_roofs a_trades a_fronts a_limits a_needy a_clashes a_starts a_standing : Nat} {v_traders : Int32} {v_covers : Int32} {v_coversBusy : Int32} {r0 : Int32} {sz : Nat} {n : Nat} {v_pitches : Int32} {v_rents : Nat → Int32} {v_fronts : Nat → Int32} {x1 : Int32} {x2 : Int32} (hf : f_X2_blockRent n v_pitches v_rents v_fronts x1 x2 = some r0) : Met l yX2_blockRent zwX2_blockRent rmX2_blockRent (zPc D (zT cI cZ cM) [.ref a_this, .int x1, .int x2] [(a_this, .inr (2, [.int v_pitches, .ref a_rows, .ref a_rents, .ref a_roofs, .int v_traders, .ref a_trades, .ref a_fronts, .ref a_limits, .ref a_needy, .ref a_clashes, .int v_covers, .ref a_starts, .ref a_standing, .int v_coversBusy])), (a_rents, .inl (cI, 24, .inl v_rents)), (a_fronts, .inl (cI, 8, .inl v_fronts))] sz) (zQi D (zT cI cZ cM) r0 [(a_this, .inr (2, [.int v_pitches, .ref a_rows, .ref a_rents, .ref a_roofs, .int v_traders, .ref a_trades, .ref a_fronts, .ref a_limits, .ref a_needy, .ref a_clashes, .int v_covers, .ref a_starts, .ref a_standing, .int v_coversBusy])), (a_rents, .inl (cI, 24, .inl v_rents)), (a_fronts, .inl (cI, 8, .inl v_fronts))] (va_A [(a_this, .inr (2, [.int v_pitches, .ref a_rows, .ref a_rents, .ref a_roofs, .int v_traders, .ref a_trades, .ref a_fronts, .ref a_limits, .ref a_needy, .ref a_clashes, .int v_covers, .ref a_starts, .ref a_standing, .int v_coversBusy])), (a_rents, .inl (cI, 24, .inl v_rents)), (a_fronts, .inl (cI, 8, .inl v_fronts))] sz)) 0 0 (va_A [(a_this, .inr (2, [.int v_pitches, .ref a_rows, .ref a_rents, .ref a_roofs, .int v_traders, .ref a_trades, .ref a_fronts, .ref a_limits, .ref a_needy, .ref a_clashes, .int v_covers, .ref a_starts, .ref a_standing, .int v_coversBusy])), (a_rents, .inl (cI, 24, .inl v_rents)), (a_fronts, .inl (cI, 8, .inl v_fronts))] sz) := by
  refine z_met (cc := cX2_blockRent) (maxL := 6) (ret := (some .int)) (by decide) rfl (Nat.le_of_ble_eq_true rfl) ?_
  intro p e s m below meth c ls E hsz hw hl
  obtain ⟨⟨hx, hb, hml, hown, hts⟩, hr, hlocks⟩ := id E
  have hl : lv_has ls 6 [(0, .ref a_this), (1, .int x1), (2, .int x2)] := hl
  unfold f_X2_blockRent at hf
  refine lv_iconst (v := 0) hx hb dX2_blockRent_0 (by decide) ?_
  refine lv_istore_n (lv' := [(3, .int (0 : Int32)), (0, .ref a_this), (1, .int x1), (2, .int x2)]) hx hb dX2_blockRent_1 rfl hl (z_lt rfl) rfl (fun ls hl => ?_)
  refine lv_iload_n hx hb dX2_blockRent_2 rfl (lv_at hl 3 rfl) ?_
  refine lv_aload_n hx hb dX2_blockRent_3 rfl (lv_at hl 1 rfl) ?_
  refine z_get E.1 hw in_wsX20 0 rfl rfl 6 (z_lt rfl) mw_22 (v := .ref a_fronts) rfl dX2_blockRent_4 ?_
  refine lv_iload_n hx hb dX2_blockRent_7 rfl (lv_at hl 2 rfl) ?_
  obtain ⟨h_3, hf⟩ := oA_elim hf
  refine z_iald E.1 hw 2 0 rfl rfl h_3 dX2_blockRent_8 ?_
  refine lv_iadd hx hb dX2_blockRent_9 ?_
  refine lv_aload_n hx hb dX2_blockRent_10 rfl (lv_at hl 1 rfl) ?_
  refine z_get E.1 hw in_wsX20 0 rfl rfl 0 (z_lt rfl) mw_14 (v := .int v_pitches) rfl dX2_blockRent_11 ?_
  refine z_mmin E.1 hl mw_59 mw_60 mw_61 mw_62 (Nat.le_of_ble_eq_true rfl) (Nat.le_of_ble_eq_true rfl) (Nat.le_of_ble_eq_true rfl) (Nat.le_of_ble_eq_true rfl) dX2_blockRent_14 ?_
  obtain ⟨y_4, e_y_4, hf⟩ := oL_elim hf
  refine z_top e_y_4 ?_
  refine lv_istore (lv' := [(4, .int y_4), (3, .int (0 : Int32)), (0, .ref a_this), (1, .int x1), (2, .int x2)]) hx hb dX2_blockRent_17 hl (z_lt rfl) rfl (fun ls hl => ?_)
  refine lv_iload_n hx hb dX2_blockRent_19 rfl (lv_at hl 4 rfl) ?_
  refine lv_istore (lv' := [(5, .int x2), (4, .int y_4), (3, .int (0 : Int32)), (0, .ref a_this), (1, .int x1), (2, .int x2)]) hx hb dX2_blockRent_20 hl (z_lt rfl) rfl (fun ls hl => ?_)
  exact w_X2_blockRent_22 E  n _ _ _ _ hf _ _ _ hw (lv_sub hl [3, 2, 1, 0] rfl)
end
/-! X2_isSeated -/
section
variable {p : Program} {l : Launch} {e : Env} {s : State} {m : MethodId} {args : Array Value} {below : List Frame} {meth : Method} {c : Code} {D : va_G} {A : Nat → Prop} {cI cZ cM : ClassId} {a_this a_rows a_rents a_roofs a_trades a_fronts a_limits a_needy a_clashes a_starts a_standing : Nat} {v_pitches : Int32} {v_traders : Int32} {v_covers : Int32} {v_coversBusy : Int32} {r0 : Int32}
def rmX2_isSeated : Room := { frames := 0, cells := 0, slots := 0, locals := 0 }
abbrev zwX2_isSeated : List Cond := Cond.code yX2_isSeated cX2_isSeated 2 (some .boolean) :: wsAll
set_option maxHeartbeats 4000000 in
set_option maxRecDepth 100000 in
theorem c_X2_isSeated {l : Launch} {D : va_G} {cI cZ cM : ClassId} {a_this a_rows a_rents a_roofs a_trades a_fronts a_limits a_needy a_clashes a_starts a_standing : Nat} {v_pitches : Int32} {v_traders : Int32} {v_covers : Int32} {v_coversBusy : Int32} {r0 : Int32} {sz : Nat} {v_starts : Nat → Int32} {x1 : Int32} (hf : f_X2_isSeated v_starts x1 = some r0) : Met l yX2_isSeated zwX2_isSeated rmX2_isSeated (zPc D (zT cI cZ cM) [.ref a_this, .int x1] [(a_this, .inr (2, [.int v_pitches, .ref a_rows, .ref a_rents, .ref a_roofs, .int v_traders, .ref a_trades, .ref a_fronts, .ref a_limits, .ref a_needy, .ref a_clashes, .int v_covers, .ref a_starts, .ref a_standing, .int v_coversBusy])), (a_starts, .inl (cI, 8, .inl v_starts))] sz) (zQi D (zT cI cZ cM) r0 [(a_this, .inr (2, [.int v_pitches, .ref a_rows, .ref a_rents, .ref a_roofs, .int v_traders, .ref a_trades, .ref a_fronts, .ref a_limits, .ref a_needy, .ref a_clashes, .int v_covers, .ref a_starts, .ref a_standing, .int v_coversBusy])), (a_starts, .inl (cI, 8, .inl v_starts))] (va_A [(a_this, .inr (2, [.int v_pitches, .ref a_rows, .ref a_rents, .ref a_roofs, .int v_traders, .ref a_trades, .ref a_fronts, .ref a_limits, .ref a_needy, .ref a_clashes, .int v_covers, .ref a_starts, .ref a_standing, .int v_coversBusy])), (a_starts, .inl (cI, 8, .inl v_starts))] sz)) 0 0 (va_A [(a_this, .inr (2, [.int v_pitches, .ref a_rows, .ref a_rents, .ref a_roofs, .int v_traders, .ref a_trades, .ref a_fronts, .ref a_limits, .ref a_needy, .ref a_clashes, .int v_covers, .ref a_starts, .ref a_standing, .int v_coversBusy])), (a_starts, .inl (cI, 8, .inl v_starts))] sz) := by
  refine z_met (cc := cX2_isSeated) (maxL := 2) (ret := (some .boolean)) (by decide) rfl (Nat.le_of_ble_eq_true rfl) ?_
  intro p e s m below meth c ls E hsz hw hl
  obtain ⟨⟨hx, hb, hml, hown, hts⟩, hr, hlocks⟩ := id E
  have hl : lv_has ls 2 [(0, .ref a_this), (1, .int x1)] := hl
  unfold f_X2_isSeated at hf
  refine lv_aload_n hx hb dX2_isSeated_0 rfl (lv_at hl 0 rfl) ?_
  refine z_get E.1 hw in_wsX20 0 rfl rfl 11 (z_lt rfl) mw_27 (v := .ref a_starts) rfl dX2_isSeated_1 ?_
  refine lv_iload_n hx hb dX2_isSeated_4 rfl (lv_at hl 1 rfl) ?_
  obtain ⟨h_1, hf⟩ := oA_elim hf
  refine z_iald E.1 hw 1 0 rfl rfl h_1 dX2_isSeated_5 ?_
  refine lv_iconst (v := -1) hx hb dX2_isSeated_6 (by decide) ?_
  refine lv_icmp_eq (tgt := 14) hx hb dX2_isSeated_7 (by decide) (fun hc => ?_) (fun hc => ?_)
  · have hf := oI_pos hc hf
    refine lv_iconst (v := 0) hx hb dX2_isSeated_14 (by decide) ?_
    cases hf
    exact z_zret E rfl rfl hw dX2_isSeated_15
  · have hf := oI_neg hc hf
    refine lv_iconst (v := 1) hx hb dX2_isSeated_10 (by decide) ?_
    refine lv_goto (tgt := 15) hx hb dX2_isSeated_11 (by decide) ?_
    cases hf
    exact z_zret E rfl rfl hw dX2_isSeated_15
end
/-! X2_shareRow -/
section
variable {p : Program} {l : Launch} {e : Env} {s : State} {m : MethodId} {args : Array Value} {below : List Frame} {meth : Method} {c : Code} {D : va_G} {A : Nat → Prop} {cI cZ cM : ClassId} {a_this a_rows a_rents a_roofs a_trades a_fronts a_limits a_needy a_clashes a_starts a_standing : Nat} {v_traders : Int32} {v_covers : Int32} {v_coversBusy : Int32} {r0 : Int32}
def rmX2_shareRow : Room := { frames := 0, cells := 0, slots := 0, locals := 0 }
abbrev zwX2_shareRow : List Cond := Cond.code yX2_shareRow cX2_shareRow 3 (some .boolean) :: wsAll
set_option maxHeartbeats 4000000 in
set_option maxRecDepth 100000 in
theorem c_X2_shareRow {l : Launch} {D : va_G} {cI cZ cM : ClassId} {a_this a_rows a_rents a_roofs a_trades a_fronts a_limits a_needy a_clashes a_starts a_standing : Nat} {v_traders : Int32} {v_covers : Int32} {v_coversBusy : Int32} {r0 : Int32} {sz : Nat} {v_pitches : Int32} {v_rows : Nat → Int32} {x1 : Int32} {x2 : Int32} (hf : f_X2_shareRow v_pitches v_rows x1 x2 = some r0) : Met l yX2_shareRow zwX2_shareRow rmX2_shareRow (zPc D (zT cI cZ cM) [.ref a_this, .int x1, .int x2] [(a_this, .inr (2, [.int v_pitches, .ref a_rows, .ref a_rents, .ref a_roofs, .int v_traders, .ref a_trades, .ref a_fronts, .ref a_limits, .ref a_needy, .ref a_clashes, .int v_covers, .ref a_starts, .ref a_standing, .int v_coversBusy])), (a_rows, .inl (cI, 24, .inl v_rows))] sz) (zQi D (zT cI cZ cM) r0 [(a_this, .inr (2, [.int v_pitches, .ref a_rows, .ref a_rents, .ref a_roofs, .int v_traders, .ref a_trades, .ref a_fronts, .ref a_limits, .ref a_needy, .ref a_clashes, .int v_covers, .ref a_starts, .ref a_standing, .int v_coversBusy])), (a_rows, .inl (cI, 24, .inl v_rows))] (va_A [(a_this, .inr (2, [.int v_pitches, .ref a_rows, .ref a_rents, .ref a_roofs, .int v_traders, .ref a_trades, .ref a_fronts, .ref a_limits, .ref a_needy, .ref a_clashes, .int v_covers, .ref a_starts, .ref a_standing, .int v_coversBusy])), (a_rows, .inl (cI, 24, .inl v_rows))] sz)) 0 0 (va_A [(a_this, .inr (2, [.int v_pitches, .ref a_rows, .ref a_rents, .ref a_roofs, .int v_traders, .ref a_trades, .ref a_fronts, .ref a_limits, .ref a_needy, .ref a_clashes, .int v_covers, .ref a_starts, .ref a_standing, .int v_coversBusy])), (a_rows, .inl (cI, 24, .inl v_rows))] sz) := by
  refine z_met (cc := cX2_shareRow) (maxL := 3) (ret := (some .boolean)) (by decide) rfl (Nat.le_of_ble_eq_true rfl) ?_
  intro p e s m below meth c ls E hsz hw hl
  obtain ⟨⟨hx, hb, hml, hown, hts⟩, hr, hlocks⟩ := id E
  have hl : lv_has ls 3 [(0, .ref a_this), (1, .int x1), (2, .int x2)] := hl
  unfold f_X2_shareRow at hf
  refine lv_iload_n hx hb dX2_shareRow_0 rfl (lv_at hl 1 rfl) ?_
  refine lv_if_lt (tgt := 36) hx hb dX2_shareRow_1 (by decide) (fun hc => ?_) (fun hc => ?_)
  · have hf := oI_pos hc hf
    refine lv_iconst (v := 0) hx hb dX2_shareRow_36 (by decide) ?_
    cases hf
    exact z_zret E rfl rfl hw dX2_shareRow_37
  · have hf := oI_neg hc hf
    refine lv_iload_n hx hb dX2_shareRow_4 rfl (lv_at hl 1 rfl) ?_
    refine lv_iload_n hx hb dX2_shareRow_5 rfl (lv_at hl 2 rfl) ?_
    refine lv_icmp_gt (tgt := 36) hx hb dX2_shareRow_6 (by decide) (fun hc => ?_) (fun hc => ?_)
    · have hf := oI_pos hc hf
      refine lv_iconst (v := 0) hx hb dX2_shareRow_36 (by decide) ?_
      cases hf
      exact z_zret E rfl rfl hw dX2_shareRow_37
    · have hf := oI_neg hc hf
      refine lv_iload_n hx hb dX2_shareRow_9 rfl (lv_at hl 2 rfl) ?_
      refine lv_aload_n hx hb dX2_shareRow_10 rfl (lv_at hl 0 rfl) ?_
      refine z_get E.1 hw in_wsX20 0 rfl rfl 0 (z_lt rfl) mw_14 (v := .int v_pitches) rfl dX2_shareRow_11 ?_
      refine lv_icmp_ge (tgt := 36) hx hb dX2_shareRow_14 (by decide) (fun hc => ?_) (fun hc => ?_)
      · have hf := oI_pos hc hf
        refine lv_iconst (v := 0) hx hb dX2_shareRow_36 (by decide) ?_
        cases hf
        exact z_zret E rfl rfl hw dX2_shareRow_37
      · have hf := oI_neg hc hf
        refine lv_aload_n hx hb dX2_shareRow_17 rfl (lv_at hl 0 rfl) ?_
        refine z_get E.1 hw in_wsX20 0 rfl rfl 1 (z_lt rfl) mw_16 (v := .ref a_rows) rfl dX2_shareRow_18 ?_
        refine lv_iload_n hx hb dX2_shareRow_21 rfl (lv_at hl 1 rfl) ?_
        obtain ⟨h_1, hf⟩ := oA_elim hf
        refine z_iald E.1 hw 1 0 rfl rfl h_1 dX2_shareRow_22 ?_
        refine lv_aload_n hx hb dX2_shareRow_23 rfl (lv_at hl 0 rfl) ?_
        refine z_get E.1 hw in_wsX20 0 rfl rfl 1 (z_lt rfl) mw_16 (v := .ref a_rows) rfl dX2_shareRow_24 ?_
        refine lv_iload_n hx hb dX2_shareRow_27 rfl (lv_at hl 2 rfl) ?_
        obtain ⟨h_2, hf⟩ := oA_elim hf
        refine z_iald E.1 hw 1 0 rfl rfl h_2 dX2_shareRow_28 ?_
        refine lv_icmp_ne (tgt := 36) hx hb dX2_shareRow_29 (by decide) (fun hc => ?_) (fun hc => ?_)
        · have hf := oI_neg hc hf
          refine lv_iconst (v := 0) hx hb dX2_shareRow_36 (by decide) ?_
          cases hf
          exact z_zret E rfl rfl hw dX2_shareRow_37
        · have hf := oI_pos hc hf
          refine lv_iconst (v := 1) hx hb dX2_shareRow_32 (by decide) ?_
          refine lv_goto (tgt := 37) hx hb dX2_shareRow_33 (by decide) ?_
          cases hf
          exact z_zret E rfl rfl hw dX2_shareRow_37
end
/-! X2_isInOneRow -/
section
variable {p : Program} {l : Launch} {e : Env} {s : State} {m : MethodId} {args : Array Value} {below : List Frame} {meth : Method} {c : Code} {D : va_G} {A : Nat → Prop} {cI cZ cM : ClassId} {a_this a_rows a_rents a_roofs a_trades a_fronts a_limits a_needy a_clashes a_starts a_standing : Nat} {v_traders : Int32} {v_covers : Int32} {v_coversBusy : Int32} {r0 : Int32}
def rmX2_isInOneRow : Room := { frames := 1, cells := 0, slots := 0, locals := 22 }
abbrev zwX2_isInOneRow : List Cond := Cond.code yX2_isInOneRow cX2_isInOneRow 3 (some .boolean) :: wsAll
set_option maxHeartbeats 4000000 in
set_option maxRecDepth 100000 in
theorem c_X2_isInOneRow {l : Launch} {D : va_G} {cI cZ cM : ClassId} {a_this a_rows a_rents a_roofs a_trades a_fronts a_limits a_needy a_clashes a_starts a_standing : Nat} {v_traders : Int32} {v_covers : Int32} {v_coversBusy : Int32} {r0 : Int32} {sz : Nat} {v_pitches : Int32} {v_rows : Nat → Int32} {v_fronts : Nat → Int32} {x1 : Int32} {x2 : Int32} (hf : f_X2_isInOneRow v_pitches v_rows v_fronts x1 x2 = some r0) : Met l yX2_isInOneRow zwX2_isInOneRow rmX2_isInOneRow (zPc D (zT cI cZ cM) [.ref a_this, .int x1, .int x2] [(a_this, .inr (2, [.int v_pitches, .ref a_rows, .ref a_rents, .ref a_roofs, .int v_traders, .ref a_trades, .ref a_fronts, .ref a_limits, .ref a_needy, .ref a_clashes, .int v_covers, .ref a_starts, .ref a_standing, .int v_coversBusy])), (a_rows, .inl (cI, 24, .inl v_rows)), (a_fronts, .inl (cI, 8, .inl v_fronts))] sz) (zQi D (zT cI cZ cM) r0 [(a_this, .inr (2, [.int v_pitches, .ref a_rows, .ref a_rents, .ref a_roofs, .int v_traders, .ref a_trades, .ref a_fronts, .ref a_limits, .ref a_needy, .ref a_clashes, .int v_covers, .ref a_starts, .ref a_standing, .int v_coversBusy])), (a_rows, .inl (cI, 24, .inl v_rows)), (a_fronts, .inl (cI, 8, .inl v_fronts))] (va_A [(a_this, .inr (2, [.int v_pitches, .ref a_rows, .ref a_rents, .ref a_roofs, .int v_traders, .ref a_trades, .ref a_fronts, .ref a_limits, .ref a_needy, .ref a_clashes, .int v_covers, .ref a_starts, .ref a_standing, .int v_coversBusy])), (a_rows, .inl (cI, 24, .inl v_rows)), (a_fronts, .inl (cI, 8, .inl v_fronts))] sz)) 0 0 (va_A [(a_this, .inr (2, [.int v_pitches, .ref a_rows, .ref a_rents, .ref a_roofs, .int v_traders, .ref a_trades, .ref a_fronts, .ref a_limits, .ref a_needy, .ref a_clashes, .int v_covers, .ref a_starts, .ref a_standing, .int v_coversBusy])), (a_rows, .inl (cI, 24, .inl v_rows)), (a_fronts, .inl (cI, 8, .inl v_fronts))] sz) := by
  refine z_met (cc := cX2_isInOneRow) (maxL := 3) (ret := (some .boolean)) (by decide) rfl (Nat.le_of_ble_eq_true rfl) ?_
  intro p e s m below meth c ls E hsz hw hl
  obtain ⟨⟨hx, hb, hml, hown, hts⟩, hr, hlocks⟩ := id E
  have hl : lv_has ls 3 [(0, .ref a_this), (1, .int x1), (2, .int x2)] := hl
  unfold f_X2_isInOneRow at hf
  refine lv_aload_n hx hb dX2_isInOneRow_0 rfl (lv_at hl 0 rfl) ?_
  refine lv_iload_n hx hb dX2_isInOneRow_1 rfl (lv_at hl 2 rfl) ?_
  refine lv_iload_n hx hb dX2_isInOneRow_2 rfl (lv_at hl 2 rfl) ?_
  refine lv_aload_n hx hb dX2_isInOneRow_3 rfl (lv_at hl 0 rfl) ?_
  refine z_get E.1 hw in_wsX20 0 rfl rfl 6 (z_lt rfl) mw_22 (v := .ref a_fronts) rfl dX2_isInOneRow_4 ?_
  refine lv_iload_n hx hb dX2_isInOneRow_7 rfl (lv_at hl 1 rfl) ?_
  obtain ⟨h_1, hf⟩ := oA_elim hf
  refine z_iald E.1 hw 2 0 rfl rfl h_1 dX2_isInOneRow_8 ?_
  refine lv_iadd hx hb dX2_isInOneRow_9 ?_
  refine lv_iconst (v := 1) hx hb dX2_isInOneRow_10 (by decide) ?_
  refine lv_isub hx hb dX2_isInOneRow_11 ?_
  obtain ⟨r_2, h_3, hf⟩ := oB_elim hf
  refine z_callVi (ws' := [(a_this, .inr (2, [.int v_pitches, .ref a_rows, .ref a_rents, .ref a_roofs, .int v_traders, .ref a_trades, .ref a_fronts, .ref a_limits, .ref a_needy, .ref a_clashes, .int v_covers, .ref a_starts, .ref a_standing, .int v_coversBusy])), (a_rows, .inl (cI, 24, .inl v_rows)), (a_fronts, .inl (cI, 8, .inl v_fronts))]) (wr := [(a_fronts, .inl (cI, 8, .inl v_fronts))]) (As := [.int x2, .int ((x2 + (v_fronts (x1).toNatClampNeg)) - (1 : Int32))]) (rest := []) E.1 hl hw (c_X2_shareRow h_3) (cwV 2 hts (z_gV mw_75 mw_76 mw_77 mw_9 mw_78) rfl rfl rfl (by decide +kernel) ⟨(Nat.le_of_ble_eq_true rfl), (Nat.le_of_ble_eq_true rfl)⟩) [0, 1] [2] rfl rfl rfl rfl rfl rfl rfl (q0 := 0) rfl rfl rfl (Nat.le_of_ble_eq_true rfl) dX2_isInOneRow_12 ⟨Nat.le_of_ble_eq_true rfl, Nat.le_of_ble_eq_true rfl⟩ (fun H locs hw => ?_)
  obtain ⟨h_4, hf⟩ := oG_elim hf
  cases hf
  exact z_zret E rfl (z_nar h_4) hw dX2_isInOneRow_15
end
/-! X2_isBlockFree -/
section
variable {p : Program} {l : Launch} {e : Env} {s : State} {m : MethodId} {args : Array Value} {below : List Frame} {meth : Method} {c : Code} {D : va_G} {A : Nat → Prop} {cI cZ cM : ClassId} {a_this a_rows a_rents a_roofs a_trades a_fronts a_limits a_needy a_clashes a_starts a_standing : Nat} {v_traders : Int32} {v_covers : Int32} {v_coversBusy : Int32} {r0 : Int32}
def rmX2_isBlockFree : Room := { frames := 1, cells := 0, slots := 0, locals := 21 }
abbrev zwX2_isBlockFree : List Cond := Cond.code yX2_isBlockFree cX2_isBlockFree 5 (some .boolean) :: wsAll
set_option maxHeartbeats 4000000 in
set_option maxRecDepth 100000 in
theorem w_X2_isBlockFree_19 {n : Nat} {v_pitches : Int32} {v_fronts : Nat → Int32} (E : zE p s m args meth c cX2_isBlockFree 5 (some .boolean) zwX2_isBlockFree RX2) : ∀ (fu : Nat), ∀ (x3 : Int32) (x4 : Int32) (v_standing : Nat → Int32), f_X2_isBlockFree_19 n fu x3 x4 v_standing = some r0 → ∀ (H : Heap) (locs : List Loc) (ls : Array Slot), zW D (zT cI cZ cM) A s [(a_this, .inr (2, [.int v_pitches, .ref a_rows, .ref a_rents, .ref a_roofs, .int v_traders, .ref a_trades, .ref a_fronts, .ref a_limits, .ref a_needy, .ref a_clashes, .int v_covers, .ref a_starts, .ref a_standing, .int v_coversBusy])), (a_fronts, .inl (cI, 8, .inl v_fronts)), (a_standing, .inl (cI, 24, .inl v_standing))] H locs → lv_has ls 5 [(0, .ref a_this), (3, .int x3), (4, .int x4)] → W p l e rmX2_isBlockFree s m args below meth c H locs 0 0 (MQ below (zQi D (zT cI cZ cM) r0 [(a_this, .inr (2, [.int v_pitches, .ref a_rows, .ref a_rents, .ref a_roofs, .int v_traders, .ref a_trades, .ref a_fronts, .ref a_limits, .ref a_needy, .ref a_clashes, .int v_covers, .ref a_starts, .ref a_standing, .int v_coversBusy])), (a_fronts, .inl (cI, 8, .inl v_fronts)), (a_standing, .inl (cI, 24, .inl v_standing))] A) args s 0 0 A) (F0 m 19 ls []) := by
  obtain ⟨⟨hx, hb, hml, hown, hts⟩, hr, hlocks⟩ := id E
  intro fu
  induction fu with
  | zero => intro x3 x4 v_standing hf; rw [f_X2_isBlockFree_19.eq_1] at hf; cases hf
  | succ fu ih =>
    intro x3 x4 v_standing hf H locs ls hw hl
    rw [f_X2_isBlockFree_19.eq_2] at hf
    refine lv_iload hx hb dX2_isBlockFree_19 (lv_at hl 2 rfl) ?_
    refine lv_iload_n hx hb dX2_isBlockFree_21 rfl (lv_at hl 1 rfl) ?_
    refine lv_icmp_ge (tgt := 44) hx hb dX2_isBlockFree_22 (by decide) (fun hc => ?_) (fun hc => ?_)
    · have hf := oI_pos hc hf
      refine lv_iconst (v := 1) hx hb dX2_isBlockFree_44 (by decide) ?_
      cases hf
      exact z_zret E rfl rfl hw dX2_isBlockFree_45
    · have hf := oI_neg hc hf
      refine lv_aload_n hx hb dX2_isBlockFree_25 rfl (lv_at hl 0 rfl) ?_
      refine z_get E.1 hw in_wsX20 0 rfl rfl 12 (z_lt rfl) mw_28 (v := .ref a_standing) rfl dX2_isBlockFree_26 ?_
      refine lv_iload hx hb dX2_isBlockFree_29 (lv_at hl 2 rfl) ?_
      obtain ⟨h_1, hf⟩ := oA_elim hf
      refine z_iald E.1 hw 2 0 rfl rfl h_1 dX2_isBlockFree_31 ?_
      refine lv_iconst (v := -1) hx hb dX2_isBlockFree_32 (by decide) ?_
      refine lv_icmp_eq (tgt := 38) hx hb dX2_isBlockFree_33 (by decide) (fun hc => ?_) (fun hc => ?_)
      · have hf := oI_pos hc hf
        refine lv_iinc (v := (x4 + (1 : Int32))) (lv' := [(4, .int (x4 + (1 : Int32))), (0, .ref a_this), (3, .int x3)]) hx hb dX2_isBlockFree_38 hl (k := 2) rfl rfl (z_lt rfl) rfl (fun ls hl => ?_)
        refine lv_goto (tgt := 19) hx hb dX2_isBlockFree_41 (by decide) ?_
        exact ih _ _ _ hf _ _ _ hw (lv_sub hl [1, 2, 0] rfl)
      · have hf := oI_neg hc hf
        refine lv_iconst (v := 0) hx hb dX2_isBlockFree_36 (by decide) ?_
        cases hf
        exact z_zret E rfl rfl hw dX2_isBlockFree_37
set_option maxHeartbeats 4000000 in
set_option maxRecDepth 100000 in
theorem c_X2_isBlockFree {l : Launch} {D : va_G} {cI cZ cM : ClassId} {a_this a_rows a_rents a_roofs a_trades a_fronts a_limits a_needy a_clashes a_starts a_standing : Nat} {v_traders : Int32} {v_covers : Int32} {v_coversBusy : Int32} {r0 : Int32} {sz : Nat} {n : Nat} {v_pitches : Int32} {v_fronts : Nat → Int32} {v_standing : Nat → Int32} {x1 : Int32} {x2 : Int32} (hf : f_X2_isBlockFree n v_pitches v_fronts v_standing x1 x2 = some r0) : Met l yX2_isBlockFree zwX2_isBlockFree rmX2_isBlockFree (zPc D (zT cI cZ cM) [.ref a_this, .int x1, .int x2] [(a_this, .inr (2, [.int v_pitches, .ref a_rows, .ref a_rents, .ref a_roofs, .int v_traders, .ref a_trades, .ref a_fronts, .ref a_limits, .ref a_needy, .ref a_clashes, .int v_covers, .ref a_starts, .ref a_standing, .int v_coversBusy])), (a_fronts, .inl (cI, 8, .inl v_fronts)), (a_standing, .inl (cI, 24, .inl v_standing))] sz) (zQi D (zT cI cZ cM) r0 [(a_this, .inr (2, [.int v_pitches, .ref a_rows, .ref a_rents, .ref a_roofs, .int v_traders, .ref a_trades, .ref a_fronts, .ref a_limits, .ref a_needy, .ref a_clashes, .int v_covers, .ref a_starts, .ref a_standing, .int v_coversBusy])), (a_fronts, .inl (cI, 8, .inl v_fronts)), (a_standing, .inl (cI, 24, .inl v_standing))] (va_A [(a_this, .inr (2, [.int v_pitches, .ref a_rows, .ref a_rents, .ref a_roofs, .int v_traders, .ref a_trades, .ref a_fronts, .ref a_limits, .ref a_needy, .ref a_clashes, .int v_covers, .ref a_starts, .ref a_standing, .int v_coversBusy])), (a_fronts, .inl (cI, 8, .inl v_fronts)), (a_standing, .inl (cI, 24, .inl v_standing))] sz)) 0 0 (va_A [(a_this, .inr (2, [.int v_pitches, .ref a_rows, .ref a_rents, .ref a_roofs, .int v_traders, .ref a_trades, .ref a_fronts, .ref a_limits, .ref a_needy, .ref a_clashes, .int v_covers, .ref a_starts, .ref a_standing, .int v_coversBusy])), (a_fronts, .inl (cI, 8, .inl v_fronts)), (a_standing, .inl (cI, 24, .inl v_standing))] sz) := by
  refine z_met (cc := cX2_isBlockFree) (maxL := 5) (ret := (some .boolean)) (by decide) rfl (Nat.le_of_ble_eq_true rfl) ?_
  intro p e s m below meth c ls E hsz hw hl
  obtain ⟨⟨hx, hb, hml, hown, hts⟩, hr, hlocks⟩ := id E
  have hl : lv_has ls 5 [(0, .ref a_this), (1, .int x1), (2, .int x2)] := hl
  unfold f_X2_isBlockFree at hf
  refine lv_iload_n hx hb dX2_isBlockFree_0 rfl (lv_at hl 2 rfl) ?_
  refine lv_aload_n hx hb dX2_isBlockFree_1 rfl (lv_at hl 0 rfl) ?_
  refine z_get E.1 hw in_wsX20 0 rfl rfl 6 (z_lt rfl) mw_22 (v := .ref a_fronts) rfl dX2_isBlockFree_2 ?_
  refine lv_iload_n hx hb dX2_isBlockFree_5 rfl (lv_at hl 1 rfl) ?_
  obtain ⟨h_2, hf⟩ := oA_elim hf
  refine z_iald E.1 hw 1 0 rfl rfl h_2 dX2_isBlockFree_6 ?_
  refine lv_iadd hx hb dX2_isBlockFree_7 ?_
  refine lv_aload_n hx hb dX2_isBlockFree_8 rfl (lv_at hl 0 rfl) ?_
  refine z_get E.1 hw in_wsX20 0 rfl rfl 0 (z_lt rfl) mw_14 (v := .int v_pitches) rfl dX2_isBlockFree_9 ?_
  refine z_mmin E.1 hl mw_59 mw_60 mw_61 mw_62 (Nat.le_of_ble_eq_true rfl) (Nat.le_of_ble_eq_true rfl) (Nat.le_of_ble_eq_true rfl) (Nat.le_of_ble_eq_true rfl) dX2_isBlockFree_12 ?_
  obtain ⟨y_3, e_y_3, hf⟩ := oL_elim hf
  refine z_top e_y_3 ?_
  refine lv_istore_n (lv' := [(3, .int y_3), (0, .ref a_this), (1, .int x1), (2, .int x2)]) hx hb dX2_isBlockFree_15 rfl hl (z_lt rfl) rfl (fun ls hl => ?_)
  refine lv_iload_n hx hb dX2_isBlockFree_16 rfl (lv_at hl 3 rfl) ?_
  refine lv_istore (lv' := [(4, .int x2), (3, .int y_3), (0, .ref a_this), (1, .int x1), (2, .int x2)]) hx hb dX2_isBlockFree_17 hl (z_lt rfl) rfl (fun ls hl => ?_)
  exact w_X2_isBlockFree_19 E  n _ _ _ hf _ _ _ hw (lv_sub hl [2, 1, 0] rfl)
end
/-! X2_affords -/
section
variable {p : Program} {l : Launch} {e : Env} {s : State} {m : MethodId} {args : Array Value} {below : List Frame} {meth : Method} {c : Code} {D : va_G} {A : Nat → Prop} {cI cZ cM : ClassId} {a_this a_rows a_rents a_roofs a_trades a_fronts a_limits a_needy a_clashes a_starts a_standing : Nat} {v_traders : Int32} {v_covers : Int32} {v_coversBusy : Int32} {r0 : Int32}
def rmX2_affords : Room := { frames := 2, cells := 0, slots := 0, locals := 46 }
abbrev zwX2_affords : List Cond := Cond.code yX2_affords cX2_affords 3 (some .boolean) :: wsAll
set_option maxHeartbeats 4000000 in
set_option maxRecDepth 100000 in
theorem c_X2_affords {l : Launch} {D : va_G} {cI cZ cM : ClassId} {a_this a_rows a_rents a_roofs a_trades a_fronts a_limits a_needy a_clashes a_starts a_standing : Nat} {v_traders : Int32} {v_covers : Int32} {v_coversBusy : Int32} {r0 : Int32} {sz : Nat} {n : Nat} {v_pitches : Int32} {v_rents : Nat → Int32} {v_fronts : Nat → Int32} {v_limits : Nat → Int32} {x1 : Int32} {x2 : Int32} (hf : f_X2_affords n v_pitches v_rents v_fronts v_limits x1 x2 = some r0) : Met l yX2_affords zwX2_affords rmX2_affords (zPc D (zT cI cZ cM) [.ref a_this, .int x1, .int x2] [(a_this, .inr (2, [.int v_pitches, .ref a_rows, .ref a_rents, .ref a_roofs, .int v_traders, .ref a_trades, .ref a_fronts, .ref a_limits, .ref a_needy, .ref a_clashes, .int v_covers, .ref a_starts, .ref a_standing, .int v_coversBusy])), (a_rents, .inl (cI, 24, .inl v_rents)), (a_fronts, .inl (cI, 8, .inl v_fronts)), (a_limits, .inl (cI, 8, .inl v_limits))] sz) (zQi D (zT cI cZ cM) r0 [(a_this, .inr (2, [.int v_pitches, .ref a_rows, .ref a_rents, .ref a_roofs, .int v_traders, .ref a_trades, .ref a_fronts, .ref a_limits, .ref a_needy, .ref a_clashes, .int v_covers, .ref a_starts, .ref a_standing, .int v_coversBusy])), (a_rents, .inl (cI, 24, .inl v_rents)), (a_fronts, .inl (cI, 8, .inl v_fronts)), (a_limits, .inl (cI, 8, .inl v_limits))] (va_A [(a_this, .inr (2, [.int v_pitches, .ref a_rows, .ref a_rents, .ref a_roofs, .int v_traders, .ref a_trades, .ref a_fronts, .ref a_limits, .ref a_needy, .ref a_clashes, .int v_covers, .ref a_starts, .ref a_standing, .int v_coversBusy])), (a_rents, .inl (cI, 24, .inl v_rents)), (a_fronts, .inl (cI, 8, .inl v_fronts)), (a_limits, .inl (cI, 8, .inl v_limits))] sz)) 0 0 (va_A [(a_this, .inr (2, [.int v_pitches, .ref a_rows, .ref a_rents, .ref a_roofs, .int v_traders, .ref a_trades, .ref a_fronts, .ref a_limits, .ref a_needy, .ref a_clashes, .int v_covers, .ref a_starts, .ref a_standing, .int v_coversBusy])), (a_rents, .inl (cI, 24, .inl v_rents)), (a_fronts, .inl (cI, 8, .inl v_fronts)), (a_limits, .inl (cI, 8, .inl v_limits))] sz) := by
  refine z_met (cc := cX2_affords) (maxL := 3) (ret := (some .boolean)) (by decide) rfl (Nat.le_of_ble_eq_true rfl) ?_
  intro p e s m below meth c ls E hsz hw hl
  obtain ⟨⟨hx, hb, hml, hown, hts⟩, hr, hlocks⟩ := id E
  have hl : lv_has ls 3 [(0, .ref a_this), (1, .int x1), (2, .int x2)] := hl
  unfold f_X2_affords at hf
  refine lv_aload_n hx hb dX2_affords_0 rfl (lv_at hl 0 rfl) ?_
  refine lv_iload_n hx hb dX2_affords_1 rfl (lv_at hl 1 rfl) ?_
  refine lv_iload_n hx hb dX2_affords_2 rfl (lv_at hl 2 rfl) ?_
  obtain ⟨r_1, h_2, hf⟩ := oB_elim hf
  refine z_callVi (ws' := [(a_this, .inr (2, [.int v_pitches, .ref a_rows, .ref a_rents, .ref a_roofs, .int v_traders, .ref a_trades, .ref a_fronts, .ref a_limits, .ref a_needy, .ref a_clashes, .int v_covers, .ref a_starts, .ref a_standing, .int v_coversBusy])), (a_rents, .inl (cI, 24, .inl v_rents)), (a_fronts, .inl (cI, 8, .inl v_fronts)), (a_limits, .inl (cI, 8, .inl v_limits))]) (wr := [(a_limits, .inl (cI, 8, .inl v_limits))]) (As := [.int x1, .int x2]) (rest := []) E.1 hl hw (c_X2_blockRent h_2) (cwV 2 hts (z_gV mw_55 mw_56 mw_57 mw_9 mw_58) rfl rfl rfl (by decide +kernel) ⟨(Nat.le_of_ble_eq_true rfl), (Nat.le_of_ble_eq_true rfl)⟩) [0, 1, 2] [3] rfl rfl rfl rfl rfl rfl rfl (q0 := 0) rfl rfl rfl (Nat.le_of_ble_eq_true rfl) dX2_affords_3 ⟨Nat.le_of_ble_eq_true rfl, Nat.le_of_ble_eq_true rfl⟩ (fun H locs hw => ?_)
  refine lv_aload_n hx hb dX2_affords_6 rfl (lv_at hl 0 rfl) ?_
  refine z_get E.1 hw in_wsX20 0 rfl rfl 7 (z_lt rfl) mw_23 (v := .ref a_limits) rfl dX2_affords_7 ?_
  refine lv_iload_n hx hb dX2_affords_10 rfl (lv_at hl 1 rfl) ?_
  obtain ⟨h_3, hf⟩ := oA_elim hf
  refine z_iald E.1 hw 3 0 rfl rfl h_3 dX2_affords_11 ?_
  refine lv_icmp_gt (tgt := 19) hx hb dX2_affords_12 (by decide) (fun hc => ?_) (fun hc => ?_)
  · have hf := oI_pos hc hf
    refine lv_iconst (v := 0) hx hb dX2_affords_19 (by decide) ?_
    cases hf
    exact z_zret E rfl rfl hw dX2_affords_20
  · have hf := oI_neg hc hf
    refine lv_iconst (v := 1) hx hb dX2_affords_15 (by decide) ?_
    refine lv_goto (tgt := 20) hx hb dX2_affords_16 (by decide) ?_
    cases hf
    exact z_zret E rfl rfl hw dX2_affords_20
end
/-! X2_openPitches -/
section
variable {p : Program} {l : Launch} {e : Env} {s : State} {m : MethodId} {args : Array Value} {below : List Frame} {meth : Method} {c : Code} {D : va_G} {A : Nat → Prop} {cI cZ cM : ClassId} {a_this a_rows a_rents a_roofs a_trades a_fronts a_limits a_needy a_clashes a_starts a_standing : Nat} {v_traders : Int32} {v_covers : Int32} {v_coversBusy : Int32} {r0 : Int32}
def rmX2_openPitches : Room := { frames := 1, cells := 0, slots := 0, locals := 21 }
abbrev zwX2_openPitches : List Cond := Cond.code yX2_openPitches cX2_openPitches 6 (some .int) :: wsAll
set_option maxHeartbeats 4000000 in
set_option maxRecDepth 100000 in
theorem w_X2_openPitches_42 {n : Nat} {v_pitches : Int32} {v_fronts : Nat → Int32} (E : zE p s m args meth c cX2_openPitches 6 (some .int) zwX2_openPitches RX2) {k22 : Int32 → Int32 → Int32 → (Nat → Int32) → Option (Int32)} (hk22 : ∀ (x3 : Int32) (x4 : Int32) (x5 : Int32) (v_roofs : Nat → Int32), k22 x3 x4 x5 v_roofs = some r0 → ∀ (H : Heap) (locs : List Loc) (ls : Array Slot), zW D (zT cI cZ cM) A s [(a_this, .inr (2, [.int v_pitches, .ref a_rows, .ref a_rents, .ref a_roofs, .int v_traders, .ref a_trades, .ref a_fronts, .ref a_limits, .ref a_needy, .ref a_clashes, .int v_covers, .ref a_starts, .ref a_standing, .int v_coversBusy])), (a_roofs, .inl (cZ, 24, .inl v_roofs)), (a_fronts, .inl (cI, 8, .inl v_fronts))] H locs → lv_has ls 6 [(0, .ref a_this), (3, .int x3), (4, .int x4), (5, .int x5)] → W p l e rmX2_openPitches s m args below meth c H locs 0 0 (MQ below (zQi D (zT cI cZ cM) r0 [(a_this, .inr (2, [.int v_pitches, .ref a_rows, .ref a_rents, .ref a_roofs, .int v_traders, .ref a_trades, .ref a_fronts, .ref a_limits, .ref a_needy, .ref a_clashes, .int v_covers, .ref a_starts, .ref a_standing, .int v_coversBusy])), (a_roofs, .inl (cZ, 24, .inl v_roofs)), (a_fronts, .inl (cI, 8, .inl v_fronts))] A) args s 0 0 A) (F0 m 22 ls [])) : ∀ (x3 : Int32) (x4 : Int32) (x5 : Int32) (v_roofs : Nat → Int32), f_X2_openPitches_42 n k22 x3 x4 x5 v_roofs = some r0 → ∀ (H : Heap) (locs : List Loc) (ls : Array Slot), zW D (zT cI cZ cM) A s [(a_this, .inr (2, [.int v_pitches, .ref a_rows, .ref a_rents, .ref a_roofs, .int v_traders, .ref a_trades, .ref a_fronts, .ref a_limits, .ref a_needy, .ref a_clashes, .int v_covers, .ref a_starts, .ref a_standing, .int v_coversBusy])), (a_roofs, .inl (cZ, 24, .inl v_roofs)), (a_fronts, .inl (cI, 8, .inl v_fronts))] H locs → lv_has ls 6 [(0, .ref a_this), (3, .int x3), (4, .int x4), (5, .int x5)] → W p l e rmX2_openPitches s m args below meth c H locs 0 0 (MQ below (zQi D (zT cI cZ cM) r0 [(a_this, .inr (2, [.int v_pitches, .ref a_rows, .ref a_rents, .ref a_roofs, .int v_traders, .ref a_trades, .ref a_fronts, .ref a_limits, .ref a_needy, .ref a_clashes, .int v_covers, .ref a_starts, .ref a_standing, .int v_coversBusy])), (a_roofs, .inl (cZ, 24, .inl v_roofs)), (a_fronts, .inl (cI, 8, .inl v_fronts))] A) args s 0 0 A) (F0 m 42 ls []) := by
  obtain ⟨⟨hx, hb, hml, hown, hts⟩, hr, hlocks⟩ := id E
  intro x3 x4 x5 v_roofs hf H locs ls hw hl
  unfold f_X2_openPitches_42 at hf
  refine lv_iinc (v := (x5 + (1 : Int32))) (lv' := [(5, .int (x5 + (1 : Int32))), (0, .ref a_this), (3, .int x3), (4, .int x4)]) hx hb dX2_openPitches_42 hl (k := 3) rfl rfl (z_lt rfl) rfl (fun ls hl => ?_)
  refine lv_goto (tgt := 22) hx hb dX2_openPitches_45 (by decide) ?_
  exact hk22 _ _ _ _ hf _ _ _ hw (lv_sub hl [1, 2, 3, 0] rfl)
set_option maxHeartbeats 4000000 in
set_option maxRecDepth 100000 in
theorem w_X2_openPitches_22 {n : Nat} {v_pitches : Int32} {v_fronts : Nat → Int32} (E : zE p s m args meth c cX2_openPitches 6 (some .int) zwX2_openPitches RX2) : ∀ (fu : Nat), ∀ (x3 : Int32) (x4 : Int32) (x5 : Int32) (v_roofs : Nat → Int32), f_X2_openPitches_22 n fu x3 x4 x5 v_roofs = some r0 → ∀ (H : Heap) (locs : List Loc) (ls : Array Slot), zW D (zT cI cZ cM) A s [(a_this, .inr (2, [.int v_pitches, .ref a_rows, .ref a_rents, .ref a_roofs, .int v_traders, .ref a_trades, .ref a_fronts, .ref a_limits, .ref a_needy, .ref a_clashes, .int v_covers, .ref a_starts, .ref a_standing, .int v_coversBusy])), (a_roofs, .inl (cZ, 24, .inl v_roofs)), (a_fronts, .inl (cI, 8, .inl v_fronts))] H locs → lv_has ls 6 [(0, .ref a_this), (3, .int x3), (4, .int x4), (5, .int x5)] → W p l e rmX2_openPitches s m args below meth c H locs 0 0 (MQ below (zQi D (zT cI cZ cM) r0 [(a_this, .inr (2, [.int v_pitches, .ref a_rows, .ref a_rents, .ref a_roofs, .int v_traders, .ref a_trades, .ref a_fronts, .ref a_limits, .ref a_needy, .ref a_clashes, .int v_covers, .ref a_starts, .ref a_standing, .int v_coversBusy])), (a_roofs, .inl (cZ, 24, .inl v_roofs)), (a_fronts, .inl (cI, 8, .inl v_fronts))] A) args s 0 0 A) (F0 m 22 ls []) := by
  obtain ⟨⟨hx, hb, hml, hown, hts⟩, hr, hlocks⟩ := id E
  intro fu
  induction fu with
  | zero => intro x3 x4 x5 v_roofs hf; rw [f_X2_openPitches_22.eq_1] at hf; cases hf
  | succ fu ih =>
    intro x3 x4 x5 v_roofs hf H locs ls hw hl
    rw [f_X2_openPitches_22.eq_2] at hf
    refine lv_iload hx hb dX2_openPitches_22 (lv_at hl 3 rfl) ?_
    refine lv_iload hx hb dX2_openPitches_24 (lv_at hl 2 rfl) ?_
    refine lv_icmp_ge (tgt := 48) hx hb dX2_openPitches_26 (by decide) (fun hc => ?_) (fun hc => ?_)
    · have hf := oI_pos hc hf
      refine lv_iload_n hx hb dX2_openPitches_48 rfl (lv_at hl 1 rfl) ?_
      cases hf
      exact z_iret E rfl hw dX2_openPitches_49
    · have hf := oI_neg hc hf
      refine lv_aload_n hx hb dX2_openPitches_29 rfl (lv_at hl 0 rfl) ?_
      refine z_get E.1 hw in_wsX20 0 rfl rfl 3 (z_lt rfl) mw_19 (v := .ref a_roofs) rfl dX2_openPitches_30 ?_
      refine lv_iload hx hb dX2_openPitches_33 (lv_at hl 3 rfl) ?_
      obtain ⟨h_1, hf⟩ := oA_elim hf
      refine z_zald E.1 hw 1 1 rfl rfl h_1 dX2_openPitches_35 ?_
      refine lv_if_ne (tgt := 42) hx hb dX2_openPitches_36 (by decide) (fun hc => ?_) (fun hc => ?_)
      · have hf := oI_neg hc hf
        exact w_X2_openPitches_42 E ih _ _ _ _ hf _ _ _ hw (lv_sub hl [0, 1, 2, 3] rfl)
      · have hf := oI_pos hc hf
        refine lv_iinc (v := (x3 + (1 : Int32))) (lv' := [(3, .int (x3 + (1 : Int32))), (0, .ref a_this), (4, .int x4), (5, .int x5)]) hx hb dX2_openPitches_39 hl (k := 1) rfl rfl (z_lt rfl) rfl (fun ls hl => ?_)
        exact w_X2_openPitches_42 E ih _ _ _ _ hf _ _ _ hw (lv_sub hl [1, 0, 2, 3] rfl)
set_option maxHeartbeats 4000000 in
set_option maxRecDepth 100000 in
theorem c_X2_openPitches {l : Launch} {D : va_G} {cI cZ cM : ClassId} {a_this a_rows a_rents a_roofs a_trades a_fronts a_limits a_needy a_clashes a_starts a_standing : Nat} {v_traders : Int32} {v_covers : Int32} {v_coversBusy : Int32} {r0 : Int32} {sz : Nat} {n : Nat} {v_pitches : Int32} {v_roofs : Nat → Int32} {v_fronts : Nat → Int32} {x1 : Int32} {x2 : Int32} (hf : f_X2_openPitches n v_pitches v_roofs v_fronts x1 x2 = some r0) : Met l yX2_openPitches zwX2_openPitches rmX2_openPitches (zPc D (zT cI cZ cM) [.ref a_this, .int x1, .int x2] [(a_this, .inr (2, [.int v_pitches, .ref a_rows, .ref a_rents, .ref a_roofs, .int v_traders, .ref a_trades, .ref a_fronts, .ref a_limits, .ref a_needy, .ref a_clashes, .int v_covers, .ref a_starts, .ref a_standing, .int v_coversBusy])), (a_roofs, .inl (cZ, 24, .inl v_roofs)), (a_fronts, .inl (cI, 8, .inl v_fronts))] sz) (zQi D (zT cI cZ cM) r0 [(a_this, .inr (2, [.int v_pitches, .ref a_rows, .ref a_rents, .ref a_roofs, .int v_traders, .ref a_trades, .ref a_fronts, .ref a_limits, .ref a_needy, .ref a_clashes, .int v_covers, .ref a_starts, .ref a_standing, .int v_coversBusy])), (a_roofs, .inl (cZ, 24, .inl v_roofs)), (a_fronts, .inl (cI, 8, .inl v_fronts))] (va_A [(a_this, .inr (2, [.int v_pitches, .ref a_rows, .ref a_rents, .ref a_roofs, .int v_traders, .ref a_trades, .ref a_fronts, .ref a_limits, .ref a_needy, .ref a_clashes, .int v_covers, .ref a_starts, .ref a_standing, .int v_coversBusy])), (a_roofs, .inl (cZ, 24, .inl v_roofs)), (a_fronts, .inl (cI, 8, .inl v_fronts))] sz)) 0 0 (va_A [(a_this, .inr (2, [.int v_pitches, .ref a_rows, .ref a_rents, .ref a_roofs, .int v_traders, .ref a_trades, .ref a_fronts, .ref a_limits, .ref a_needy, .ref a_clashes, .int v_covers, .ref a_starts, .ref a_standing, .int v_coversBusy])), (a_roofs, .inl (cZ, 24, .inl v_roofs)), (a_fronts, .inl (cI, 8, .inl v_fronts))] sz) := by
  refine z_met (cc := cX2_openPitches) (maxL := 6) (ret := (some .int)) (by decide) rfl (Nat.le_of_ble_eq_true rfl) ?_
  intro p e s m below meth c ls E hsz hw hl
  obtain ⟨⟨hx, hb, hml, hown, hts⟩, hr, hlocks⟩ := id E
  have hl : lv_has ls 6 [(0, .ref a_this), (1, .int x1), (2, .int x2)] := hl
  unfold f_X2_openPitches at hf
  refine lv_iconst (v := 0) hx hb dX2_openPitches_0 (by decide) ?_
  refine lv_istore_n (lv' := [(3, .int (0 : Int32)), (0, .ref a_this), (1, .int x1), (2, .int x2)]) hx hb dX2_openPitches_1 rfl hl (z_lt rfl) rfl (fun ls hl => ?_)
  refine lv_iload_n hx hb dX2_openPitches_2 rfl (lv_at hl 3 rfl) ?_
  refine lv_aload_n hx hb dX2_openPitches_3 rfl (lv_at hl 1 rfl) ?_
  refine z_get E.1 hw in_wsX20 0 rfl rfl 6 (z_lt rfl) mw_22 (v := .ref a_fronts) rfl dX2_openPitches_4 ?_
  refine lv_iload_n hx hb dX2_openPitches_7 rfl (lv_at hl 2 rfl) ?_
  obtain ⟨h_2, hf⟩ := oA_elim hf
  refine z_iald E.1 hw 2 0 rfl rfl h_2 dX2_openPitches_8 ?_
  refine lv_iadd hx hb dX2_openPitches_9 ?_
  refine lv_aload_n hx hb dX2_openPitches_10 rfl (lv_at hl 1 rfl) ?_
  refine z_get E.1 hw in_wsX20 0 rfl rfl 0 (z_lt rfl) mw_14 (v := .int v_pitches) rfl dX2_openPitches_11 ?_
  refine z_mmin E.1 hl mw_59 mw_60 mw_61 mw_62 (Nat.le_of_ble_eq_true rfl) (Nat.le_of_ble_eq_true rfl) (Nat.le_of_ble_eq_true rfl) (Nat.le_of_ble_eq_true rfl) dX2_openPitches_14 ?_
  obtain ⟨y_3, e_y_3, hf⟩ := oL_elim hf
  refine z_top e_y_3 ?_
  refine lv_istore (lv' := [(4, .int y_3), (3, .int (0 : Int32)), (0, .ref a_this), (1, .int x1), (2, .int x2)]) hx hb dX2_openPitches_17 hl (z_lt rfl) rfl (fun ls hl => ?_)
  refine lv_iload_n hx hb dX2_openPitches_19 rfl (lv_at hl 4 rfl) ?_
  refine lv_istore (lv' := [(5, .int x2), (4, .int y_3), (3, .int (0 : Int32)), (0, .ref a_this), (1, .int x1), (2, .int x2)]) hx hb dX2_openPitches_20 hl (z_lt rfl) rfl (fun ls hl => ?_)
  exact w_X2_openPitches_22 E  n _ _ _ _ hf _ _ _ hw (lv_sub hl [3, 2, 1, 0] rfl)
end
/-! X2_coversFor -/
section
variable {p : Program} {l : Launch} {e : Env} {s : State} {m : MethodId} {args : Array Value} {below : List Frame} {meth : Method} {c : Code} {D : va_G} {A : Nat → Prop} {cI cZ cM : ClassId} {a_this a_rows a_rents a_roofs a_trades a_fronts a_limits a_needy a_clashes a_starts a_standing : Nat} {v_traders : Int32} {v_covers : Int32} {v_coversBusy : Int32} {r0 : Int32}
def rmX2_coversFor : Room := { frames := 2, cells := 0, slots := 0, locals := 46 }
abbrev zwX2_coversFor : List Cond := Cond.code yX2_coversFor cX2_coversFor 3 (some .int) :: wsAll
set_option maxHeartbeats 4000000 in
set_option maxRecDepth 100000 in
theorem c_X2_coversFor {l : Launch} {D : va_G} {cI cZ cM : ClassId} {a_this a_rows a_rents a_roofs a_trades a_fronts a_limits a_needy a_clashes a_starts a_standing : Nat} {v_traders : Int32} {v_covers : Int32} {v_coversBusy : Int32} {r0 : Int32} {sz : Nat} {n : Nat} {v_pitches : Int32} {v_roofs : Nat → Int32} {v_fronts : Nat → Int32} {v_needy : Nat → Int32} {x1 : Int32} {x2 : Int32} (hf : f_X2_coversFor n v_pitches v_roofs v_fronts v_needy x1 x2 = some r0) : Met l yX2_coversFor zwX2_coversFor rmX2_coversFor (zPc D (zT cI cZ cM) [.ref a_this, .int x1, .int x2] [(a_this, .inr (2, [.int v_pitches, .ref a_rows, .ref a_rents, .ref a_roofs, .int v_traders, .ref a_trades, .ref a_fronts, .ref a_limits, .ref a_needy, .ref a_clashes, .int v_covers, .ref a_starts, .ref a_standing, .int v_coversBusy])), (a_roofs, .inl (cZ, 24, .inl v_roofs)), (a_fronts, .inl (cI, 8, .inl v_fronts)), (a_needy, .inl (cZ, 8, .inl v_needy))] sz) (zQi D (zT cI cZ cM) r0 [(a_this, .inr (2, [.int v_pitches, .ref a_rows, .ref a_rents, .ref a_roofs, .int v_traders, .ref a_trades, .ref a_fronts, .ref a_limits, .ref a_needy, .ref a_clashes, .int v_covers, .ref a_starts, .ref a_standing, .int v_coversBusy])), (a_roofs, .inl (cZ, 24, .inl v_roofs)), (a_fronts, .inl (cI, 8, .inl v_fronts)), (a_needy, .inl (cZ, 8, .inl v_needy))] (va_A [(a_this, .inr (2, [.int v_pitches, .ref a_rows, .ref a_rents, .ref a_roofs, .int v_traders, .ref a_trades, .ref a_fronts, .ref a_limits, .ref a_needy, .ref a_clashes, .int v_covers, .ref a_starts, .ref a_standing, .int v_coversBusy])), (a_roofs, .inl (cZ, 24, .inl v_roofs)), (a_fronts, .inl (cI, 8, .inl v_fronts)), (a_needy, .inl (cZ, 8, .inl v_needy))] sz)) 0 0 (va_A [(a_this, .inr (2, [.int v_pitches, .ref a_rows, .ref a_rents, .ref a_roofs, .int v_traders, .ref a_trades, .ref a_fronts, .ref a_limits, .ref a_needy, .ref a_clashes, .int v_covers, .ref a_starts, .ref a_standing, .int v_coversBusy])), (a_roofs, .inl (cZ, 24, .inl v_roofs)), (a_fronts, .inl (cI, 8, .inl v_fronts)), (a_needy, .inl (cZ, 8, .inl v_needy))] sz) := by
  refine z_met (cc := cX2_coversFor) (maxL := 3) (ret := (some .int)) (by decide) rfl (Nat.le_of_ble_eq_true rfl) ?_
  intro p e s m below meth c ls E hsz hw hl
  obtain ⟨⟨hx, hb, hml, hown, hts⟩, hr, hlocks⟩ := id E
  have hl : lv_has ls 3 [(0, .ref a_this), (1, .int x1), (2, .int x2)] := hl
  unfold f_X2_coversFor at hf
  refine lv_aload_n hx hb dX2_coversFor_0 rfl (lv_at hl 0 rfl) ?_
  refine z_get E.1 hw in_wsX20 0 rfl rfl 8 (z_lt rfl) mw_24 (v := .ref a_needy) rfl dX2_coversFor_1 ?_
  refine lv_iload_n hx hb dX2_coversFor_4 rfl (lv_at hl 1 rfl) ?_
  obtain ⟨h_1, hf⟩ := oA_elim hf
  refine z_zald E.1 hw 3 1 rfl rfl h_1 dX2_coversFor_5 ?_
  refine lv_if_eq (tgt := 18) hx hb dX2_coversFor_6 (by decide) (fun hc => ?_) (fun hc => ?_)
  · have hf := oI_pos hc hf
    refine lv_iconst (v := 0) hx hb dX2_coversFor_18 (by decide) ?_
    cases hf
    exact z_iret E rfl hw dX2_coversFor_19
  · have hf := oI_neg hc hf
    refine lv_aload_n hx hb dX2_coversFor_9 rfl (lv_at hl 0 rfl) ?_
    refine lv_iload_n hx hb dX2_coversFor_10 rfl (lv_at hl 1 rfl) ?_
    refine lv_iload_n hx hb dX2_coversFor_11 rfl (lv_at hl 2 rfl) ?_
    obtain ⟨r_2, h_3, hf⟩ := oB_elim hf
    refine z_callVi (ws' := [(a_this, .inr (2, [.int v_pitches, .ref a_rows, .ref a_rents, .ref a_roofs, .int v_traders, .ref a_trades, .ref a_fronts, .ref a_limits, .ref a_needy, .ref a_clashes, .int v_covers, .ref a_starts, .ref a_standing, .int v_coversBusy])), (a_roofs, .inl (cZ, 24, .inl v_roofs)), (a_fronts, .inl (cI, 8, .inl v_fronts)), (a_needy, .inl (cZ, 8, .inl v_needy))]) (wr := [(a_needy, .inl (cZ, 8, .inl v_needy))]) (As := [.int x1, .int x2]) (rest := []) E.1 hl hw (c_X2_openPitches h_3) (cwV 2 hts (z_gV mw_91 mw_92 mw_93 mw_9 mw_94) rfl rfl rfl (by decide +kernel) ⟨(Nat.le_of_ble_eq_true rfl), (Nat.le_of_ble_eq_true rfl)⟩) [0, 1, 2] [3] rfl rfl rfl rfl rfl rfl rfl (q0 := 0) rfl rfl rfl (Nat.le_of_ble_eq_true rfl) dX2_coversFor_12 ⟨Nat.le_of_ble_eq_true rfl, Nat.le_of_ble_eq_true rfl⟩ (fun H locs hw => ?_)
    refine lv_goto (tgt := 19) hx hb dX2_coversFor_15 (by decide) ?_
    cases hf
    exact z_iret E rfl hw dX2_coversFor_19
end
/-! X2_clashesWith -/
section
variable {p : Program} {l : Launch} {e : Env} {s : State} {m : MethodId} {args : Array Value} {below : List Frame} {meth : Method} {c : Code} {D : va_G} {A : Nat → Prop} {cI cZ cM : ClassId} {a_this a_rows a_rents a_roofs a_trades a_fronts a_limits a_needy a_clashes a_starts a_standing : Nat} {v_pitches : Int32} {v_traders : Int32} {v_covers : Int32} {v_coversBusy : Int32} {r0 : Int32}
def rmX2_clashesWith : Room := { frames := 0, cells := 0, slots := 0, locals := 0 }
abbrev zwX2_clashesWith : List Cond := Cond.code yX2_clashesWith cX2_clashesWith 3 (some .boolean) :: wsAll
set_option maxHeartbeats 4000000 in
set_option maxRecDepth 100000 in
theorem c_X2_clashesWith {l : Launch} {D : va_G} {cI cZ cM : ClassId} {a_this a_rows a_rents a_roofs a_trades a_fronts a_limits a_needy a_clashes a_starts a_standing : Nat} {v_pitches : Int32} {v_traders : Int32} {v_covers : Int32} {v_coversBusy : Int32} {r0 : Int32} {sz : Nat} {v_trades : Nat → Int32} {v_clashes : Nat → Int32} {x1 : Int32} {x2 : Int32} (hf : f_X2_clashesWith v_trades v_clashes x1 x2 = some r0) : Met l yX2_clashesWith zwX2_clashesWith rmX2_clashesWith (zPc D (zT cI cZ cM) [.ref a_this, .int x1, .int x2] [(a_this, .inr (2, [.int v_pitches, .ref a_rows, .ref a_rents, .ref a_roofs, .int v_traders, .ref a_trades, .ref a_fronts, .ref a_limits, .ref a_needy, .ref a_clashes, .int v_covers, .ref a_starts, .ref a_standing, .int v_coversBusy])), (a_trades, .inl (cI, 8, .inl v_trades)), (a_clashes, .inl (cI, 8, .inl v_clashes))] sz) (zQi D (zT cI cZ cM) r0 [(a_this, .inr (2, [.int v_pitches, .ref a_rows, .ref a_rents, .ref a_roofs, .int v_traders, .ref a_trades, .ref a_fronts, .ref a_limits, .ref a_needy, .ref a_clashes, .int v_covers, .ref a_starts, .ref a_standing, .int v_coversBusy])), (a_trades, .inl (cI, 8, .inl v_trades)), (a_clashes, .inl (cI, 8, .inl v_clashes))] (va_A [(a_this, .inr (2, [.int v_pitches, .ref a_rows, .ref a_rents, .ref a_roofs, .int v_traders, .ref a_trades, .ref a_fronts, .ref a_limits, .ref a_needy, .ref a_clashes, .int v_covers, .ref a_starts, .ref a_standing, .int v_coversBusy])), (a_trades, .inl (cI, 8, .inl v_trades)), (a_clashes, .inl (cI, 8, .inl v_clashes))] sz)) 0 0 (va_A [(a_this, .inr (2, [.int v_pitches, .ref a_rows, .ref a_rents, .ref a_roofs, .int v_traders, .ref a_trades, .ref a_fronts, .ref a_limits, .ref a_needy, .ref a_clashes, .int v_covers, .ref a_starts, .ref a_standing, .int v_coversBusy])), (a_trades, .inl (cI, 8, .inl v_trades)), (a_clashes, .inl (cI, 8, .inl v_clashes))] sz) := by
  refine z_met (cc := cX2_clashesWith) (maxL := 3) (ret := (some .boolean)) (by decide) rfl (Nat.le_of_ble_eq_true rfl) ?_
  intro p e s m below meth c ls E hsz hw hl
  obtain ⟨⟨hx, hb, hml, hown, hts⟩, hr, hlocks⟩ := id E
  have hl : lv_has ls 3 [(0, .ref a_this), (1, .int x1), (2, .int x2)] := hl
  unfold f_X2_clashesWith at hf
  refine lv_iload_n hx hb dX2_clashesWith_0 rfl (lv_at hl 2 rfl) ?_
  refine lv_iconst (v := -1) hx hb dX2_clashesWith_1 (by decide) ?_
  refine lv_icmp_eq (tgt := 32) hx hb dX2_clashesWith_2 (by decide) (fun hc => ?_) (fun hc => ?_)
  · have hf := oI_pos hc hf
    refine lv_iconst (v := 0) hx hb dX2_clashesWith_32 (by decide) ?_
    cases hf
    exact z_zret E rfl rfl hw dX2_clashesWith_33
  · have hf := oI_neg hc hf
    refine lv_aload_n hx hb dX2_clashesWith_5 rfl (lv_at hl 0 rfl) ?_
    refine z_get E.1 hw in_wsX20 0 rfl rfl 9 (z_lt rfl) mw_25 (v := .ref a_clashes) rfl dX2_clashesWith_6 ?_
    refine lv_aload_n hx hb dX2_clashesWith_9 rfl (lv_at hl 0 rfl) ?_
    refine z_get E.1 hw in_wsX20 0 rfl rfl 5 (z_lt rfl) mw_21 (v := .ref a_trades) rfl dX2_clashesWith_10 ?_
    refine lv_iload_n hx hb dX2_clashesWith_13 rfl (lv_at hl 1 rfl) ?_
    obtain ⟨h_1, hf⟩ := oA_elim hf
    refine z_iald E.1 hw 1 0 rfl rfl h_1 dX2_clashesWith_14 ?_
    obtain ⟨h_2, hf⟩ := oA_elim hf
    refine z_iald E.1 hw 2 0 rfl rfl h_2 dX2_clashesWith_15 ?_
    refine lv_aload_n hx hb dX2_clashesWith_16 rfl (lv_at hl 0 rfl) ?_
    refine z_get E.1 hw in_wsX20 0 rfl rfl 5 (z_lt rfl) mw_21 (v := .ref a_trades) rfl dX2_clashesWith_17 ?_
    refine lv_iload_n hx hb dX2_clashesWith_20 rfl (lv_at hl 2 rfl) ?_
    obtain ⟨h_3, hf⟩ := oA_elim hf
    refine z_iald E.1 hw 1 0 rfl rfl h_3 dX2_clashesWith_21 ?_
    refine lv_ishr hx hb dX2_clashesWith_22 ?_
    refine lv_iconst (v := 1) hx hb dX2_clashesWith_23 (by decide) ?_
    refine lv_iand hx hb dX2_clashesWith_24 ?_
    refine lv_if_eq (tgt := 32) hx hb dX2_clashesWith_25 (by decide) (fun hc => ?_) (fun hc => ?_)
    · have hf := oI_pos hc hf
      refine lv_iconst (v := 0) hx hb dX2_clashesWith_32 (by decide) ?_
      cases hf
      exact z_zret E rfl rfl hw dX2_clashesWith_33
    · have hf := oI_neg hc hf
      refine lv_iconst (v := 1) hx hb dX2_clashesWith_28 (by decide) ?_
      refine lv_goto (tgt := 33) hx hb dX2_clashesWith_29 (by decide) ?_
      cases hf
      exact z_zret E rfl rfl hw dX2_clashesWith_33
end
