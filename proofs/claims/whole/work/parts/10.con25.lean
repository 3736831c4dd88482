/-! X6_isSmall -/
section
variable {p : Program} {l : Launch} {e : Env} {s : State} {m : MethodId} {args : Array Value} {below : List Frame} {meth : Method} {c : Code} {D : va_G} {A : Nat → Prop} {cI cZ cM : ClassId} {res : Int32}
def rmX6_isSmall : Room := { frames := 1, cells := 0, slots := 0, locals := 25 }
abbrev zwX6_isSmall : List Cond := Cond.code yX6_isSmall cX6_isSmall 1 (some .boolean) :: wsAll
set_option maxHeartbeats 4000000 in
set_option maxRecDepth 100000 in
theorem c_X6_isSmall {l : Launch} {D : va_G} {cI cZ cM : ClassId} {res : Int32} {sz : Nat} {x0 : Int32} (hf : f_X6_isSmall x0 = some res) : Met l yX6_isSmall zwX6_isSmall rmX6_isSmall (zPc D (zT cI cZ cM) [.int x0] [] sz) (zQi D (zT cI cZ cM) res [] (va_A [] sz)) 0 0 (va_A [] sz) := by
  refine z_met (cc := cX6_isSmall) (maxL := 1) (ret := (some .boolean)) (by decide) rfl (Nat.le_of_ble_eq_true rfl) ?_
  intro p e s m below meth c ls E hsz hw hl
  obtain ⟨⟨hx, hb, hml, hown, hts⟩, hr, hlocks⟩ := id E
  have hl : lv_has ls 1 [(0, .int x0)] := hl
  unfold f_X6_isSmall at hf
  refine lv_iload_n hx hb dX6_isSmall_0 rfl (lv_at hl 0 rfl) ?_
  refine lv_i2l hx hb dX6_isSmall_1 rfl ?_
  refine lv_ldc2 (v := 97) hx hb hown (hts _ mw_750) dX6_isSmall_2 ?_
  refine lv_ldc2 (v := 122) hx hb hown (hts _ mw_751) dX6_isSmall_5 ?_
  obtain ⟨r_1, h_2, hf⟩ := oB_elim hf
  refine z_callSi (ws' := []) (wr := []) (As := [.long ((x0).toInt64), .long (97 : Int64), .long (122 : Int64)]) (rest := []) E.1 hl hw (c_X6_isIn h_2) (va_cwS 3 hts (z_gS mw_596 mw_597 mw_598 mw_599) rfl rfl rfl (by decide +kernel) ⟨(Nat.le_of_ble_eq_true rfl), (Nat.le_of_ble_eq_true rfl)⟩) 0 [] [] rfl rfl rfl rfl rfl rfl (by decide +kernel) rfl rfl (Nat.le_of_ble_eq_true rfl) dX6_isSmall_8 ⟨Nat.le_of_ble_eq_true rfl, Nat.le_of_ble_eq_true rfl⟩ (fun H locs hw => ?_)
  obtain ⟨h_3, hf⟩ := oG_elim hf
  cases hf
  exact z_zret E rfl (z_nar h_3) hw dX6_isSmall_11
end
/-! X6_obstacle -/
section
variable {p : Program} {l : Launch} {e : Env} {s : State} {m : MethodId} {args : Array Value} {below : List Frame} {meth : Method} {c : Code} {D : va_G} {A : Nat → Prop} {cI cZ cM : ClassId} {a_this a_a a_fresh a_kept a_buffer a_best a_rentBy a_bareBy a_aheadBy a_isEdge a_tried a_stands a_found a_foundOn a_moving : Nat} {v_keptMany : Int32} {v_buffered : Int32} {v_size : Int32} {v_at : Int32} {v_behind : Int32} {v_kind : Int32} {v_wrong : Int32} {v_wrongAt : Int32} {v_errorAt : Int32} {v_number : Int64} {v_movingMany : Int32} {v_foundIncome : Int32} {v_foundMoves : Int32} {res : Int32 × Int32}
def rmX6_obstacle : Room := { frames := 5, cells := 0, slots := 0, locals := 114 }
abbrev zwX6_obstacle : List Cond := Cond.code yX6_obstacle cX6_obstacle 3 (some .int) :: wsAll
set_option maxHeartbeats 4000000 in
set_option maxRecDepth 100000 in
theorem w_X6_obstacle_22 {n : Nat} (E : zE p s m args meth c cX6_obstacle 3 (some .int) zwX6_obstacle RX6) : ∀ (t1 : Int32) (x1 : Int32) (x2 : Int32) (v_a : Nat → Int32) (v_thrown : Int32), f_X6_obstacle_22 n t1 x1 x2 v_a v_thrown = some res → ∀ (H : Heap) (locs : List Loc) (ls : Array Slot), zW D (zT cI cZ cM) A s [(a_this, .inr (6, [.ref a_a, .ref a_fresh, .ref a_kept, .int v_keptMany, .int v_thrown, .ref a_buffer, .int v_buffered, .int v_size, .int v_at, .int v_behind, .int v_kind, .int v_wrong, .int v_wrongAt, .int v_errorAt, .long v_number, .ref a_best, .ref a_rentBy, .ref a_bareBy, .ref a_aheadBy, .ref a_isEdge, .ref a_tried, .ref a_stands, .ref a_found, .ref a_foundOn, .ref a_moving, .int v_movingMany, .int v_foundIncome, .int v_foundMoves])), (a_a, .inl (cI, 180, .inl v_a))] H locs → lv_has ls 3 [(0, .ref a_this), (1, .int x1), (2, .int x2)] → W p l e rmX6_obstacle s m args below meth c H locs 0 0 (MQ below (zQi D (zT cI cZ cM) res.1 [(a_this, .inr (6, [.ref a_a, .ref a_fresh, .ref a_kept, .int v_keptMany, .int res.2, .ref a_buffer, .int v_buffered, .int v_size, .int v_at, .int v_behind, .int v_kind, .int v_wrong, .int v_wrongAt, .int v_errorAt, .long v_number, .ref a_best, .ref a_rentBy, .ref a_bareBy, .ref a_aheadBy, .ref a_isEdge, .ref a_tried, .ref a_stands, .ref a_found, .ref a_foundOn, .ref a_moving, .int v_movingMany, .int v_foundIncome, .int v_foundMoves])), (a_a, .inl (cI, 180, .inl v_a))] A) args s 0 0 A) (F0 m 22 ls [.int t1, .ref a_this]) := by
  obtain ⟨⟨hx, hb, hml, hown, hts⟩, hr, hlocks⟩ := id E
  intro t1 x1 x2 v_a v_thrown hf H locs ls hw hl
  unfold f_X6_obstacle_22 at hf
  refine z_put (ws' := [(a_this, .inr (6, [.ref a_a, .ref a_fresh, .ref a_kept, .int v_keptMany, .int t1, .ref a_buffer, .int v_buffered, .int v_size, .int v_at, .int v_behind, .int v_kind, .int v_wrong, .int v_wrongAt, .int v_errorAt, .long v_number, .ref a_best, .ref a_rentBy, .ref a_bareBy, .ref a_aheadBy, .ref a_isEdge, .ref a_tried, .ref a_stands, .ref a_found, .ref a_foundOn, .ref a_moving, .int v_movingMany, .int v_foundIncome, .int v_foundMoves])), (a_a, .inl (cI, 180, .inl v_a))]) E.1 hw in_wsX60 tyX6 tyX6_ok nmX6 0 rfl rfl 4 (z_lt rfl) mw_595 rfl rfl rfl (z_lt rfl) rfl dX6_obstacle_22 (fun H locs hw => ?_)
  refine lv_aload_n hx hb dX6_obstacle_25 rfl (lv_at hl 0 rfl) ?_
  refine z_get E.1 hw in_wsX60 0 rfl rfl 4 (z_lt rfl) mw_595 (v := .int t1) rfl dX6_obstacle_26 ?_
  refine lv_if_le (tgt := 36) hx hb dX6_obstacle_29 (by decide) (fun hc => ?_) (fun hc => ?_)
  · have hf := oI_pos hc hf
    refine lv_aload_n hx hb dX6_obstacle_36 rfl (lv_at hl 0 rfl) ?_
    refine lv_iload_n hx hb dX6_obstacle_37 rfl (lv_at hl 1 rfl) ?_
    refine lv_iload_n hx hb dX6_obstacle_38 rfl (lv_at hl 2 rfl) ?_
    obtain ⟨r_1, h_2, hf⟩ := oB_elim hf
    refine z_callVi (ws' := [(a_this, .inr (6, [.ref a_a, .ref a_fresh, .ref a_kept, .int v_keptMany, .int t1, .ref a_buffer, .int v_buffered, .int v_size, .int v_at, .int v_behind, .int v_kind, .int v_wrong, .int v_wrongAt, .int v_errorAt, .long v_number, .ref a_best, .ref a_rentBy, .ref a_bareBy, .ref a_aheadBy, .ref a_isEdge, .ref a_tried, .ref a_stands, .ref a_found, .ref a_foundOn, .ref a_moving, .int v_movingMany, .int v_foundIncome, .int v_foundMoves])), (a_a, .inl (cI, 180, .inl v_a))]) (wr := []) (As := [.int x1, .int x2]) (rest := []) E.1 hl hw (c_X6_hinders h_2) (cwV 2 hts (z_gV mw_781 mw_782 mw_783 mw_598 mw_784) rfl rfl rfl (by decide +kernel) ⟨(Nat.le_of_ble_eq_true rfl), (Nat.le_of_ble_eq_true rfl)⟩) 2 [(0, 2)] [] rfl rfl rfl rfl rfl rfl (by decide +kernel) rfl (q0 := 0) rfl rfl rfl (Nat.le_of_ble_eq_true rfl) dX6_obstacle_39 ⟨Nat.le_of_ble_eq_true rfl, Nat.le_of_ble_eq_true rfl⟩ (fun H locs hw => ?_)
    cases hf
    exact z_iret E rfl hw dX6_obstacle_42
  · have hf := oI_neg hc hf
    refine lv_iconst (v := 0) hx hb dX6_obstacle_32 (by decide) ?_
    refine lv_goto (tgt := 42) hx hb dX6_obstacle_33 (by decide) ?_
    cases hf
    exact z_iret E rfl hw dX6_obstacle_42
set_option maxHeartbeats 4000000 in
set_option maxRecDepth 100000 in
theorem w_X6_obstacle_21 {n : Nat} (E : zE p s m args meth c cX6_obstacle 3 (some .int) zwX6_obstacle RX6) : ∀ (x1 : Int32) (x2 : Int32) (v_a : Nat → Int32) (v_thrown : Int32), f_X6_obstacle_21 n x1 x2 v_a v_thrown = some res → ∀ (H : Heap) (locs : List Loc) (ls : Array Slot), zW D (zT cI cZ cM) A s [(a_this, .inr (6, [.ref a_a, .ref a_fresh, .ref a_kept, .int v_keptMany, .int v_thrown, .ref a_buffer, .int v_buffered, .int v_size, .int v_at, .int v_behind, .int v_kind, .int v_wrong, .int v_wrongAt, .int v_errorAt, .long v_number, .ref a_best, .ref a_rentBy, .ref a_bareBy, .ref a_aheadBy, .ref a_isEdge, .ref a_tried, .ref a_stands, .ref a_found, .ref a_foundOn, .ref a_moving, .int v_movingMany, .int v_foundIncome, .int v_foundMoves])), (a_a, .inl (cI, 180, .inl v_a))] H locs → lv_has ls 3 [(0, .ref a_this), (1, .int x1), (2, .int x2)] → W p l e rmX6_obstacle s m args below meth c H locs 0 0 (MQ below (zQi D (zT cI cZ cM) res.1 [(a_this, .inr (6, [.ref a_a, .ref a_fresh, .ref a_kept, .int v_keptMany, .int res.2, .ref a_buffer, .int v_buffered, .int v_size, .int v_at, .int v_behind, .int v_kind, .int v_wrong, .int v_wrongAt, .int v_errorAt, .long v_number, .ref a_best, .ref a_rentBy, .ref a_bareBy, .ref a_aheadBy, .ref a_isEdge, .ref a_tried, .ref a_stands, .ref a_found, .ref a_foundOn, .ref a_moving, .int v_movingMany, .int v_foundIncome, .int v_foundMoves])), (a_a, .inl (cI, 180, .inl v_a))] A) args s 0 0 A) (F0 m 21 ls [.ref a_this]) := by
  obtain ⟨⟨hx, hb, hml, hown, hts⟩, hr, hlocks⟩ := id E
  intro x1 x2 v_a v_thrown hf H locs ls hw hl
  unfold f_X6_obstacle_21 at hf
  refine lv_iconst (v := 1) hx hb dX6_obstacle_21 (by decide) ?_
  exact w_X6_obstacle_22 E  _ _ _ _ _ hf _ _ _ hw (lv_sub hl [0, 1, 2] rfl)
set_option maxHeartbeats 4000000 in
set_option maxRecDepth 100000 in
theorem c_X6_obstacle {l : Launch} {D : va_G} {cI cZ cM : ClassId} {a_this a_a a_fresh a_kept a_buffer a_best a_rentBy a_bareBy a_aheadBy a_isEdge a_tried a_stands a_found a_foundOn a_moving : Nat} {v_keptMany : Int32} {v_buffered : Int32} {v_size : Int32} {v_at : Int32} {v_behind : Int32} {v_kind : Int32} {v_wrong : Int32} {v_wrongAt : Int32} {v_errorAt : Int32} {v_number : Int64} {v_movingMany : Int32} {v_foundIncome : Int32} {v_foundMoves : Int32} {res : Int32 × Int32} {sz : Nat} {n : Nat} {v_a : Nat → Int32} {v_thrown : Int32} {x1 : Int32} {x2 : Int32} (hf : f_X6_obstacle n v_a v_thrown x1 x2 = some res) : Met l yX6_obstacle zwX6_obstacle rmX6_obstacle (zPc D (zT cI cZ cM) [.ref a_this, .int x1, .int x2] [(a_this, .inr (6, [.ref a_a, .ref a_fresh, .ref a_kept, .int v_keptMany, .int v_thrown, .ref a_buffer, .int v_buffered, .int v_size, .int v_at, .int v_behind, .int v_kind, .int v_wrong, .int v_wrongAt, .int v_errorAt, .long v_number, .ref a_best, .ref a_rentBy, .ref a_bareBy, .ref a_aheadBy, .ref a_isEdge, .ref a_tried, .ref a_stands, .ref a_found, .ref a_foundOn, .ref a_moving, .int v_movingMany, .int v_foundIncome, .int v_foundMoves])), (a_a, .inl (cI, 180, .inl v_a))] sz) (zQi D (zT cI cZ cM) res.1 [(a_this, .inr (6, [.ref a_a, .ref a_fresh, .ref a_kept, .int v_keptMany, .int res.2, .ref a_buffer, .int v_buffered, .int v_size, .int v_at, .int v_behind, .int v_kind, .int v_wrong, .int v_wrongAt, .int v_errorAt, .long v_number, .ref a_best, .ref a_rentBy, .ref a_bareBy, .ref a_aheadBy, .ref a_isEdge, .ref a_tried, .ref a_stands, .ref a_found, .ref a_foundOn, .ref a_moving, .int v_movingMany, .int v_foundIncome, .int v_foundMoves])), (a_a, .inl (cI, 180, .inl v_a))] (va_A [(a_this, .inr (6, [.ref a_a, .ref a_fresh, .ref a_kept, .int v_keptMany, .int v_thrown, .ref a_buffer, .int v_buffered, .int v_size, .int v_at, .int v_behind, .int v_kind, .int v_wrong, .int v_wrongAt, .int v_errorAt, .long v_number, .ref a_best, .ref a_rentBy, .ref a_bareBy, .ref a_aheadBy, .ref a_isEdge, .ref a_tried, .ref a_stands, .ref a_found, .ref a_foundOn, .ref a_moving, .int v_movingMany, .int v_foundIncome, .int v_foundMoves])), (a_a, .inl (cI, 180, .inl v_a))] sz)) 0 0 (va_A [(a_this, .inr (6, [.ref a_a, .ref a_fresh, .ref a_kept, .int v_keptMany, .int v_thrown, .ref a_buffer, .int v_buffered, .int v_size, .int v_at, .int v_behind, .int v_kind, .int v_wrong, .int v_wrongAt, .int v_errorAt, .long v_number, .ref a_best, .ref a_rentBy, .ref a_bareBy, .ref a_aheadBy, .ref a_isEdge, .ref a_tried, .ref a_stands, .ref a_found, .ref a_foundOn, .ref a_moving, .int v_movingMany, .int v_foundIncome, .int v_foundMoves])), (a_a, .inl (cI, 180, .inl v_a))] sz) := by
  refine z_met (cc := cX6_obstacle) (maxL := 3) (ret := (some .int)) (by decide) rfl (Nat.le_of_ble_eq_true rfl) ?_
  intro p e s m below meth c ls E hsz hw hl
  obtain ⟨⟨hx, hb, hml, hown, hts⟩, hr, hlocks⟩ := id E
  have hl : lv_has ls 3 [(0, .ref a_this), (1, .int x1), (2, .int x2)] := hl
  unfold f_X6_obstacle at hf
  refine lv_aload_n hx hb dX6_obstacle_0 rfl (lv_at hl 0 rfl) ?_
  refine lv_aload_n hx hb dX6_obstacle_1 rfl (lv_at hl 0 rfl) ?_
  refine lv_iload_n hx hb dX6_obstacle_2 rfl (lv_at hl 1 rfl) ?_
  obtain ⟨r_3, h_4, hf⟩ := oB_elim hf
  refine z_callVi (ws' := [(a_this, .inr (6, [.ref a_a, .ref a_fresh, .ref a_kept, .int v_keptMany, .int v_thrown, .ref a_buffer, .int v_buffered, .int v_size, .int v_at, .int v_behind, .int v_kind, .int v_wrong, .int v_wrongAt, .int v_errorAt, .long v_number, .ref a_best, .ref a_rentBy, .ref a_bareBy, .ref a_aheadBy, .ref a_isEdge, .ref a_tried, .ref a_stands, .ref a_found, .ref a_foundOn, .ref a_moving, .int v_movingMany, .int v_foundIncome, .int v_foundMoves])), (a_a, .inl (cI, 180, .inl v_a))]) (wr := []) (As := [.int x1]) (rest := [.ref a_this]) E.1 hl hw (c_X6_isTrader h_4) (cwV 1 hts (z_gV mw_715 mw_716 mw_717 mw_598 mw_718) rfl rfl rfl (by decide +kernel) ⟨(Nat.le_of_ble_eq_true rfl), (Nat.le_of_ble_eq_true rfl)⟩) 2 [(0, 2)] [] rfl rfl rfl rfl rfl rfl (by decide +kernel) rfl (q0 := 0) rfl rfl rfl (Nat.le_of_ble_eq_true rfl) dX6_obstacle_3 ⟨Nat.le_of_ble_eq_true rfl, Nat.le_of_ble_eq_true rfl⟩ (fun H locs hw => ?_)
  refine lv_if_eq (tgt := 21) hx hb dX6_obstacle_6 (by decide) (fun hc => ?_) (fun hc => ?_)
  · have hf := oI_pos hc hf
    exact w_X6_obstacle_21 E  _ _ _ _ hf _ _ _ hw (lv_sub hl [0, 1, 2] rfl)
  · have hf := oI_neg hc hf
    refine lv_aload_n hx hb dX6_obstacle_9 rfl (lv_at hl 0 rfl) ?_
    refine lv_iload_n hx hb dX6_obstacle_10 rfl (lv_at hl 2 rfl) ?_
    obtain ⟨r_5, h_6, hf⟩ := oB_elim hf
    refine z_callVi (ws' := [(a_this, .inr (6, [.ref a_a, .ref a_fresh, .ref a_kept, .int v_keptMany, .int v_thrown, .ref a_buffer, .int v_buffered, .int v_size, .int v_at, .int v_behind, .int v_kind, .int v_wrong, .int v_wrongAt, .int v_errorAt, .long v_number, .ref a_best, .ref a_rentBy, .ref a_bareBy, .ref a_aheadBy, .ref a_isEdge, .ref a_tried, .ref a_stands, .ref a_found, .ref a_foundOn, .ref a_moving, .int v_movingMany, .int v_foundIncome, .int v_foundMoves])), (a_a, .inl (cI, 180, .inl v_a))]) (wr := []) (As := [.int x2]) (rest := [.ref a_this]) E.1 hl hw (c_X6_isPitch h_6) (cwV 1 hts (z_gV mw_665 mw_666 mw_667 mw_598 mw_668) rfl rfl rfl (by decide +kernel) ⟨(Nat.le_of_ble_eq_true rfl), (Nat.le_of_ble_eq_true rfl)⟩) 2 [(0, 2)] [] rfl rfl rfl rfl rfl rfl (by decide +kernel) rfl (q0 := 0) rfl rfl rfl (Nat.le_of_ble_eq_true rfl) dX6_obstacle_11 ⟨Nat.le_of_ble_eq_true rfl, Nat.le_of_ble_eq_true rfl⟩ (fun H locs hw => ?_)
    refine lv_if_eq (tgt := 21) hx hb dX6_obstacle_14 (by decide) (fun hc => ?_) (fun hc => ?_)
    · have hf := oI_pos hc hf
      exact w_X6_obstacle_21 E  _ _ _ _ hf _ _ _ hw (lv_sub hl [0, 1, 2] rfl)
    · have hf := oI_neg hc hf
      refine lv_iconst (v := 0) hx hb dX6_obstacle_17 (by decide) ?_
      refine lv_goto (tgt := 22) hx hb dX6_obstacle_18 (by decide) ?_
      exact w_X6_obstacle_22 E  _ _ _ _ _ hf _ _ _ hw (lv_sub hl [0, 1, 2] rfl)
end
/-! X6_optimise -/
section
variable {p : Program} {l : Launch} {e : Env} {s : State} {m : MethodId} {args : Array Value} {below : List Frame} {meth : Method} {c : Code} {D : va_G} {A : Nat → Prop} {cI cZ cM : ClassId} {a_this a_a a_fresh a_kept a_buffer a_best a_rentBy a_bareBy a_aheadBy a_isEdge a_tried a_stands a_found a_foundOn a_moving : Nat} {v_buffered : Int32} {v_size : Int32} {v_at : Int32} {v_behind : Int32} {v_kind : Int32} {v_wrong : Int32} {v_wrongAt : Int32} {v_errorAt : Int32} {v_number : Int64} {v_movingMany : Int32} {v_foundIncome : Int32} {v_foundMoves : Int32} {res : Int32 × (Nat → Int32) × (Nat → Int32) × Int32 × Int32 × (Nat → Int32) × (Nat → Int32) × (Nat → Int32) × (Nat → Int32)}
def rmX6_optimise : Room := { frames := 3, cells := 0, slots := 0, locals := 79 }
abbrev zwX6_optimise : List Cond := Cond.code yX6_optimise cX6_optimise 7 (some .int) :: wsAll
set_option maxHeartbeats 4000000 in
set_option maxRecDepth 100000 in
theorem w_X6_optimise_206 {n : Nat} (E : zE p s m args meth c cX6_optimise 7 (some .int) zwX6_optimise RX6) {k63 : Int32 → Int32 → Int32 → Int32 → (Nat → Int32) → (Nat → Int32) → Int32 → Int32 → (Nat → Int32) → (Nat → Int32) → (Nat → Int32) → (Nat → Int32) → Option (Int32 × (Nat → Int32) × (Nat → Int32) × Int32 × Int32 × (Nat → Int32) × (Nat → Int32) × (Nat → Int32) × (Nat → Int32))} (hk63 : ∀ (x1 : Int32) (x2 : Int32) (x3 : Int32) (x4 : Int32) (v_a : Nat → Int32) (v_kept : Nat → Int32) (v_keptMany : Int32) (v_thrown : Int32) (v_best : Nat → Int32) (v_rentBy : Nat → Int32) (v_bareBy : Nat → Int32) (v_aheadBy : Nat → Int32), k63 x1 x2 x3 x4 v_a v_kept v_keptMany v_thrown v_best v_rentBy v_bareBy v_aheadBy = some res → ∀ (H : Heap) (locs : List Loc) (ls : Array Slot), zW D (zT cI cZ cM) A s [(a_this, .inr (6, [.ref a_a, .ref a_fresh, .ref a_kept, .int v_keptMany, .int v_thrown, .ref a_buffer, .int v_buffered, .int v_size, .int v_at, .int v_behind, .int v_kind, .int v_wrong, .int v_wrongAt, .int v_errorAt, .long v_number, .ref a_best, .ref a_rentBy, .ref a_bareBy, .ref a_aheadBy, .ref a_isEdge, .ref a_tried, .ref a_stands, .ref a_found, .ref a_foundOn, .ref a_moving, .int v_movingMany, .int v_foundIncome, .int v_foundMoves])), (a_a, .inl (cI, 180, .inl v_a)), (a_kept, .inl (cI, 1080, .inl v_kept)), (a_best, .inl (cI, 345600, .inl v_best)), (a_rentBy, .inl (cI, 192, .inl v_rentBy)), (a_bareBy, .inl (cI, 192, .inl v_bareBy)), (a_aheadBy, .inl (cI, 192, .inl v_aheadBy))] H locs → lv_has ls 7 [(0, .ref a_this), (1, .int x1), (2, .int x2), (3, .int x3), (4, .int x4)] → W p l e rmX6_optimise s m args below meth c H locs 0 0 (MQ below (zQi D (zT cI cZ cM) res.1 [(a_this, .inr (6, [.ref a_a, .ref a_fresh, .ref a_kept, .int res.2.2.2.1, .int res.2.2.2.2.1, .ref a_buffer, .int v_buffered, .int v_size, .int v_at, .int v_behind, .int v_kind, .int v_wrong, .int v_wrongAt, .int v_errorAt, .long v_number, .ref a_best, .ref a_rentBy, .ref a_bareBy, .ref a_aheadBy, .ref a_isEdge, .ref a_tried, .ref a_stands, .ref a_found, .ref a_foundOn, .ref a_moving, .int v_movingMany, .int v_foundIncome, .int v_foundMoves])), (a_a, .inl (cI, 180, .inl res.2.1)), (a_kept, .inl (cI, 1080, .inl res.2.2.1)), (a_best, .inl (cI, 345600, .inl res.2.2.2.2.2.1)), (a_rentBy, .inl (cI, 192, .inl res.2.2.2.2.2.2.1)), (a_bareBy, .inl (cI, 192, .inl res.2.2.2.2.2.2.2.1)), (a_aheadBy, .inl (cI, 192, .inl res.2.2.2.2.2.2.2.2))] A) args s 0 0 A) (F0 m 63 ls [])) : ∀ (t0 : Int32) (x1 : Int32) (x3 : Int32) (x6 : Int32) (v_a : Nat → Int32) (v_kept : Nat → Int32) (v_keptMany : Int32) (v_thrown : Int32) (v_best : Nat → Int32) (v_rentBy : Nat → Int32) (v_bareBy : Nat → Int32) (v_aheadBy : Nat → Int32), f_X6_optimise_206 n k63 t0 x1 x3 x6 v_a v_kept v_keptMany v_thrown v_best v_rentBy v_bareBy v_aheadBy = some res → ∀ (H : Heap) (locs : List Loc) (ls : Array Slot), zW D (zT cI cZ cM) A s [(a_this, .inr (6, [.ref a_a, .ref a_fresh, .ref a_kept, .int v_keptMany, .int v_thrown, .ref a_buffer, .int v_buffered, .int v_size, .int v_at, .int v_behind, .int v_kind, .int v_wrong, .int v_wrongAt, .int v_errorAt, .long v_number, .ref a_best, .ref a_rentBy, .ref a_bareBy, .ref a_aheadBy, .ref a_isEdge, .ref a_tried, .ref a_stands, .ref a_found, .ref a_foundOn, .ref a_moving, .int v_movingMany, .int v_foundIncome, .int v_foundMoves])), (a_a, .inl (cI, 180, .inl v_a)), (a_kept, .inl (cI, 1080, .inl v_kept)), (a_best, .inl (cI, 345600, .inl v_best)), (a_rentBy, .inl (cI, 192, .inl v_rentBy)), (a_bareBy, .inl (cI, 192, .inl v_bareBy)), (a_aheadBy, .inl (cI, 192, .inl v_aheadBy))] H locs → lv_has ls 7 [(0, .ref a_this), (1, .int x1), (3, .int x3), (6, .int x6)] → W p l e rmX6_optimise s m args below meth c H locs 0 0 (MQ below (zQi D (zT cI cZ cM) res.1 [(a_this, .inr (6, [.ref a_a, .ref a_fresh, .ref a_kept, .int res.2.2.2.1, .int res.2.2.2.2.1, .ref a_buffer, .int v_buffered, .int v_size, .int v_at, .int v_behind, .int v_kind, .int v_wrong, .int v_wrongAt, .int v_errorAt, .long v_number, .ref a_best, .ref a_rentBy, .ref a_bareBy, .ref a_aheadBy, .ref a_isEdge, .ref a_tried, .ref a_stands, .ref a_found, .ref a_foundOn, .ref a_moving, .int v_movingMany, .int v_foundIncome, .int v_foundMoves])), (a_a, .inl (cI, 180, .inl res.2.1)), (a_kept, .inl (cI, 1080, .inl res.2.2.1)), (a_best, .inl (cI, 345600, .inl res.2.2.2.2.2.1)), (a_rentBy, .inl (cI, 192, .inl res.2.2.2.2.2.2.1)), (a_bareBy, .inl (cI, 192, .inl res.2.2.2.2.2.2.2.1)), (a_aheadBy, .inl (cI, 192, .inl res.2.2.2.2.2.2.2.2))] A) args s 0 0 A) (F0 m 206 ls [.int t0]) := by
  obtain ⟨⟨hx, hb, hml, hown, hts⟩, hr, hlocks⟩ := id E
  intro t0 x1 x3 x6 v_a v_kept v_keptMany v_thrown v_best v_rentBy v_bareBy v_aheadBy hf H locs ls hw hl
  unfold f_X6_optimise_206 at hf
  refine lv_istore_n (lv' := [(2, .int t0), (0, .ref a_this), (1, .int x1), (3, .int x3), (6, .int x6)]) hx hb dX6_optimise_206 rfl hl (z_lt rfl) rfl (fun ls hl => ?_)
  refine lv_iload hx hb dX6_optimise_207 (lv_at hl 4 rfl) ?_
  refine lv_istore (lv' := [(4, .int x6), (2, .int t0), (0, .ref a_this), (1, .int x1), (3, .int x3), (6, .int x6)]) hx hb dX6_optimise_209 hl (z_lt rfl) rfl (fun ls hl => ?_)
  refine lv_goto (tgt := 63) hx hb dX6_optimise_211 (by decide) ?_
  exact hk63 _ _ _ _ _ _ _ _ _ _ _ _ hf _ _ _ hw (lv_sub hl [2, 3, 1, 4, 0] rfl)
set_option maxHeartbeats 4000000 in
set_option maxRecDepth 100000 in
theorem w_X6_optimise_122 {n : Nat} (E : zE p s m args meth c cX6_optimise 7 (some .int) zwX6_optimise RX6) {k63 : Int32 → Int32 → Int32 → Int32 → (Nat → Int32) → (Nat → Int32) → Int32 → Int32 → (Nat → Int32) → (Nat → Int32) → (Nat → Int32) → (Nat → Int32) → Option (Int32 × (Nat → Int32) × (Nat → Int32) × Int32 × Int32 × (Nat → Int32) × (Nat → Int32) × (Nat → Int32) × (Nat → Int32))} (hk63 : ∀ (x1 : Int32) (x2 : Int32) (x3 : Int32) (x4 : Int32) (v_a : Nat → Int32) (v_kept : Nat → Int32) (v_keptMany : Int32) (v_thrown : Int32) (v_best : Nat → Int32) (v_rentBy : Nat → Int32) (v_bareBy : Nat → Int32) (v_aheadBy : Nat → Int32), k63 x1 x2 x3 x4 v_a v_kept v_keptMany v_thrown v_best v_rentBy v_bareBy v_aheadBy = some res → ∀ (H : Heap) (locs : List Loc) (ls : Array Slot), zW D (zT cI cZ cM) A s [(a_this, .inr (6, [.ref a_a, .ref a_fresh, .ref a_kept, .int v_keptMany, .int v_thrown, .ref a_buffer, .int v_buffered, .int v_size, .int v_at, .int v_behind, .int v_kind, .int v_wrong, .int v_wrongAt, .int v_errorAt, .long v_number, .ref a_best, .ref a_rentBy, .ref a_bareBy, .ref a_aheadBy, .ref a_isEdge, .ref a_tried, .ref a_stands, .ref a_found, .ref a_foundOn, .ref a_moving, .int v_movingMany, .int v_foundIncome, .int v_foundMoves])), (a_a, .inl (cI, 180, .inl v_a)), (a_kept, .inl (cI, 1080, .inl v_kept)), (a_best, .inl (cI, 345600, .inl v_best)), (a_rentBy, .inl (cI, 192, .inl v_rentBy)), (a_bareBy, .inl (cI, 192, .inl v_bareBy)), (a_aheadBy, .inl (cI, 192, .inl v_aheadBy))] H locs → lv_has ls 7 [(0, .ref a_this), (1, .int x1), (2, .int x2), (3, .int x3), (4, .int x4)] → W p l e rmX6_optimise s m args below meth c H locs 0 0 (MQ below (zQi D (zT cI cZ cM) res.1 [(a_this, .inr (6, [.ref a_a, .ref a_fresh, .ref a_kept, .int res.2.2.2.1, .int res.2.2.2.2.1, .ref a_buffer, .int v_buffered, .int v_size, .int v_at, .int v_behind, .int v_kind, .int v_wrong, .int v_wrongAt, .int v_errorAt, .long v_number, .ref a_best, .ref a_rentBy, .ref a_bareBy, .ref a_aheadBy, .ref a_isEdge, .ref a_tried, .ref a_stands, .ref a_found, .ref a_foundOn, .ref a_moving, .int v_movingMany, .int v_foundIncome, .int v_foundMoves])), (a_a, .inl (cI, 180, .inl res.2.1)), (a_kept, .inl (cI, 1080, .inl res.2.2.1)), (a_best, .inl (cI, 345600, .inl res.2.2.2.2.2.1)), (a_rentBy, .inl (cI, 192, .inl res.2.2.2.2.2.2.1)), (a_bareBy, .inl (cI, 192, .inl res.2.2.2.2.2.2.2.1)), (a_aheadBy, .inl (cI, 192, .inl res.2.2.2.2.2.2.2.2))] A) args s 0 0 A) (F0 m 63 ls [])) : ∀ (x1 : Int32) (x3 : Int32) (x4 : Int32) (x5 : Int32) (v_a : Nat → Int32) (v_kept : Nat → Int32) (v_keptMany : Int32) (v_thrown : Int32) (v_best : Nat → Int32) (v_rentBy : Nat → Int32) (v_bareBy : Nat → Int32) (v_aheadBy : Nat → Int32), f_X6_optimise_122 n k63 x1 x3 x4 x5 v_a v_kept v_keptMany v_thrown v_best v_rentBy v_bareBy v_aheadBy = some res → ∀ (H : Heap) (locs : List Loc) (ls : Array Slot), zW D (zT cI cZ cM) A s [(a_this, .inr (6, [.ref a_a, .ref a_fresh, .ref a_kept, .int v_keptMany, .int v_thrown, .ref a_buffer, .int v_buffered, .int v_size, .int v_at, .int v_behind, .int v_kind, .int v_wrong, .int v_wrongAt, .int v_errorAt, .long v_number, .ref a_best, .ref a_rentBy, .ref a_bareBy, .ref a_aheadBy, .ref a_isEdge, .ref a_tried, .ref a_stands, .ref a_found, .ref a_foundOn, .ref a_moving, .int v_movingMany, .int v_foundIncome, .int v_foundMoves])), (a_a, .inl (cI, 180, .inl v_a)), (a_kept, .inl (cI, 1080, .inl v_kept)), (a_best, .inl (cI, 345600, .inl v_best)), (a_rentBy, .inl (cI, 192, .inl v_rentBy)), (a_bareBy, .inl (cI, 192, .inl v_bareBy)), (a_aheadBy, .inl (cI, 192, .inl v_aheadBy))] H locs → lv_has ls 7 [(0, .ref a_this), (1, .int x1), (3, .int x3), (4, .int x4), (5, .int x5)] → W p l e rmX6_optimise s m args below meth c H locs 0 0 (MQ below (zQi D (zT cI cZ cM) res.1 [(a_this, .inr (6, [.ref a_a, .ref a_fresh, .ref a_kept, .int res.2.2.2.1, .int res.2.2.2.2.1, .ref a_buffer, .int v_buffered, .int v_size, .int v_at, .int v_behind, .int v_kind, .int v_wrong, .int v_wrongAt, .int v_errorAt, .long v_number, .ref a_best, .ref a_rentBy, .ref a_bareBy, .ref a_aheadBy, .ref a_isEdge, .ref a_tried, .ref a_stands, .ref a_found, .ref a_foundOn, .ref a_moving, .int v_movingMany, .int v_foundIncome, .int v_foundMoves])), (a_a, .inl (cI, 180, .inl res.2.1)), (a_kept, .inl (cI, 1080, .inl res.2.2.1)), (a_best, .inl (cI, 345600, .inl res.2.2.2.2.2.1)), (a_rentBy, .inl (cI, 192, .inl res.2.2.2.2.2.2.1)), (a_bareBy, .inl (cI, 192, .inl res.2.2.2.2.2.2.2.1)), (a_aheadBy, .inl (cI, 192, .inl res.2.2.2.2.2.2.2.2))] A) args s 0 0 A) (F0 m 122 ls []) := by
  obtain ⟨⟨hx, hb, hml, hown, hts⟩, hr, hlocks⟩ := id E
  intro x1 x3 x4 x5 v_a v_kept v_keptMany v_thrown v_best v_rentBy v_bareBy v_aheadBy hf H locs ls hw hl
  unfold f_X6_optimise_122 at hf
  refine lv_iload hx hb dX6_optimise_122 (lv_at hl 4 rfl) ?_
  refine lv_aload_n hx hb dX6_optimise_124 rfl (lv_at hl 0 rfl) ?_
  refine z_get E.1 hw in_wsX60 0 rfl rfl 0 (z_lt rfl) mw_594 (v := .ref a_a) rfl dX6_optimise_125 ?_
  refine lv_bipush (v := 74) hx hb dX6_optimise_128 (by decide) ?_
  obtain ⟨h_1, hf⟩ := oA_elim hf
  refine z_iald E.1 hw 1 0 rfl rfl h_1 dX6_optimise_130 ?_
  refine lv_icmp_ne (tgt := 143) hx hb dX6_optimise_131 (by decide) (fun hc => ?_) (fun hc => ?_)
  · have hf := oI_neg hc hf
    refine lv_iload_n hx hb dX6_optimise_143 rfl (lv_at hl 2 rfl) ?_
    refine lv_aload_n hx hb dX6_optimise_144 rfl (lv_at hl 0 rfl) ?_
    refine lv_iload hx hb dX6_optimise_145 (lv_at hl 4 rfl) ?_
    refine lv_iload hx hb dX6_optimise_147 (lv_at hl 3 rfl) ?_
    obtain ⟨r_2, h_3, hf⟩ := oB_elim hf
    refine z_callVi (ws' := [(a_this, .inr (6, [.ref a_a, .ref a_fresh, .ref a_kept, .int v_keptMany, .int v_thrown, .ref a_buffer, .int v_buffered, .int v_size, .int v_at, .int v_behind, .int v_kind, .int v_wrong, .int v_wrongAt, .int v_errorAt, .long v_number, .ref a_best, .ref a_rentBy, .ref a_bareBy, .ref a_aheadBy, .ref a_isEdge, .ref a_tried, .ref a_stands, .ref a_found, .ref a_foundOn, .ref a_moving, .int v_movingMany, .int v_foundIncome, .int v_foundMoves])), (a_a, .inl (cI, 180, .inl v_a)), (a_kept, .inl (cI, 1080, .inl v_kept)), (a_best, .inl (cI, 345600, .inl v_best)), (a_rentBy, .inl (cI, 192, .inl v_rentBy)), (a_bareBy, .inl (cI, 192, .inl v_bareBy)), (a_aheadBy, .inl (cI, 192, .inl v_aheadBy))]) (wr := [(a_kept, .inl (cI, 1080, .inl v_kept)), (a_best, .inl (cI, 345600, .inl v_best)), (a_rentBy, .inl (cI, 192, .inl v_rentBy)), (a_bareBy, .inl (cI, 192, .inl v_bareBy)), (a_aheadBy, .inl (cI, 192, .inl v_aheadBy))]) (As := [.int x5, .int x4]) (rest := [.int x3]) E.1 hl hw (c_X6_bare h_3) (cwV 2 hts (z_gV mw_649 mw_650 mw_651 mw_598 mw_620) rfl rfl rfl (by decide +kernel) ⟨(Nat.le_of_ble_eq_true rfl), (Nat.le_of_ble_eq_true rfl)⟩) 7 [(0, 2)] [(2, 5)] rfl rfl rfl rfl rfl rfl (by decide +kernel) rfl (q0 := 0) rfl rfl rfl (Nat.le_of_ble_eq_true rfl) dX6_optimise_149 ⟨Nat.le_of_ble_eq_true rfl, Nat.le_of_ble_eq_true rfl⟩ (fun H locs hw => ?_)
    refine lv_isub hx hb dX6_optimise_152 ?_
    obtain ⟨y_4, e_y_4, hf⟩ := oL_elim hf
    refine z_top e_y_4 ?_
    refine lv_istore_n (lv' := [(3, .int y_4), (0, .ref a_this), (1, .int x1), (4, .int x4), (5, .int x5)]) hx hb dX6_optimise_153 rfl hl (z_lt rfl) rfl (fun ls hl => ?_)
    refine lv_iload_n hx hb dX6_optimise_154 rfl (lv_at hl 2 rfl) ?_
    refine lv_iconst (v := 1) hx hb dX6_optimise_155 (by decide) ?_
    refine lv_iload hx hb dX6_optimise_156 (lv_at hl 4 rfl) ?_
    refine lv_ishl hx hb dX6_optimise_158 ?_
    refine lv_ior hx hb dX6_optimise_159 ?_
    obtain ⟨y_5, e_y_5, hf⟩ := oL_elim hf
    refine z_top e_y_5 ?_
    refine lv_istore_n (lv' := [(1, .int y_5), (3, .int y_4), (0, .ref a_this), (4, .int x4), (5, .int x5)]) hx hb dX6_optimise_160 rfl hl (z_lt rfl) rfl (fun ls hl => ?_)
    refine lv_aload_n hx hb dX6_optimise_161 rfl (lv_at hl 2 rfl) ?_
    refine z_get E.1 hw in_wsX60 0 rfl rfl 0 (z_lt rfl) mw_594 (v := .ref a_a) rfl dX6_optimise_162 ?_
    refine lv_bipush (v := 107) hx hb dX6_optimise_165 (by decide) ?_
    refine lv_iload hx hb dX6_optimise_167 (lv_at hl 4 rfl) ?_
    refine lv_iadd hx hb dX6_optimise_169 ?_
    refine lv_iload hx hb dX6_optimise_170 (lv_at hl 3 rfl) ?_
    obtain ⟨h_6, hf⟩ := oA_elim hf
    obtain ⟨v_7, e_v_7, hf⟩ := oL_elim hf
    refine z_iast (ws' := [(a_this, .inr (6, [.ref a_a, .ref a_fresh, .ref a_kept, .int v_keptMany, .int v_thrown, .ref a_buffer, .int v_buffered, .int v_size, .int v_at, .int v_behind, .int v_kind, .int v_wrong, .int v_wrongAt, .int v_errorAt, .long v_number, .ref a_best, .ref a_rentBy, .ref a_bareBy, .ref a_aheadBy, .ref a_isEdge, .ref a_tried, .ref a_stands, .ref a_found, .ref a_foundOn, .ref a_moving, .int v_movingMany, .int v_foundIncome, .int v_foundMoves])), (a_a, .inl (cI, 180, .inl v_7)), (a_kept, .inl (cI, 1080, .inl v_kept)), (a_best, .inl (cI, 345600, .inl v_best)), (a_rentBy, .inl (cI, 192, .inl v_rentBy)), (a_bareBy, .inl (cI, 192, .inl v_bareBy)), (a_aheadBy, .inl (cI, 192, .inl v_aheadBy))]) E.1 hw 1 0 rfl rfl h_6 (by subst e_v_7; rfl) dX6_optimise_172 (fun H locs hw => ?_)
    refine lv_iload hx hb dX6_optimise_173 (lv_at hl 3 rfl) ?_
    refine lv_aload_n hx hb dX6_optimise_175 rfl (lv_at hl 2 rfl) ?_
    refine z_get E.1 hw in_wsX60 0 rfl rfl 0 (z_lt rfl) mw_594 (v := .ref a_a) rfl dX6_optimise_176 ?_
    refine lv_bipush (v := 83) hx hb dX6_optimise_179 (by decide) ?_
    refine lv_iload hx hb dX6_optimise_181 (lv_at hl 4 rfl) ?_
    refine lv_iadd hx hb dX6_optimise_183 ?_
    obtain ⟨h_8, hf⟩ := oA_elim hf
    refine z_iald E.1 hw 1 0 rfl rfl h_8 dX6_optimise_184 ?_
    refine lv_iadd hx hb dX6_optimise_185 ?_
    obtain ⟨y_9, e_y_9, hf⟩ := oL_elim hf
    refine z_top e_y_9 ?_
    refine lv_istore (lv' := [(6, .int y_9), (1, .int y_5), (3, .int y_4), (0, .ref a_this), (4, .int x4), (5, .int x5)]) hx hb dX6_optimise_186 hl (z_lt rfl) rfl (fun ls hl => ?_)
    refine lv_aload_n hx hb dX6_optimise_188 rfl (lv_at hl 3 rfl) ?_
    refine lv_iload hx hb dX6_optimise_189 (lv_at hl 4 rfl) ?_
    refine lv_iload hx hb dX6_optimise_191 (lv_at hl 0 rfl) ?_
    obtain ⟨r_10, h_11, hf⟩ := oB_elim hf
    refine z_callVi (ws' := [(a_this, .inr (6, [.ref a_a, .ref a_fresh, .ref a_kept, .int v_keptMany, .int v_thrown, .ref a_buffer, .int v_buffered, .int v_size, .int v_at, .int v_behind, .int v_kind, .int v_wrong, .int v_wrongAt, .int v_errorAt, .long v_number, .ref a_best, .ref a_rentBy, .ref a_bareBy, .ref a_aheadBy, .ref a_isEdge, .ref a_tried, .ref a_stands, .ref a_found, .ref a_foundOn, .ref a_moving, .int v_movingMany, .int v_foundIncome, .int v_foundMoves])), (a_a, .inl (cI, 180, .inl v_7)), (a_kept, .inl (cI, 1080, .inl v_kept)), (a_best, .inl (cI, 345600, .inl v_best)), (a_rentBy, .inl (cI, 192, .inl v_rentBy)), (a_bareBy, .inl (cI, 192, .inl v_bareBy)), (a_aheadBy, .inl (cI, 192, .inl v_aheadBy))]) (wr := [(a_kept, .inl (cI, 1080, .inl v_kept)), (a_best, .inl (cI, 345600, .inl v_best)), (a_rentBy, .inl (cI, 192, .inl v_rentBy)), (a_bareBy, .inl (cI, 192, .inl v_bareBy)), (a_aheadBy, .inl (cI, 192, .inl v_aheadBy))]) (As := [.int x4, .int y_9]) (rest := []) E.1 hl hw (c_X6_isSameRow h_11) (cwV 2 hts (z_gV mw_652 mw_653 mw_654 mw_598 mw_655) rfl rfl rfl (by decide +kernel) ⟨(Nat.le_of_ble_eq_true rfl), (Nat.le_of_ble_eq_true rfl)⟩) 7 [(0, 2)] [(2, 5)] rfl rfl rfl rfl rfl rfl (by decide +kernel) rfl (q0 := 0) rfl rfl rfl (Nat.le_of_ble_eq_true rfl) dX6_optimise_193 ⟨Nat.le_of_ble_eq_true rfl, Nat.le_of_ble_eq_true rfl⟩ (fun H locs hw => ?_)
    refine lv_if_eq (tgt := 204) hx hb dX6_optimise_196 (by decide) (fun hc => ?_) (fun hc => ?_)
    · have hf := oI_pos hc hf
      refine lv_bipush (v := 8) hx hb dX6_optimise_204 (by decide) ?_
      exact w_X6_optimise_206 E hk63 _ _ _ _ _ _ _ _ _ _ _ _ hf _ _ _ hw (lv_sub hl [3, 1, 2, 0] rfl)
    · have hf := oI_neg hc hf
      refine lv_iload hx hb dX6_optimise_199 (lv_at hl 5 rfl) ?_
      refine lv_goto (tgt := 206) hx hb dX6_optimise_201 (by decide) ?_
      exact w_X6_optimise_206 E hk63 _ _ _ _ _ _ _ _ _ _ _ _ hf _ _ _ hw (lv_sub hl [3, 1, 2, 0] rfl)
  · have hf := oI_pos hc hf
    refine lv_bipush (v := 8) hx hb dX6_optimise_134 (by decide) ?_
    refine lv_istore_n (lv' := [(2, .int (8 : Int32)), (0, .ref a_this), (1, .int x1), (3, .int x3), (4, .int x4), (5, .int x5)]) hx hb dX6_optimise_136 rfl hl (z_lt rfl) rfl (fun ls hl => ?_)
    refine lv_iinc (v := (x4 + (1 : Int32))) (lv' := [(4, .int (x4 + (1 : Int32))), (2, .int (8 : Int32)), (0, .ref a_this), (1, .int x1), (3, .int x3), (5, .int x5)]) hx hb dX6_optimise_137 hl (k := 4) rfl rfl (z_lt rfl) rfl (fun ls hl => ?_)
    refine lv_goto (tgt := 63) hx hb dX6_optimise_140 (by decide) ?_
    exact hk63 _ _ _ _ _ _ _ _ _ _ _ _ hf _ _ _ hw (lv_sub hl [2, 3, 1, 4, 0] rfl)
set_option maxHeartbeats 4000000 in
set_option maxRecDepth 100000 in
theorem w_X6_optimise_77 {n : Nat} (E : zE p s m args meth c cX6_optimise 7 (some .int) zwX6_optimise RX6) {k63 : Int32 → Int32 → Int32 → Int32 → (Nat → Int32) → (Nat → Int32) → Int32 → Int32 → (Nat → Int32) → (Nat → Int32) → (Nat → Int32) → (Nat → Int32) → Option (Int32 × (Nat → Int32) × (Nat → Int32) × Int32 × Int32 × (Nat → Int32) × (Nat → Int32) × (Nat → Int32) × (Nat → Int32))} (hk63 : ∀ (x1 : Int32) (x2 : Int32) (x3 : Int32) (x4 : Int32) (v_a : Nat → Int32) (v_kept : Nat → Int32) (v_keptMany : Int32) (v_thrown : Int32) (v_best : Nat → Int32) (v_rentBy : Nat → Int32) (v_bareBy : Nat → Int32) (v_aheadBy : Nat → Int32), k63 x1 x2 x3 x4 v_a v_kept v_keptMany v_thrown v_best v_rentBy v_bareBy v_aheadBy = some res → ∀ (H : Heap) (locs : List Loc) (ls : Array Slot), zW D (zT cI cZ cM) A s [(a_this, .inr (6, [.ref a_a, .ref a_fresh, .ref a_kept, .int v_keptMany, .int v_thrown, .ref a_buffer, .int v_buffered, .int v_size, .int v_at, .int v_behind, .int v_kind, .int v_wrong, .int v_wrongAt, .int v_errorAt, .long v_number, .ref a_best, .ref a_rentBy, .ref a_bareBy, .ref a_aheadBy, .ref a_isEdge, .ref a_tried, .ref a_stands, .ref a_found, .ref a_foundOn, .ref a_moving, .int v_movingMany, .int v_foundIncome, .int v_foundMoves])), (a_a, .inl (cI, 180, .inl v_a)), (a_kept, .inl (cI, 1080, .inl v_kept)), (a_best, .inl (cI, 345600, .inl v_best)), (a_rentBy, .inl (cI, 192, .inl v_rentBy)), (a_bareBy, .inl (cI, 192, .inl v_bareBy)), (a_aheadBy, .inl (cI, 192, .inl v_aheadBy))] H locs → lv_has ls 7 [(0, .ref a_this), (1, .int x1), (2, .int x2), (3, .int x3), (4, .int x4)] → W p l e rmX6_optimise s m args below meth c H locs 0 0 (MQ below (zQi D (zT cI cZ cM) res.1 [(a_this, .inr (6, [.ref a_a, .ref a_fresh, .ref a_kept, .int res.2.2.2.1, .int res.2.2.2.2.1, .ref a_buffer, .int v_buffered, .int v_size, .int v_at, .int v_behind, .int v_kind, .int v_wrong, .int v_wrongAt, .int v_errorAt, .long v_number, .ref a_best, .ref a_rentBy, .ref a_bareBy, .ref a_aheadBy, .ref a_isEdge, .ref a_tried, .ref a_stands, .ref a_found, .ref a_foundOn, .ref a_moving, .int v_movingMany, .int v_foundIncome, .int v_foundMoves])), (a_a, .inl (cI, 180, .inl res.2.1)), (a_kept, .inl (cI, 1080, .inl res.2.2.1)), (a_best, .inl (cI, 345600, .inl res.2.2.2.2.2.1)), (a_rentBy, .inl (cI, 192, .inl res.2.2.2.2.2.2.1)), (a_bareBy, .inl (cI, 192, .inl res.2.2.2.2.2.2.2.1)), (a_aheadBy, .inl (cI, 192, .inl res.2.2.2.2.2.2.2.2))] A) args s 0 0 A) (F0 m 63 ls [])) : ∀ (fu : Nat), ∀ (x1 : Int32) (x2 : Int32) (x3 : Int32) (x4 : Int32) (x5 : Int32) (v_a : Nat → Int32) (v_kept : Nat → Int32) (v_keptMany : Int32) (v_thrown : Int32) (v_best : Nat → Int32) (v_rentBy : Nat → Int32) (v_bareBy : Nat → Int32) (v_aheadBy : Nat → Int32), f_X6_optimise_77 n k63 fu x1 x2 x3 x4 x5 v_a v_kept v_keptMany v_thrown v_best v_rentBy v_bareBy v_aheadBy = some res → ∀ (H : Heap) (locs : List Loc) (ls : Array Slot), zW D (zT cI cZ cM) A s [(a_this, .inr (6, [.ref a_a, .ref a_fresh, .ref a_kept, .int v_keptMany, .int v_thrown, .ref a_buffer, .int v_buffered, .int v_size, .int v_at, .int v_behind, .int v_kind, .int v_wrong, .int v_wrongAt, .int v_errorAt, .long v_number, .ref a_best, .ref a_rentBy, .ref a_bareBy, .ref a_aheadBy, .ref a_isEdge, .ref a_tried, .ref a_stands, .ref a_found, .ref a_foundOn, .ref a_moving, .int v_movingMany, .int v_foundIncome, .int v_foundMoves])), (a_a, .inl (cI, 180, .inl v_a)), (a_kept, .inl (cI, 1080, .inl v_kept)), (a_best, .inl (cI, 345600, .inl v_best)), (a_rentBy, .inl (cI, 192, .inl v_rentBy)), (a_bareBy, .inl (cI, 192, .inl v_bareBy)), (a_aheadBy, .inl (cI, 192, .inl v_aheadBy))] H locs → lv_has ls 7 [(0, .ref a_this), (1, .int x1), (2, .int x2), (3, .int x3), (4, .int x4), (5, .int x5)] → W p l e rmX6_optimise s m args below meth c H locs 0 0 (MQ below (zQi D (zT cI cZ cM) res.1 [(a_this, .inr (6, [.ref a_a, .ref a_fresh, .ref a_kept, .int res.2.2.2.1, .int res.2.2.2.2.1, .ref a_buffer, .int v_buffered, .int v_size, .int v_at, .int v_behind, .int v_kind, .int v_wrong, .int v_wrongAt, .int v_errorAt, .long v_number, .ref a_best, .ref a_rentBy, .ref a_bareBy, .ref a_aheadBy, .ref a_isEdge, .ref a_tried, .ref a_stands, .ref a_found, .ref a_foundOn, .ref a_moving, .int v_movingMany, .int v_foundIncome, .int v_foundMoves])), (a_a, .inl (cI, 180, .inl res.2.1)), (a_kept, .inl (cI, 1080, .inl res.2.2.1)), (a_best, .inl (cI, 345600, .inl res.2.2.2.2.2.1)), (a_rentBy, .inl (cI, 192, .inl res.2.2.2.2.2.2.1)), (a_bareBy, .inl (cI, 192, .inl res.2.2.2.2.2.2.2.1)), (a_aheadBy, .inl (cI, 192, .inl res.2.2.2.2.2.2.2.2))] A) args s 0 0 A) (F0 m 77 ls []) := by
  obtain ⟨⟨hx, hb, hml, hown, hts⟩, hr, hlocks⟩ := id E
  intro fu
  induction fu with
  | zero => intro x1 x2 x3 x4 x5 v_a v_kept v_keptMany v_thrown v_best v_rentBy v_bareBy v_aheadBy hf; rw [f_X6_optimise_77.eq_1] at hf; cases hf
  | succ fu ih =>
    intro x1 x2 x3 x4 x5 v_a v_kept v_keptMany v_thrown v_best v_rentBy v_bareBy v_aheadBy hf H locs ls hw hl
    rw [f_X6_optimise_77.eq_2] at hf
    refine lv_iload hx hb dX6_optimise_77 (lv_at hl 5 rfl) ?_
    refine lv_aload_n hx hb dX6_optimise_79 rfl (lv_at hl 0 rfl) ?_
    refine z_get E.1 hw in_wsX60 0 rfl rfl 0 (z_lt rfl) mw_594 (v := .ref a_a) rfl dX6_optimise_80 ?_
    refine lv_bipush (v := 74) hx hb dX6_optimise_83 (by decide) ?_
    obtain ⟨h_12, hf⟩ := oA_elim hf
    refine z_iald E.1 hw 1 0 rfl rfl h_12 dX6_optimise_85 ?_
    refine lv_icmp_ge (tgt := 122) hx hb dX6_optimise_86 (by decide) (fun hc => ?_) (fun hc => ?_)
    · have hf := oI_pos hc hf
      exact w_X6_optimise_122 E hk63 _ _ _ _ _ _ _ _ _ _ _ _ hf _ _ _ hw (lv_sub hl [0, 1, 3, 4, 5] rfl)
    · have hf := oI_neg hc hf
      refine lv_aload_n hx hb dX6_optimise_89 rfl (lv_at hl 0 rfl) ?_
      refine lv_iload hx hb dX6_optimise_90 (lv_at hl 5 rfl) ?_
      refine lv_iload hx hb dX6_optimise_92 (lv_at hl 4 rfl) ?_
      refine lv_iload_n hx hb dX6_optimise_94 rfl (lv_at hl 1 rfl) ?_
      refine lv_iload_n hx hb dX6_optimise_95 rfl (lv_at hl 2 rfl) ?_
      refine lv_iload_n hx hb dX6_optimise_96 rfl (lv_at hl 3 rfl) ?_
      obtain ⟨r_13, h_14, hf⟩ := oB_elim hf
      refine z_callVi (ws' := [(a_this, .inr (6, [.ref a_a, .ref a_fresh, .ref a_kept, .int v_keptMany, .int v_thrown, .ref a_buffer, .int v_buffered, .int v_size, .int v_at, .int v_behind, .int v_kind, .int v_wrong, .int v_wrongAt, .int v_errorAt, .long v_number, .ref a_best, .ref a_rentBy, .ref a_bareBy, .ref a_aheadBy, .ref a_isEdge, .ref a_tried, .ref a_stands, .ref a_found, .ref a_foundOn, .ref a_moving, .int v_movingMany, .int v_foundIncome, .int v_foundMoves])), (a_a, .inl (cI, 180, .inl v_a)), (a_kept, .inl (cI, 1080, .inl v_kept)), (a_best, .inl (cI, 345600, .inl v_best)), (a_rentBy, .inl (cI, 192, .inl v_rentBy)), (a_bareBy, .inl (cI, 192, .inl v_bareBy)), (a_aheadBy, .inl (cI, 192, .inl v_aheadBy))]) (wr := [(a_kept, .inl (cI, 1080, .inl v_kept))]) (As := [.int x5, .int x4, .int x1, .int x2, .int x3]) (rest := []) E.1 hl hw (c_X6_begun h_14) (cwV 5 hts (z_gV mw_660 mw_661 mw_662 mw_598 mw_621) rfl rfl rfl (by decide +kernel) ⟨(Nat.le_of_ble_eq_true rfl), (Nat.le_of_ble_eq_true rfl)⟩) 7 [(0, 2), (3, 4)] [(2, 1)] rfl rfl rfl rfl rfl rfl (by decide +kernel) rfl (q0 := 0) rfl rfl rfl (Nat.le_of_ble_eq_true rfl) dX6_optimise_97 ⟨Nat.le_of_ble_eq_true rfl, Nat.le_of_ble_eq_true rfl⟩ (fun H locs hw => ?_)
      refine lv_aload_n hx hb dX6_optimise_100 rfl (lv_at hl 0 rfl) ?_
      refine z_get E.1 hw in_wsX60 0 rfl rfl 15 (z_lt rfl) mw_624 (v := .ref a_best) rfl dX6_optimise_101 ?_
      refine lv_iload hx hb dX6_optimise_104 (lv_at hl 4 rfl) ?_
      refine lv_iload_n hx hb dX6_optimise_106 rfl (lv_at hl 1 rfl) ?_
      refine lv_iload_n hx hb dX6_optimise_107 rfl (lv_at hl 2 rfl) ?_
      refine lv_iload_n hx hb dX6_optimise_108 rfl (lv_at hl 3 rfl) ?_
      obtain ⟨r_15, h_16, hf⟩ := oB_elim hf
      refine z_callSi (ws' := [(a_this, .inr (6, [.ref a_a, .ref a_fresh, .ref a_kept, .int v_keptMany, .int v_thrown, .ref a_buffer, .int v_buffered, .int v_size, .int v_at, .int v_behind, .int v_kind, .int v_wrong, .int v_wrongAt, .int v_errorAt, .long v_number, .ref a_best, .ref a_rentBy, .ref a_bareBy, .ref a_aheadBy, .ref a_isEdge, .ref a_tried, .ref a_stands, .ref a_found, .ref a_foundOn, .ref a_moving, .int v_movingMany, .int v_foundIncome, .int v_foundMoves])), (a_a, .inl (cI, 180, .inl v_a)), (a_kept, .inl (cI, 1080, .inl v_kept)), (a_best, .inl (cI, 345600, .inl v_best)), (a_rentBy, .inl (cI, 192, .inl v_rentBy)), (a_bareBy, .inl (cI, 192, .inl v_bareBy)), (a_aheadBy, .inl (cI, 192, .inl v_aheadBy))]) (wr := [(a_this, .inr (6, [.ref a_a, .ref a_fresh, .ref a_kept, .int v_keptMany, .int v_thrown, .ref a_buffer, .int v_buffered, .int v_size, .int v_at, .int v_behind, .int v_kind, .int v_wrong, .int v_wrongAt, .int v_errorAt, .long v_number, .ref a_best, .ref a_rentBy, .ref a_bareBy, .ref a_aheadBy, .ref a_isEdge, .ref a_tried, .ref a_stands, .ref a_found, .ref a_foundOn, .ref a_moving, .int v_movingMany, .int v_foundIncome, .int v_foundMoves])), (a_a, .inl (cI, 180, .inl v_a)), (a_kept, .inl (cI, 1080, .inl v_kept)), (a_best, .inl (cI, 345600, .inl v_best)), (a_rentBy, .inl (cI, 192, .inl v_rentBy)), (a_bareBy, .inl (cI, 192, .inl v_bareBy)), (a_aheadBy, .inl (cI, 192, .inl v_aheadBy))]) (As := [.int x4, .int x1, .int x2, .int x3]) (rest := [.ref a_best, .int r_13]) E.1 hl hw (c_X6_at h_16) (va_cwS 4 hts (z_gS mw_630 mw_631 mw_598 mw_619) rfl rfl rfl (by decide +kernel) ⟨(Nat.le_of_ble_eq_true rfl), (Nat.le_of_ble_eq_true rfl)⟩) 7 [] [(0, 7)] rfl rfl rfl rfl rfl rfl (by decide +kernel) rfl rfl (Nat.le_of_ble_eq_true rfl) dX6_optimise_109 ⟨Nat.le_of_ble_eq_true rfl, Nat.le_of_ble_eq_true rfl⟩ (fun H locs hw => ?_)
      obtain ⟨h_17, hf⟩ := oA_elim hf
      refine z_iald E.1 hw 3 0 rfl rfl h_17 dX6_optimise_112 ?_
      refine lv_icmp_eq (tgt := 122) hx hb dX6_optimise_113 (by decide) (fun hc => ?_) (fun hc => ?_)
      · have hf := oI_pos hc hf
        exact w_X6_optimise_122 E hk63 _ _ _ _ _ _ _ _ _ _ _ _ hf _ _ _ hw (lv_sub hl [0, 1, 3, 4, 5] rfl)
      · have hf := oI_neg hc hf
        refine lv_iinc (v := (x5 + (1 : Int32))) (lv' := [(5, .int (x5 + (1 : Int32))), (0, .ref a_this), (1, .int x1), (2, .int x2), (3, .int x3), (4, .int x4)]) hx hb dX6_optimise_116 hl (k := 5) rfl rfl (z_lt rfl) rfl (fun ls hl => ?_)
        refine lv_goto (tgt := 77) hx hb dX6_optimise_119 (by decide) ?_
        exact ih _ _ _ _ _ _ _ _ _ _ _ _ _ hf _ _ _ hw (lv_sub hl [1, 2, 3, 4, 5, 0] rfl)
set_option maxHeartbeats 4000000 in
set_option maxRecDepth 100000 in
theorem w_X6_optimise_63 {n : Nat} (E : zE p s m args meth c cX6_optimise 7 (some .int) zwX6_optimise RX6) : ∀ (fu : Nat), ∀ (x1 : Int32) (x2 : Int32) (x3 : Int32) (x4 : Int32) (v_a : Nat → Int32) (v_kept : Nat → Int32) (v_keptMany : Int32) (v_thrown : Int32) (v_best : Nat → Int32) (v_rentBy : Nat → Int32) (v_bareBy : Nat → Int32) (v_aheadBy : Nat → Int32), f_X6_optimise_63 n fu x1 x2 x3 x4 v_a v_kept v_keptMany v_thrown v_best v_rentBy v_bareBy v_aheadBy = some res → ∀ (H : Heap) (locs : List Loc) (ls : Array Slot), zW D (zT cI cZ cM) A s [(a_this, .inr (6, [.ref a_a, .ref a_fresh, .ref a_kept, .int v_keptMany, .int v_thrown, .ref a_buffer, .int v_buffered, .int v_size, .int v_at, .int v_behind, .int v_kind, .int v_wrong, .int v_wrongAt, .int v_errorAt, .long v_number, .ref a_best, .ref a_rentBy, .ref a_bareBy, .ref a_aheadBy, .ref a_isEdge, .ref a_tried, .ref a_stands, .ref a_found, .ref a_foundOn, .ref a_moving, .int v_movingMany, .int v_foundIncome, .int v_foundMoves])), (a_a, .inl (cI, 180, .inl v_a)), (a_kept, .inl (cI, 1080, .inl v_kept)), (a_best, .inl (cI, 345600, .inl v_best)), (a_rentBy, .inl (cI, 192, .inl v_rentBy)), (a_bareBy, .inl (cI, 192, .inl v_bareBy)), (a_aheadBy, .inl (cI, 192, .inl v_aheadBy))] H locs → lv_has ls 7 [(0, .ref a_this), (1, .int x1), (2, .int x2), (3, .int x3), (4, .int x4)] → W p l e rmX6_optimise s m args below meth c H locs 0 0 (MQ below (zQi D (zT cI cZ cM) res.1 [(a_this, .inr (6, [.ref a_a, .ref a_fresh, .ref a_kept, .int res.2.2.2.1, .int res.2.2.2.2.1, .ref a_buffer, .int v_buffered, .int v_size, .int v_at, .int v_behind, .int v_kind, .int v_wrong, .int v_wrongAt, .int v_errorAt, .long v_number, .ref a_best, .ref a_rentBy, .ref a_bareBy, .ref a_aheadBy, .ref a_isEdge, .ref a_tried, .ref a_stands, .ref a_found, .ref a_foundOn, .ref a_moving, .int v_movingMany, .int v_foundIncome, .int v_foundMoves])), (a_a, .inl (cI, 180, .inl res.2.1)), (a_kept, .inl (cI, 1080, .inl res.2.2.1)), (a_best, .inl (cI, 345600, .inl res.2.2.2.2.2.1)), (a_rentBy, .inl (cI, 192, .inl res.2.2.2.2.2.2.1)), (a_bareBy, .inl (cI, 192, .inl res.2.2.2.2.2.2.2.1)), (a_aheadBy, .inl (cI, 192, .inl res.2.2.2.2.2.2.2.2))] A) args s 0 0 A) (F0 m 63 ls []) := by
  obtain ⟨⟨hx, hb, hml, hown, hts⟩, hr, hlocks⟩ := id E
  intro fu
  induction fu with
  | zero => intro x1 x2 x3 x4 v_a v_kept v_keptMany v_thrown v_best v_rentBy v_bareBy v_aheadBy hf; rw [f_X6_optimise_63.eq_1] at hf; cases hf
  | succ fu ih =>
    intro x1 x2 x3 x4 v_a v_kept v_keptMany v_thrown v_best v_rentBy v_bareBy v_aheadBy hf H locs ls hw hl
    rw [f_X6_optimise_63.eq_2] at hf
    refine lv_iload hx hb dX6_optimise_63 (lv_at hl 4 rfl) ?_
    refine lv_aload_n hx hb dX6_optimise_65 rfl (lv_at hl 0 rfl) ?_
    refine z_get E.1 hw in_wsX60 0 rfl rfl 0 (z_lt rfl) mw_594 (v := .ref a_a) rfl dX6_optimise_66 ?_
    refine lv_iconst (v := 1) hx hb dX6_optimise_69 (by decide) ?_
    obtain ⟨h_18, hf⟩ := oA_elim hf
    refine z_iald E.1 hw 1 0 rfl rfl h_18 dX6_optimise_70 ?_
    refine lv_icmp_ge (tgt := 214) hx hb dX6_optimise_71 (by decide) (fun hc => ?_) (fun hc => ?_)
    · have hf := oI_pos hc hf
      refine lv_aload_n hx hb dX6_optimise_214 rfl (lv_at hl 0 rfl) ?_
      obtain ⟨r_19, h_20, hf⟩ := oB_elim hf
      refine z_callVi (ws' := [(a_this, .inr (6, [.ref a_a, .ref a_fresh, .ref a_kept, .int v_keptMany, .int v_thrown, .ref a_buffer, .int v_buffered, .int v_size, .int v_at, .int v_behind, .int v_kind, .int v_wrong, .int v_wrongAt, .int v_errorAt, .long v_number, .ref a_best, .ref a_rentBy, .ref a_bareBy, .ref a_aheadBy, .ref a_isEdge, .ref a_tried, .ref a_stands, .ref a_found, .ref a_foundOn, .ref a_moving, .int v_movingMany, .int v_foundIncome, .int v_foundMoves])), (a_a, .inl (cI, 180, .inl v_a)), (a_kept, .inl (cI, 1080, .inl v_kept)), (a_best, .inl (cI, 345600, .inl v_best)), (a_rentBy, .inl (cI, 192, .inl v_rentBy)), (a_bareBy, .inl (cI, 192, .inl v_bareBy)), (a_aheadBy, .inl (cI, 192, .inl v_aheadBy))]) (wr := [(a_kept, .inl (cI, 1080, .inl v_kept)), (a_best, .inl (cI, 345600, .inl v_best)), (a_rentBy, .inl (cI, 192, .inl v_rentBy)), (a_bareBy, .inl (cI, 192, .inl v_bareBy)), (a_aheadBy, .inl (cI, 192, .inl v_aheadBy))]) (As := []) (rest := []) E.1 hl hw (c_X6_placed h_20) (cwV 0 hts (z_gV mw_701 mw_702 mw_703 mw_598 mw_704) rfl rfl rfl (by decide +kernel) ⟨(Nat.le_of_ble_eq_true rfl), (Nat.le_of_ble_eq_true rfl)⟩) 7 [(0, 2)] [(2, 5)] rfl rfl rfl rfl rfl rfl (by decide +kernel) rfl (q0 := 0) rfl rfl rfl (Nat.le_of_ble_eq_true rfl) dX6_optimise_215 ⟨Nat.le_of_ble_eq_true rfl, Nat.le_of_ble_eq_true rfl⟩ (fun H locs hw => ?_)
      cases hf
      exact z_iret E rfl hw dX6_optimise_218
    · have hf := oI_neg hc hf
      refine lv_iconst (v := 0) hx hb dX6_optimise_74 (by decide) ?_
      refine lv_istore (lv' := [(5, .int (0 : Int32)), (0, .ref a_this), (1, .int x1), (2, .int x2), (3, .int x3), (4, .int x4)]) hx hb dX6_optimise_75 hl (z_lt rfl) rfl (fun ls hl => ?_)
      exact w_X6_optimise_77 E ih n _ _ _ _ _ _ _ _ _ _ _ _ _ hf _ _ _ hw (lv_sub hl [1, 2, 3, 4, 5, 0] rfl)
set_option maxHeartbeats 4000000 in
set_option maxRecDepth 100000 in
theorem w_X6_optimise_24 {n : Nat} (E : zE p s m args meth c cX6_optimise 7 (some .int) zwX6_optimise RX6) : ∀ (fu : Nat), ∀ (x1 : Int32) (v_a : Nat → Int32) (v_kept : Nat → Int32) (v_keptMany : Int32) (v_thrown : Int32) (v_best : Nat → Int32) (v_rentBy : Nat → Int32) (v_bareBy : Nat → Int32) (v_aheadBy : Nat → Int32), f_X6_optimise_24 n fu x1 v_a v_kept v_keptMany v_thrown v_best v_rentBy v_bareBy v_aheadBy = some res → ∀ (H : Heap) (locs : List Loc) (ls : Array Slot), zW D (zT cI cZ cM) A s [(a_this, .inr (6, [.ref a_a, .ref a_fresh, .ref a_kept, .int v_keptMany, .int v_thrown, .ref a_buffer, .int v_buffered, .int v_size, .int v_at, .int v_behind, .int v_kind, .int v_wrong, .int v_wrongAt, .int v_errorAt, .long v_number, .ref a_best, .ref a_rentBy, .ref a_bareBy, .ref a_aheadBy, .ref a_isEdge, .ref a_tried, .ref a_stands, .ref a_found, .ref a_foundOn, .ref a_moving, .int v_movingMany, .int v_foundIncome, .int v_foundMoves])), (a_a, .inl (cI, 180, .inl v_a)), (a_kept, .inl (cI, 1080, .inl v_kept)), (a_best, .inl (cI, 345600, .inl v_best)), (a_rentBy, .inl (cI, 192, .inl v_rentBy)), (a_bareBy, .inl (cI, 192, .inl v_bareBy)), (a_aheadBy, .inl (cI, 192, .inl v_aheadBy))] H locs → lv_has ls 7 [(0, .ref a_this), (1, .int x1)] → W p l e rmX6_optimise s m args below meth c H locs 0 0 (MQ below (zQi D (zT cI cZ cM) res.1 [(a_this, .inr (6, [.ref a_a, .ref a_fresh, .ref a_kept, .int res.2.2.2.1, .int res.2.2.2.2.1, .ref a_buffer, .int v_buffered, .int v_size, .int v_at, .int v_behind, .int v_kind, .int v_wrong, .int v_wrongAt, .int v_errorAt, .long v_number, .ref a_best, .ref a_rentBy, .ref a_bareBy, .ref a_aheadBy, .ref a_isEdge, .ref a_tried, .ref a_stands, .ref a_found, .ref a_foundOn, .ref a_moving, .int v_movingMany, .int v_foundIncome, .int v_foundMoves])), (a_a, .inl (cI, 180, .inl res.2.1)), (a_kept, .inl (cI, 1080, .inl res.2.2.1)), (a_best, .inl (cI, 345600, .inl res.2.2.2.2.2.1)), (a_rentBy, .inl (cI, 192, .inl res.2.2.2.2.2.2.1)), (a_bareBy, .inl (cI, 192, .inl res.2.2.2.2.2.2.2.1)), (a_aheadBy, .inl (cI, 192, .inl res.2.2.2.2.2.2.2.2))] A) args s 0 0 A) (F0 m 24 ls []) := by
  obtain ⟨⟨hx, hb, hml, hown, hts⟩, hr, hlocks⟩ := id E
  intro fu
  induction fu with
  | zero => intro x1 v_a v_kept v_keptMany v_thrown v_best v_rentBy v_bareBy v_aheadBy hf; rw [f_X6_optimise_24.eq_1] at hf; cases hf
  | succ fu ih =>
    intro x1 v_a v_kept v_keptMany v_thrown v_best v_rentBy v_bareBy v_aheadBy hf H locs ls hw hl
    rw [f_X6_optimise_24.eq_2] at hf
    refine lv_iload_n hx hb dX6_optimise_24 rfl (lv_at hl 1 rfl) ?_
    refine lv_bipush (v := 8) hx hb dX6_optimise_25 (by decide) ?_
    refine lv_icmp_ge (tgt := 46) hx hb dX6_optimise_27 (by decide) (fun hc => ?_) (fun hc => ?_)
    · have hf := oI_pos hc hf
      refine lv_iconst (v := 0) hx hb dX6_optimise_46 (by decide) ?_
      refine lv_istore_n (lv' := [(1, .int (0 : Int32)), (0, .ref a_this)]) hx hb dX6_optimise_47 rfl hl (z_lt rfl) rfl (fun ls hl => ?_)
      refine lv_bipush (v := 8) hx hb dX6_optimise_48 (by decide) ?_
      refine lv_istore_n (lv' := [(2, .int (8 : Int32)), (1, .int (0 : Int32)), (0, .ref a_this)]) hx hb dX6_optimise_50 rfl hl (z_lt rfl) rfl (fun ls hl => ?_)
      refine lv_aload_n hx hb dX6_optimise_51 rfl (lv_at hl 2 rfl) ?_
      refine z_get E.1 hw in_wsX60 0 rfl rfl 0 (z_lt rfl) mw_594 (v := .ref a_a) rfl dX6_optimise_52 ?_
      refine lv_sipush (v := 179) hx hb dX6_optimise_55 (by decide) ?_
      obtain ⟨h_21, hf⟩ := oA_elim hf
      refine z_iald E.1 hw 1 0 rfl rfl h_21 dX6_optimise_58 ?_
      obtain ⟨y_22, e_y_22, hf⟩ := oL_elim hf
      refine z_top e_y_22 ?_
      refine lv_istore_n (lv' := [(3, .int y_22), (2, .int (8 : Int32)), (1, .int (0 : Int32)), (0, .ref a_this)]) hx hb dX6_optimise_59 rfl hl (z_lt rfl) rfl (fun ls hl => ?_)
      refine lv_iconst (v := 0) hx hb dX6_optimise_60 (by decide) ?_
      refine lv_istore (lv' := [(4, .int (0 : Int32)), (3, .int y_22), (2, .int (8 : Int32)), (1, .int (0 : Int32)), (0, .ref a_this)]) hx hb dX6_optimise_61 hl (z_lt rfl) rfl (fun ls hl => ?_)
      exact w_X6_optimise_63 E  n _ _ _ _ _ _ _ _ _ _ _ _ hf _ _ _ hw (lv_sub hl [4, 3, 2, 1, 0] rfl)
    · have hf := oI_neg hc hf
      refine lv_aload_n hx hb dX6_optimise_30 rfl (lv_at hl 0 rfl) ?_
      refine z_get E.1 hw in_wsX60 0 rfl rfl 0 (z_lt rfl) mw_594 (v := .ref a_a) rfl dX6_optimise_31 ?_
      refine lv_bipush (v := 107) hx hb dX6_optimise_34 (by decide) ?_
      refine lv_iload_n hx hb dX6_optimise_36 rfl (lv_at hl 1 rfl) ?_
      refine lv_iadd hx hb dX6_optimise_37 ?_
      refine lv_iconst (v := -1) hx hb dX6_optimise_38 (by decide) ?_
      obtain ⟨h_23, hf⟩ := oA_elim hf
      obtain ⟨v_24, e_v_24, hf⟩ := oL_elim hf
      refine z_iast (ws' := [(a_this, .inr (6, [.ref a_a, .ref a_fresh, .ref a_kept, .int v_keptMany, .int v_thrown, .ref a_buffer, .int v_buffered, .int v_size, .int v_at, .int v_behind, .int v_kind, .int v_wrong, .int v_wrongAt, .int v_errorAt, .long v_number, .ref a_best, .ref a_rentBy, .ref a_bareBy, .ref a_aheadBy, .ref a_isEdge, .ref a_tried, .ref a_stands, .ref a_found, .ref a_foundOn, .ref a_moving, .int v_movingMany, .int v_foundIncome, .int v_foundMoves])), (a_a, .inl (cI, 180, .inl v_24)), (a_kept, .inl (cI, 1080, .inl v_kept)), (a_best, .inl (cI, 345600, .inl v_best)), (a_rentBy, .inl (cI, 192, .inl v_rentBy)), (a_bareBy, .inl (cI, 192, .inl v_bareBy)), (a_aheadBy, .inl (cI, 192, .inl v_aheadBy))]) E.1 hw 1 0 rfl rfl h_23 (by subst e_v_24; rfl) dX6_optimise_39 (fun H locs hw => ?_)
      refine lv_iinc (v := (x1 + (1 : Int32))) (lv' := [(1, .int (x1 + (1 : Int32))), (0, .ref a_this)]) hx hb dX6_optimise_40 hl (k := 1) rfl rfl (z_lt rfl) rfl (fun ls hl => ?_)
      refine lv_goto (tgt := 24) hx hb dX6_optimise_43 (by decide) ?_
      exact ih _ _ _ _ _ _ _ _ _ hf _ _ _ hw (lv_sub hl [1, 0] rfl)
set_option maxHeartbeats 4000000 in
set_option maxRecDepth 100000 in
theorem c_X6_optimise {l : Launch} {D : va_G} {cI cZ cM : ClassId} {a_this a_a a_fresh a_kept a_buffer a_best a_rentBy a_bareBy a_aheadBy a_isEdge a_tried a_stands a_found a_foundOn a_moving : Nat} {v_buffered : Int32} {v_size : Int32} {v_at : Int32} {v_behind : Int32} {v_kind : Int32} {v_wrong : Int32} {v_wrongAt : Int32} {v_errorAt : Int32} {v_number : Int64} {v_movingMany : Int32} {v_foundIncome : Int32} {v_foundMoves : Int32} {res : Int32 × (Nat → Int32) × (Nat → Int32) × Int32 × Int32 × (Nat → Int32) × (Nat → Int32) × (Nat → Int32) × (Nat → Int32)} {sz : Nat} {n : Nat} {v_a : Nat → Int32} {v_kept : Nat → Int32} {v_keptMany : Int32} {v_thrown : Int32} {v_best : Nat → Int32} {v_rentBy : Nat → Int32} {v_bareBy : Nat → Int32} {v_aheadBy : Nat → Int32} (hf : f_X6_optimise n v_a v_kept v_keptMany v_thrown v_best v_rentBy v_bareBy v_aheadBy = some res) : Met l yX6_optimise zwX6_optimise rmX6_optimise (zPc D (zT cI cZ cM) [.ref a_this] [(a_this, .inr (6, [.ref a_a, .ref a_fresh, .ref a_kept, .int v_keptMany, .int v_thrown, .ref a_buffer, .int v_buffered, .int v_size, .int v_at, .int v_behind, .int v_kind, .int v_wrong, .int v_wrongAt, .int v_errorAt, .long v_number, .ref a_best, .ref a_rentBy, .ref a_bareBy, .ref a_aheadBy, .ref a_isEdge, .ref a_tried, .ref a_stands, .ref a_found, .ref a_foundOn, .ref a_moving, .int v_movingMany, .int v_foundIncome, .int v_foundMoves])), (a_a, .inl (cI, 180, .inl v_a)), (a_kept, .inl (cI, 1080, .inl v_kept)), (a_best, .inl (cI, 345600, .inl v_best)), (a_rentBy, .inl (cI, 192, .inl v_rentBy)), (a_bareBy, .inl (cI, 192, .inl v_bareBy)), (a_aheadBy, .inl (cI, 192, .inl v_aheadBy))] sz) (zQi D (zT cI cZ cM) res.1 [(a_this, .inr (6, [.ref a_a, .ref a_fresh, .ref a_kept, .int res.2.2.2.1, .int res.2.2.2.2.1, .ref a_buffer, .int v_buffered, .int v_size, .int v_at, .int v_behind, .int v_kind, .int v_wrong, .int v_wrongAt, .int v_errorAt, .long v_number, .ref a_best, .ref a_rentBy, .ref a_bareBy, .ref a_aheadBy, .ref a_isEdge, .ref a_tried, .ref a_stands, .ref a_found, .ref a_foundOn, .ref a_moving, .int v_movingMany, .int v_foundIncome, .int v_foundMoves])), (a_a, .inl (cI, 180, .inl res.2.1)), (a_kept, .inl (cI, 1080, .inl res.2.2.1)), (a_best, .inl (cI, 345600, .inl res.2.2.2.2.2.1)), (a_rentBy, .inl (cI, 192, .inl res.2.2.2.2.2.2.1)), (a_bareBy, .inl (cI, 192, .inl res.2.2.2.2.2.2.2.1)), (a_aheadBy, .inl (cI, 192, .inl res.2.2.2.2.2.2.2.2))] (va_A [(a_this, .inr (6, [.ref a_a, .ref a_fresh, .ref a_kept, .int v_keptMany, .int v_thrown, .ref a_buffer, .int v_buffered, .int v_size, .int v_at, .int v_behind, .int v_kind, .int v_wrong, .int v_wrongAt, .int v_errorAt, .long v_number, .ref a_best, .ref a_rentBy, .ref a_bareBy, .ref a_aheadBy, .ref a_isEdge, .ref a_tried, .ref a_stands, .ref a_found, .ref a_foundOn, .ref a_moving, .int v_movingMany, .int v_foundIncome, .int v_foundMoves])), (a_a, .inl (cI, 180, .inl v_a)), (a_kept, .inl (cI, 1080, .inl v_kept)), (a_best, .inl (cI, 345600, .inl v_best)), (a_rentBy, .inl (cI, 192, .inl v_rentBy)), (a_bareBy, .inl (cI, 192, .inl v_bareBy)), (a_aheadBy, .inl (cI, 192, .inl v_aheadBy))] sz)) 0 0 (va_A [(a_this, .inr (6, [.ref a_a, .ref a_fresh, .ref a_kept, .int v_keptMany, .int v_thrown, .ref a_buffer, .int v_buffered, .int v_size, .int v_at, .int v_behind, .int v_kind, .int v_wrong, .int v_wrongAt, .int v_errorAt, .long v_number, .ref a_best, .ref a_rentBy, .ref a_bareBy, .ref a_aheadBy, .ref a_isEdge, .ref a_tried, .ref a_stands, .ref a_found, .ref a_foundOn, .ref a_moving, .int v_movingMany, .int v_foundIncome, .int v_foundMoves])), (a_a, .inl (cI, 180, .inl v_a)), (a_kept, .inl (cI, 1080, .inl v_kept)), (a_best, .inl (cI, 345600, .inl v_best)), (a_rentBy, .inl (cI, 192, .inl v_rentBy)), (a_bareBy, .inl (cI, 192, .inl v_bareBy)), (a_aheadBy, .inl (cI, 192, .inl v_aheadBy))] sz) := by
  refine z_met (cc := cX6_optimise) (maxL := 7) (ret := (some .int)) (by decide) rfl (Nat.le_of_ble_eq_true rfl) ?_
  intro p e s m below meth c ls E hsz hw hl
  obtain ⟨⟨hx, hb, hml, hown, hts⟩, hr, hlocks⟩ := id E
  have hl : lv_has ls 7 [(0, .ref a_this)] := hl
  unfold f_X6_optimise at hf
  refine lv_aload_n hx hb dX6_optimise_0 rfl (lv_at hl 0 rfl) ?_
  refine lv_iconst (v := 0) hx hb dX6_optimise_1 (by decide) ?_
  refine z_put (ws' := [(a_this, .inr (6, [.ref a_a, .ref a_fresh, .ref a_kept, .int v_keptMany, .int (0 : Int32), .ref a_buffer, .int v_buffered, .int v_size, .int v_at, .int v_behind, .int v_kind, .int v_wrong, .int v_wrongAt, .int v_errorAt, .long v_number, .ref a_best, .ref a_rentBy, .ref a_bareBy, .ref a_aheadBy, .ref a_isEdge, .ref a_tried, .ref a_stands, .ref a_found, .ref a_foundOn, .ref a_moving, .int v_movingMany, .int v_foundIncome, .int v_foundMoves])), (a_a, .inl (cI, 180, .inl v_a)), (a_kept, .inl (cI, 1080, .inl v_kept)), (a_best, .inl (cI, 345600, .inl v_best)), (a_rentBy, .inl (cI, 192, .inl v_rentBy)), (a_bareBy, .inl (cI, 192, .inl v_bareBy)), (a_aheadBy, .inl (cI, 192, .inl v_aheadBy))]) E.1 hw in_wsX60 tyX6 tyX6_ok nmX6 0 rfl rfl 4 (z_lt rfl) mw_595 rfl rfl rfl (z_lt rfl) rfl dX6_optimise_2 (fun H locs hw => ?_)
  refine lv_aload_n hx hb dX6_optimise_5 rfl (lv_at hl 0 rfl) ?_
  obtain ⟨v_25, v_26, h_27, hf⟩ := oB2_elim hf
  refine z_callVv (ws' := [(a_this, .inr (6, [.ref a_a, .ref a_fresh, .ref a_kept, .int v_26, .int (0 : Int32), .ref a_buffer, .int v_buffered, .int v_size, .int v_at, .int v_behind, .int v_kind, .int v_wrong, .int v_wrongAt, .int v_errorAt, .long v_number, .ref a_best, .ref a_rentBy, .ref a_bareBy, .ref a_aheadBy, .ref a_isEdge, .ref a_tried, .ref a_stands, .ref a_found, .ref a_foundOn, .ref a_moving, .int v_movingMany, .int v_foundIncome, .int v_foundMoves])), (a_a, .inl (cI, 180, .inl v_a)), (a_kept, .inl (cI, 1080, .inl v_25)), (a_best, .inl (cI, 345600, .inl v_best)), (a_rentBy, .inl (cI, 192, .inl v_rentBy)), (a_bareBy, .inl (cI, 192, .inl v_bareBy)), (a_aheadBy, .inl (cI, 192, .inl v_aheadBy))]) (wr := [(a_best, .inl (cI, 345600, .inl v_best)), (a_rentBy, .inl (cI, 192, .inl v_rentBy)), (a_bareBy, .inl (cI, 192, .inl v_bareBy)), (a_aheadBy, .inl (cI, 192, .inl v_aheadBy))]) (As := []) (rest := []) E.1 hl hw (c_X6_keeps h_27) (cwV 0 hts (z_gV mw_600 mw_601 mw_602 mw_598 mw_603) rfl rfl rfl (by decide +kernel) ⟨(Nat.le_of_ble_eq_true rfl), (Nat.le_of_ble_eq_true rfl)⟩) 7 [(0, 3)] [(3, 4)] rfl rfl rfl rfl rfl rfl (by decide +kernel) rfl (q0 := 0) rfl rfl rfl (Nat.le_of_ble_eq_true rfl) dX6_optimise_6 ⟨Nat.le_of_ble_eq_true rfl, Nat.le_of_ble_eq_true rfl⟩ (fun H locs hw => ?_)
  refine lv_aload_n hx hb dX6_optimise_9 rfl (lv_at hl 0 rfl) ?_
  refine lv_aload_n hx hb dX6_optimise_10 rfl (lv_at hl 0 rfl) ?_
  refine z_get E.1 hw in_wsX60 0 rfl rfl 0 (z_lt rfl) mw_594 (v := .ref a_a) rfl dX6_optimise_11 ?_
  refine lv_sipush (v := 179) hx hb dX6_optimise_14 (by decide) ?_
  obtain ⟨h_28, hf⟩ := oA_elim hf
  refine z_iald E.1 hw 1 0 rfl rfl h_28 dX6_optimise_17 ?_
  obtain ⟨r_29, v_30, v_31, v_32, v_33, h_34, hf⟩ := oB5_elim hf
  refine z_callVi (ws' := [(a_this, .inr (6, [.ref a_a, .ref a_fresh, .ref a_kept, .int v_26, .int (0 : Int32), .ref a_buffer, .int v_buffered, .int v_size, .int v_at, .int v_behind, .int v_kind, .int v_wrong, .int v_wrongAt, .int v_errorAt, .long v_number, .ref a_best, .ref a_rentBy, .ref a_bareBy, .ref a_aheadBy, .ref a_isEdge, .ref a_tried, .ref a_stands, .ref a_found, .ref a_foundOn, .ref a_moving, .int v_movingMany, .int v_foundIncome, .int v_foundMoves])), (a_a, .inl (cI, 180, .inl v_a)), (a_kept, .inl (cI, 1080, .inl v_25)), (a_best, .inl (cI, 345600, .inl v_30)), (a_rentBy, .inl (cI, 192, .inl v_31)), (a_bareBy, .inl (cI, 192, .inl v_32)), (a_aheadBy, .inl (cI, 192, .inl v_33))]) (wr := [(a_kept, .inl (cI, 1080, .inl v_25))]) (As := [.int (v_a ((179 : Int32)).toNatClampNeg)]) (rest := []) E.1 hl hw (c_X6_plans h_34) (cwV 1 hts (z_gV mw_633 mw_634 mw_635 mw_598 mw_636) rfl rfl rfl (by decide +kernel) ⟨(Nat.le_of_ble_eq_true rfl), (Nat.le_of_ble_eq_true rfl)⟩) 7 [(0, 2), (3, 4)] [(2, 1)] rfl rfl rfl rfl rfl rfl (by decide +kernel) rfl (q0 := 0) rfl rfl rfl (Nat.le_of_ble_eq_true rfl) dX6_optimise_18 ⟨Nat.le_of_ble_eq_true rfl, Nat.le_of_ble_eq_true rfl⟩ (fun H locs hw => ?_)
  refine lv_pop hx hb dX6_optimise_21 rfl ?_
  refine lv_iconst (v := 0) hx hb dX6_optimise_22 (by decide) ?_
  refine lv_istore_n (lv' := [(1, .int (0 : Int32)), (0, .ref a_this)]) hx hb dX6_optimise_23 rfl hl (z_lt rfl) rfl (fun ls hl => ?_)
  exact w_X6_optimise_24 E  n _ _ _ _ _ _ _ _ _ hf _ _ _ hw (lv_sub hl [1, 0] rfl)
end
/-! X6_pitchCount -/
section
variable {p : Program} {l : Launch} {e : Env} {s : State} {m : MethodId} {args : Array Value} {below : List Frame} {meth : Method} {c : Code} {D : va_G} {A : Nat → Prop} {cI cZ cM : ClassId} {a_this a_a a_fresh a_kept a_buffer a_best a_rentBy a_bareBy a_aheadBy a_isEdge a_tried a_stands a_found a_foundOn a_moving : Nat} {v_keptMany : Int32} {v_buffered : Int32} {v_size : Int32} {v_at : Int32} {v_behind : Int32} {v_kind : Int32} {v_wrong : Int32} {v_wrongAt : Int32} {v_errorAt : Int32} {v_number : Int64} {v_movingMany : Int32} {v_foundIncome : Int32} {v_foundMoves : Int32} {res : Int32 × Int32}
def rmX6_pitchCount : Room := { frames := 0, cells := 0, slots := 0, locals := 0 }
abbrev zwX6_pitchCount : List Cond := Cond.code yX6_pitchCount cX6_pitchCount 1 (some .int) :: wsAll
set_option maxHeartbeats 4000000 in
set_option maxRecDepth 100000 in
theorem c_X6_pitchCount {l : Launch} {D : va_G} {cI cZ cM : ClassId} {a_this a_a a_fresh a_kept a_buffer a_best a_rentBy a_bareBy a_aheadBy a_isEdge a_tried a_stands a_found a_foundOn a_moving : Nat} {v_keptMany : Int32} {v_buffered : Int32} {v_size : Int32} {v_at : Int32} {v_behind : Int32} {v_kind : Int32} {v_wrong : Int32} {v_wrongAt : Int32} {v_errorAt : Int32} {v_number : Int64} {v_movingMany : Int32} {v_foundIncome : Int32} {v_foundMoves : Int32} {res : Int32 × Int32} {sz : Nat} {v_a : Nat → Int32} {v_thrown : Int32} (hf : f_X6_pitchCount v_a v_thrown = some res) : Met l yX6_pitchCount zwX6_pitchCount rmX6_pitchCount (zPc D (zT cI cZ cM) [.ref a_this] [(a_this, .inr (6, [.ref a_a, .ref a_fresh, .ref a_kept, .int v_keptMany, .int v_thrown, .ref a_buffer, .int v_buffered, .int v_size, .int v_at, .int v_behind, .int v_kind, .int v_wrong, .int v_wrongAt, .int v_errorAt, .long v_number, .ref a_best, .ref a_rentBy, .ref a_bareBy, .ref a_aheadBy, .ref a_isEdge, .ref a_tried, .ref a_stands, .ref a_found, .ref a_foundOn, .ref a_moving, .int v_movingMany, .int v_foundIncome, .int v_foundMoves])), (a_a, .inl (cI, 180, .inl v_a))] sz) (zQi D (zT cI cZ cM) res.1 [(a_this, .inr (6, [.ref a_a, .ref a_fresh, .ref a_kept, .int v_keptMany, .int res.2, .ref a_buffer, .int v_buffered, .int v_size, .int v_at, .int v_behind, .int v_kind, .int v_wrong, .int v_wrongAt, .int v_errorAt, .long v_number, .ref a_best, .ref a_rentBy, .ref a_bareBy, .ref a_aheadBy, .ref a_isEdge, .ref a_tried, .ref a_stands, .ref a_found, .ref a_foundOn, .ref a_moving, .int v_movingMany, .int v_foundIncome, .int v_foundMoves])), (a_a, .inl (cI, 180, .inl v_a))] (va_A [(a_this, .inr (6, [.ref a_a, .ref a_fresh, .ref a_kept, .int v_keptMany, .int v_thrown, .ref a_buffer, .int v_buffered, .int v_size, .int v_at, .int v_behind, .int v_kind, .int v_wrong, .int v_wrongAt, .int v_errorAt, .long v_number, .ref a_best, .ref a_rentBy, .ref a_bareBy, .ref a_aheadBy, .ref a_isEdge, .ref a_tried, .ref a_stands, .ref a_found, .ref a_foundOn, .ref a_moving, .int v_movingMany, .int v_foundIncome, .int v_foundMoves])), (a_a, .inl (cI, 180, .inl v_a))] sz)) 0 0 (va_A [(a_this, .inr (6, [.ref a_a, .ref a_fresh, .ref a_kept, .int v_keptMany, .int v_thrown, .ref a_buffer, .int v_buffered, .int v_size, .int v_at, .int v_behind, .int v_kind, .int v_wrong, .int v_wrongAt, .int v_errorAt, .long v_number, .ref a_best, .ref a_rentBy, .ref a_bareBy, .ref a_aheadBy, .ref a_isEdge, .ref a_tried, .ref a_stands, .ref a_found, .ref a_foundOn, .ref a_moving, .int v_movingMany, .int v_foundIncome, .int v_foundMoves])), (a_a, .inl (cI, 180, .inl v_a))] sz) := by
  refine z_met (cc := cX6_pitchCount) (maxL := 1) (ret := (some .int)) (by decide) rfl (Nat.le_of_ble_eq_true rfl) ?_
  intro p e s m below meth c ls E hsz hw hl
  obtain ⟨⟨hx, hb, hml, hown, hts⟩, hr, hlocks⟩ := id E
  have hl : lv_has ls 1 [(0, .ref a_this)] := hl
  unfold f_X6_pitchCount at hf
  refine lv_aload_n hx hb dX6_pitchCount_0 rfl (lv_at hl 0 rfl) ?_
  refine lv_iconst (v := 0) hx hb dX6_pitchCount_1 (by decide) ?_
  refine z_put (ws' := [(a_this, .inr (6, [.ref a_a, .ref a_fresh, .ref a_kept, .int v_keptMany, .int (0 : Int32), .ref a_buffer, .int v_buffered, .int v_size, .int v_at, .int v_behind, .int v_kind, .int v_wrong, .int v_wrongAt, .int v_errorAt, .long v_number, .ref a_best, .ref a_rentBy, .ref a_bareBy, .ref a_aheadBy, .ref a_isEdge, .ref a_tried, .ref a_stands, .ref a_found, .ref a_foundOn, .ref a_moving, .int v_movingMany, .int v_foundIncome, .int v_foundMoves])), (a_a, .inl (cI, 180, .inl v_a))]) E.1 hw in_wsX60 tyX6 tyX6_ok nmX6 0 rfl rfl 4 (z_lt rfl) mw_595 rfl rfl rfl (z_lt rfl) rfl dX6_pitchCount_2 (fun H locs hw => ?_)
  refine lv_aload_n hx hb dX6_pitchCount_5 rfl (lv_at hl 0 rfl) ?_
  refine z_get E.1 hw in_wsX60 0 rfl rfl 0 (z_lt rfl) mw_594 (v := .ref a_a) rfl dX6_pitchCount_6 ?_
  refine lv_iconst (v := 1) hx hb dX6_pitchCount_9 (by decide) ?_
  obtain ⟨h_1, hf⟩ := oA_elim hf
  refine z_iald E.1 hw 1 0 rfl rfl h_1 dX6_pitchCount_10 ?_
  cases hf
  exact z_iret E rfl hw dX6_pitchCount_11
end
/-! X6_place -/
section
variable {p : Program} {l : Launch} {e : Env} {s : State} {m : MethodId} {args : Array Value} {below : List Frame} {meth : Method} {c : Code} {D : va_G} {A : Nat → Prop} {cI cZ cM : ClassId} {a_this a_a a_fresh a_kept a_buffer a_best a_rentBy a_bareBy a_aheadBy a_isEdge a_tried a_stands a_found a_foundOn a_moving : Nat} {v_buffered : Int32} {v_size : Int32} {v_at : Int32} {v_behind : Int32} {v_kind : Int32} {v_wrong : Int32} {v_wrongAt : Int32} {v_errorAt : Int32} {v_number : Int64} {v_movingMany : Int32} {v_foundIncome : Int32} {v_foundMoves : Int32} {res : Int32 × (Nat → Int32) × (Nat → Int32) × Int32 × Int32}
def rmX6_place : Room := { frames := 5, cells := 0, slots := 0, locals := 114 }
abbrev zwX6_place : List Cond := Cond.code yX6_place cX6_place 3 (some .int) :: wsAll
set_option maxHeartbeats 4000000 in
set_option maxRecDepth 100000 in
theorem w_X6_place_35 {n : Nat} (E : zE p s m args meth c cX6_place 3 (some .int) zwX6_place RX6) : ∀ (t1 : Int32) (x1 : Int32) (x2 : Int32) (v_a : Nat → Int32) (v_kept : Nat → Int32) (v_keptMany : Int32) (v_thrown : Int32), f_X6_place_35 n t1 x1 x2 v_a v_kept v_keptMany v_thrown = some res → ∀ (H : Heap) (locs : List Loc) (ls : Array Slot), zW D (zT cI cZ cM) A s [(a_this, .inr (6, [.ref a_a, .ref a_fresh, .ref a_kept, .int v_keptMany, .int v_thrown, .ref a_buffer, .int v_buffered, .int v_size, .int v_at, .int v_behind, .int v_kind, .int v_wrong, .int v_wrongAt, .int v_errorAt, .long v_number, .ref a_best, .ref a_rentBy, .ref a_bareBy, .ref a_aheadBy, .ref a_isEdge, .ref a_tried, .ref a_stands, .ref a_found, .ref a_foundOn, .ref a_moving, .int v_movingMany, .int v_foundIncome, .int v_foundMoves])), (a_a, .inl (cI, 180, .inl v_a)), (a_kept, .inl (cI, 1080, .inl v_kept))] H locs → lv_has ls 3 [(0, .ref a_this), (1, .int x1), (2, .int x2)] → W p l e rmX6_place s m args below meth c H locs 0 0 (MQ below (zQi D (zT cI cZ cM) res.1 [(a_this, .inr (6, [.ref a_a, .ref a_fresh, .ref a_kept, .int res.2.2.2.1, .int res.2.2.2.2, .ref a_buffer, .int v_buffered, .int v_size, .int v_at, .int v_behind, .int v_kind, .int v_wrong, .int v_wrongAt, .int v_errorAt, .long v_number, .ref a_best, .ref a_rentBy, .ref a_bareBy, .ref a_aheadBy, .ref a_isEdge, .ref a_tried, .ref a_stands, .ref a_found, .ref a_foundOn, .ref a_moving, .int v_movingMany, .int v_foundIncome, .int v_foundMoves])), (a_a, .inl (cI, 180, .inl res.2.1)), (a_kept, .inl (cI, 1080, .inl res.2.2.1))] A) args s 0 0 A) (F0 m 35 ls [.int t1, .ref a_this]) := by
  obtain ⟨⟨hx, hb, hml, hown, hts⟩, hr, hlocks⟩ := id E
  intro t1 x1 x2 v_a v_kept v_keptMany v_thrown hf H locs ls hw hl
  unfold f_X6_place_35 at hf
  refine z_put (ws' := [(a_this, .inr (6, [.ref a_a, .ref a_fresh, .ref a_kept, .int v_keptMany, .int t1, .ref a_buffer, .int v_buffered, .int v_size, .int v_at, .int v_behind, .int v_kind, .int v_wrong, .int v_wrongAt, .int v_errorAt, .long v_number, .ref a_best, .ref a_rentBy, .ref a_bareBy, .ref a_aheadBy, .ref a_isEdge, .ref a_tried, .ref a_stands, .ref a_found, .ref a_foundOn, .ref a_moving, .int v_movingMany, .int v_foundIncome, .int v_foundMoves])), (a_a, .inl (cI, 180, .inl v_a)), (a_kept, .inl (cI, 1080, .inl v_kept))]) E.1 hw in_wsX60 tyX6 tyX6_ok nmX6 0 rfl rfl 4 (z_lt rfl) mw_595 rfl rfl rfl (z_lt rfl) rfl dX6_place_35 (fun H locs hw => ?_)
  refine lv_aload_n hx hb dX6_place_38 rfl (lv_at hl 0 rfl) ?_
  refine z_get E.1 hw in_wsX60 0 rfl rfl 4 (z_lt rfl) mw_595 (v := .int t1) rfl dX6_place_39 ?_
  refine lv_if_le (tgt := 47) hx hb dX6_place_42 (by decide) (fun hc => ?_) (fun hc => ?_)
  · have hf := oI_pos hc hf
    refine lv_aload_n hx hb dX6_place_47 rfl (lv_at hl 0 rfl) ?_
    obtain ⟨v_1, v_2, h_3, hf⟩ := oB2_elim hf
    refine z_callVv (ws' := [(a_this, .inr (6, [.ref a_a, .ref a_fresh, .ref a_kept, .int v_2, .int t1, .ref a_buffer, .int v_buffered, .int v_size, .int v_at, .int v_behind, .int v_kind, .int v_wrong, .int v_wrongAt, .int v_errorAt, .long v_number, .ref a_best, .ref a_rentBy, .ref a_bareBy, .ref a_aheadBy, .ref a_isEdge, .ref a_tried, .ref a_stands, .ref a_found, .ref a_foundOn, .ref a_moving, .int v_movingMany, .int v_foundIncome, .int v_foundMoves])), (a_a, .inl (cI, 180, .inl v_a)), (a_kept, .inl (cI, 1080, .inl v_1))]) (wr := []) (As := []) (rest := []) E.1 hl hw (c_X6_keeps h_3) (cwV 0 hts (z_gV mw_600 mw_601 mw_602 mw_598 mw_603) rfl rfl rfl (by decide +kernel) ⟨(Nat.le_of_ble_eq_true rfl), (Nat.le_of_ble_eq_true rfl)⟩) 3 [(0, 3)] [] rfl rfl rfl rfl rfl rfl (by decide +kernel) rfl (q0 := 0) rfl rfl rfl (Nat.le_of_ble_eq_true rfl) dX6_place_48 ⟨Nat.le_of_ble_eq_true rfl, Nat.le_of_ble_eq_true rfl⟩ (fun H locs hw => ?_)
    refine lv_aload_n hx hb dX6_place_51 rfl (lv_at hl 0 rfl) ?_
    refine z_get E.1 hw in_wsX60 0 rfl rfl 0 (z_lt rfl) mw_594 (v := .ref a_a) rfl dX6_place_52 ?_
    refine lv_bipush (v := 107) hx hb dX6_place_55 (by decide) ?_
    refine lv_iload_n hx hb dX6_place_57 rfl (lv_at hl 1 rfl) ?_
    refine lv_iadd hx hb dX6_place_58 ?_
    refine lv_iload_n hx hb dX6_place_59 rfl (lv_at hl 2 rfl) ?_
    obtain ⟨h_4, hf⟩ := oA_elim hf
    obtain ⟨v_5, e_v_5, hf⟩ := oL_elim hf
    refine z_iast (ws' := [(a_this, .inr (6, [.ref a_a, .ref a_fresh, .ref a_kept, .int v_2, .int t1, .ref a_buffer, .int v_buffered, .int v_size, .int v_at, .int v_behind, .int v_kind, .int v_wrong, .int v_wrongAt, .int v_errorAt, .long v_number, .ref a_best, .ref a_rentBy, .ref a_bareBy, .ref a_aheadBy, .ref a_isEdge, .ref a_tried, .ref a_stands, .ref a_found, .ref a_foundOn, .ref a_moving, .int v_movingMany, .int v_foundIncome, .int v_foundMoves])), (a_a, .inl (cI, 180, .inl v_5)), (a_kept, .inl (cI, 1080, .inl v_1))]) E.1 hw 1 0 rfl rfl h_4 (by subst e_v_5; rfl) dX6_place_60 (fun H locs hw => ?_)
    refine lv_aload_n hx hb dX6_place_61 rfl (lv_at hl 0 rfl) ?_
    refine lv_iload_n hx hb dX6_place_62 rfl (lv_at hl 1 rfl) ?_
    refine lv_iload_n hx hb dX6_place_63 rfl (lv_at hl 2 rfl) ?_
    obtain ⟨r_6, h_7, hf⟩ := oB_elim hf
    refine z_callVi (ws' := [(a_this, .inr (6, [.ref a_a, .ref a_fresh, .ref a_kept, .int v_2, .int t1, .ref a_buffer, .int v_buffered, .int v_size, .int v_at, .int v_behind, .int v_kind, .int v_wrong, .int v_wrongAt, .int v_errorAt, .long v_number, .ref a_best, .ref a_rentBy, .ref a_bareBy, .ref a_aheadBy, .ref a_isEdge, .ref a_tried, .ref a_stands, .ref a_found, .ref a_foundOn, .ref a_moving, .int v_movingMany, .int v_foundIncome, .int v_foundMoves])), (a_a, .inl (cI, 180, .inl v_5)), (a_kept, .inl (cI, 1080, .inl v_1))]) (wr := [(a_kept, .inl (cI, 1080, .inl v_1))]) (As := [.int x1, .int x2]) (rest := []) E.1 hl hw (c_X6_rentOf h_7) (cwV 2 hts (z_gV mw_645 mw_646 mw_647 mw_598 mw_648) rfl rfl rfl (by decide +kernel) ⟨(Nat.le_of_ble_eq_true rfl), (Nat.le_of_ble_eq_true rfl)⟩) 3 [(0, 2)] [(2, 1)] rfl rfl rfl rfl rfl rfl (by decide +kernel) rfl (q0 := 0) rfl rfl rfl (Nat.le_of_ble_eq_true rfl) dX6_place_64 ⟨Nat.le_of_ble_eq_true rfl, Nat.le_of_ble_eq_true rfl⟩ (fun H locs hw => ?_)
    cases hf
    exact z_iret E rfl hw dX6_place_67
  · have hf := oI_neg hc hf
    refine lv_iconst (v := 0) hx hb dX6_place_45 (by decide) ?_
    cases hf
    exact z_iret E rfl hw dX6_place_46
set_option maxHeartbeats 4000000 in
set_option maxRecDepth 100000 in
theorem w_X6_place_17 {n : Nat} (E : zE p s m args meth c cX6_place 3 (some .int) zwX6_place RX6) : ∀ (x1 : Int32) (x2 : Int32) (v_a : Nat → Int32) (v_kept : Nat → Int32) (v_keptMany : Int32) (v_thrown : Int32), f_X6_place_17 n x1 x2 v_a v_kept v_keptMany v_thrown = some res → ∀ (H : Heap) (locs : List Loc) (ls : Array Slot), zW D (zT cI cZ cM) A s [(a_this, .inr (6, [.ref a_a, .ref a_fresh, .ref a_kept, .int v_keptMany, .int v_thrown, .ref a_buffer, .int v_buffered, .int v_size, .int v_at, .int v_behind, .int v_kind, .int v_wrong, .int v_wrongAt, .int v_errorAt, .long v_number, .ref a_best, .ref a_rentBy, .ref a_bareBy, .ref a_aheadBy, .ref a_isEdge, .ref a_tried, .ref a_stands, .ref a_found, .ref a_foundOn, .ref a_moving, .int v_movingMany, .int v_foundIncome, .int v_foundMoves])), (a_a, .inl (cI, 180, .inl v_a)), (a_kept, .inl (cI, 1080, .inl v_kept))] H locs → lv_has ls 3 [(0, .ref a_this), (1, .int x1), (2, .int x2)] → W p l e rmX6_place s m args below meth c H locs 0 0 (MQ below (zQi D (zT cI cZ cM) res.1 [(a_this, .inr (6, [.ref a_a, .ref a_fresh, .ref a_kept, .int res.2.2.2.1, .int res.2.2.2.2, .ref a_buffer, .int v_buffered, .int v_size, .int v_at, .int v_behind, .int v_kind, .int v_wrong, .int v_wrongAt, .int v_errorAt, .long v_number, .ref a_best, .ref a_rentBy, .ref a_bareBy, .ref a_aheadBy, .ref a_isEdge, .ref a_tried, .ref a_stands, .ref a_found, .ref a_foundOn, .ref a_moving, .int v_movingMany, .int v_foundIncome, .int v_foundMoves])), (a_a, .inl (cI, 180, .inl res.2.1)), (a_kept, .inl (cI, 1080, .inl res.2.2.1))] A) args s 0 0 A) (F0 m 17 ls [.ref a_this]) := by
  obtain ⟨⟨hx, hb, hml, hown, hts⟩, hr, hlocks⟩ := id E
  intro x1 x2 v_a v_kept v_keptMany v_thrown hf H locs ls hw hl
  unfold f_X6_place_17 at hf
  refine lv_iconst (v := 1) hx hb dX6_place_17 (by decide) ?_
  refine lv_goto (tgt := 35) hx hb dX6_place_18 (by decide) ?_
  exact w_X6_place_35 E  _ _ _ _ _ _ _ hf _ _ _ hw (lv_sub hl [0, 1, 2] rfl)
set_option maxHeartbeats 4000000 in
set_option maxRecDepth 100000 in
theorem c_X6_place {l : Launch} {D : va_G} {cI cZ cM : ClassId} {a_this a_a a_fresh a_kept a_buffer a_best a_rentBy a_bareBy a_aheadBy a_isEdge a_tried a_stands a_found a_foundOn a_moving : Nat} {v_buffered : Int32} {v_size : Int32} {v_at : Int32} {v_behind : Int32} {v_kind : Int32} {v_wrong : Int32} {v_wrongAt : Int32} {v_errorAt : Int32} {v_number : Int64} {v_movingMany : Int32} {v_foundIncome : Int32} {v_foundMoves : Int32} {res : Int32 × (Nat → Int32) × (Nat → Int32) × Int32 × Int32} {sz : Nat} {n : Nat} {v_a : Nat → Int32} {v_kept : Nat → Int32} {v_keptMany : Int32} {v_thrown : Int32} {x1 : Int32} {x2 : Int32} (hf : f_X6_place n v_a v_kept v_keptMany v_thrown x1 x2 = some res) : Met l yX6_place zwX6_place rmX6_place (zPc D (zT cI cZ cM) [.ref a_this, .int x1, .int x2] [(a_this, .inr (6, [.ref a_a, .ref a_fresh, .ref a_kept, .int v_keptMany, .int v_thrown, .ref a_buffer, .int v_buffered, .int v_size, .int v_at, .int v_behind, .int v_kind, .int v_wrong, .int v_wrongAt, .int v_errorAt, .long v_number, .ref a_best, .ref a_rentBy, .ref a_bareBy, .ref a_aheadBy, .ref a_isEdge, .ref a_tried, .ref a_stands, .ref a_found, .ref a_foundOn, .ref a_moving, .int v_movingMany, .int v_foundIncome, .int v_foundMoves])), (a_a, .inl (cI, 180, .inl v_a)), (a_kept, .inl (cI, 1080, .inl v_kept))] sz) (zQi D (zT cI cZ cM) res.1 [(a_this, .inr (6, [.ref a_a, .ref a_fresh, .ref a_kept, .int res.2.2.2.1, .int res.2.2.2.2, .ref a_buffer, .int v_buffered, .int v_size, .int v_at, .int v_behind, .int v_kind, .int v_wrong, .int v_wrongAt, .int v_errorAt, .long v_number, .ref a_best, .ref a_rentBy, .ref a_bareBy, .ref a_aheadBy, .ref a_isEdge, .ref a_tried, .ref a_stands, .ref a_found, .ref a_foundOn, .ref a_moving, .int v_movingMany, .int v_foundIncome, .int v_foundMoves])), (a_a, .inl (cI, 180, .inl res.2.1)), (a_kept, .inl (cI, 1080, .inl res.2.2.1))] (va_A [(a_this, .inr (6, [.ref a_a, .ref a_fresh, .ref a_kept, .int v_keptMany, .int v_thrown, .ref a_buffer, .int v_buffered, .int v_size, .int v_at, .int v_behind, .int v_kind, .int v_wrong, .int v_wrongAt, .int v_errorAt, .long v_number, .ref a_best, .ref a_rentBy, .ref a_bareBy, .ref a_aheadBy, .ref a_isEdge, .ref a_tried, .ref a_stands, .ref a_found, .ref a_foundOn, .ref a_moving, .int v_movingMany, .int v_foundIncome, .int v_foundMoves])), (a_a, .inl (cI, 180, .inl v_a)), (a_kept, .inl (cI, 1080, .inl v_kept))] sz)) 0 0 (va_A [(a_this, .inr (6, [.ref a_a, .ref a_fresh, .ref a_kept, .int v_keptMany, .int v_thrown, .ref a_buffer, .int v_buffered, .int v_size, .int v_at, .int v_behind, .int v_kind, .int v_wrong, .int v_wrongAt, .int v_errorAt, .long v_number, .ref a_best, .ref a_rentBy, .ref a_bareBy, .ref a_aheadBy, .ref a_isEdge, .ref a_tried, .ref a_stands, .ref a_found, .ref a_foundOn, .ref a_moving, .int v_movingMany, .int v_foundIncome, .int v_foundMoves])), (a_a, .inl (cI, 180, .inl v_a)), (a_kept, .inl (cI, 1080, .inl v_kept))] sz) := by
  refine z_met (cc := cX6_place) (maxL := 3) (ret := (some .int)) (by decide) rfl (Nat.le_of_ble_eq_true rfl) ?_
  intro p e s m below meth c ls E hsz hw hl
  obtain ⟨⟨hx, hb, hml, hown, hts⟩, hr, hlocks⟩ := id E
  have hl : lv_has ls 3 [(0, .ref a_this), (1, .int x1), (2, .int x2)] := hl
  unfold f_X6_place at hf
  refine lv_aload_n hx hb dX6_place_0 rfl (lv_at hl 0 rfl) ?_
  refine lv_aload_n hx hb dX6_place_1 rfl (lv_at hl 0 rfl) ?_
  refine lv_iload_n hx hb dX6_place_2 rfl (lv_at hl 1 rfl) ?_
  obtain ⟨r_8, h_9, hf⟩ := oB_elim hf
  refine z_callVi (ws' := [(a_this, .inr (6, [.ref a_a, .ref a_fresh, .ref a_kept, .int v_keptMany, .int v_thrown, .ref a_buffer, .int v_buffered, .int v_size, .int v_at, .int v_behind, .int v_kind, .int v_wrong, .int v_wrongAt, .int v_errorAt, .long v_number, .ref a_best, .ref a_rentBy, .ref a_bareBy, .ref a_aheadBy, .ref a_isEdge, .ref a_tried, .ref a_stands, .ref a_found, .ref a_foundOn, .ref a_moving, .int v_movingMany, .int v_foundIncome, .int v_foundMoves])), (a_a, .inl (cI, 180, .inl v_a)), (a_kept, .inl (cI, 1080, .inl v_kept))]) (wr := [(a_kept, .inl (cI, 1080, .inl v_kept))]) (As := [.int x1]) (rest := [.ref a_this]) E.1 hl hw (c_X6_isTrader h_9) (cwV 1 hts (z_gV mw_715 mw_716 mw_717 mw_598 mw_718) rfl rfl rfl (by decide +kernel) ⟨(Nat.le_of_ble_eq_true rfl), (Nat.le_of_ble_eq_true rfl)⟩) 3 [(0, 2)] [(2, 1)] rfl rfl rfl rfl rfl rfl (by decide +kernel) rfl (q0 := 0) rfl rfl rfl (Nat.le_of_ble_eq_true rfl) dX6_place_3 ⟨Nat.le_of_ble_eq_true rfl, Nat.le_of_ble_eq_true rfl⟩ (fun H locs hw => ?_)
  refine lv_if_eq (tgt := 17) hx hb dX6_place_6 (by decide) (fun hc => ?_) (fun hc => ?_)
  · have hf := oI_pos hc hf
    exact w_X6_place_17 E  _ _ _ _ _ _ hf _ _ _ hw (lv_sub hl [0, 1, 2] rfl)
  · have hf := oI_neg hc hf
    refine lv_aload_n hx hb dX6_place_9 rfl (lv_at hl 0 rfl) ?_
    refine lv_iload_n hx hb dX6_place_10 rfl (lv_at hl 2 rfl) ?_
    obtain ⟨r_10, h_11, hf⟩ := oB_elim hf
    refine z_callVi (ws' := [(a_this, .inr (6, [.ref a_a, .ref a_fresh, .ref a_kept, .int v_keptMany, .int v_thrown, .ref a_buffer, .int v_buffered, .int v_size, .int v_at, .int v_behind, .int v_kind, .int v_wrong, .int v_wrongAt, .int v_errorAt, .long v_number, .ref a_best, .ref a_rentBy, .ref a_bareBy, .ref a_aheadBy, .ref a_isEdge, .ref a_tried, .ref a_stands, .ref a_found, .ref a_foundOn, .ref a_moving, .int v_movingMany, .int v_foundIncome, .int v_foundMoves])), (a_a, .inl (cI, 180, .inl v_a)), (a_kept, .inl (cI, 1080, .inl v_kept))]) (wr := [(a_kept, .inl (cI, 1080, .inl v_kept))]) (As := [.int x2]) (rest := [.ref a_this]) E.1 hl hw (c_X6_isPitch h_11) (cwV 1 hts (z_gV mw_665 mw_666 mw_667 mw_598 mw_668) rfl rfl rfl (by decide +kernel) ⟨(Nat.le_of_ble_eq_true rfl), (Nat.le_of_ble_eq_true rfl)⟩) 3 [(0, 2)] [(2, 1)] rfl rfl rfl rfl rfl rfl (by decide +kernel) rfl (q0 := 0) rfl rfl rfl (Nat.le_of_ble_eq_true rfl) dX6_place_11 ⟨Nat.le_of_ble_eq_true rfl, Nat.le_of_ble_eq_true rfl⟩ (fun H locs hw => ?_)
    refine lv_if_ne (tgt := 21) hx hb dX6_place_14 (by decide) (fun hc => ?_) (fun hc => ?_)
    · have hf := oI_neg hc hf
      refine lv_aload_n hx hb dX6_place_21 rfl (lv_at hl 0 rfl) ?_
      refine lv_iload_n hx hb dX6_place_22 rfl (lv_at hl 1 rfl) ?_
      refine lv_iload_n hx hb dX6_place_23 rfl (lv_at hl 2 rfl) ?_
      obtain ⟨r_12, h_13, hf⟩ := oB_elim hf
      refine z_callVi (ws' := [(a_this, .inr (6, [.ref a_a, .ref a_fresh, .ref a_kept, .int v_keptMany, .int v_thrown, .ref a_buffer, .int v_buffered, .int v_size, .int v_at, .int v_behind, .int v_kind, .int v_wrong, .int v_wrongAt, .int v_errorAt, .long v_number, .ref a_best, .ref a_rentBy, .ref a_bareBy, .ref a_aheadBy, .ref a_isEdge, .ref a_tried, .ref a_stands, .ref a_found, .ref a_foundOn, .ref a_moving, .int v_movingMany, .int v_foundIncome, .int v_foundMoves])), (a_a, .inl (cI, 180, .inl v_a)), (a_kept, .inl (cI, 1080, .inl v_kept))]) (wr := [(a_kept, .inl (cI, 1080, .inl v_kept))]) (As := [.int x1, .int x2]) (rest := [.ref a_this]) E.1 hl hw (c_X6_hinders h_13) (cwV 2 hts (z_gV mw_781 mw_782 mw_783 mw_598 mw_784) rfl rfl rfl (by decide +kernel) ⟨(Nat.le_of_ble_eq_true rfl), (Nat.le_of_ble_eq_true rfl)⟩) 3 [(0, 2)] [(2, 1)] rfl rfl rfl rfl rfl rfl (by decide +kernel) rfl (q0 := 0) rfl rfl rfl (Nat.le_of_ble_eq_true rfl) dX6_place_24 ⟨Nat.le_of_ble_eq_true rfl, Nat.le_of_ble_eq_true rfl⟩ (fun H locs hw => ?_)
      refine lv_if_eq (tgt := 34) hx hb dX6_place_27 (by decide) (fun hc => ?_) (fun hc => ?_)
      · have hf := oI_pos hc hf
        refine lv_iconst (v := 0) hx hb dX6_place_34 (by decide) ?_
        exact w_X6_place_35 E  _ _ _ _ _ _ _ hf _ _ _ hw (lv_sub hl [0, 1, 2] rfl)
      · have hf := oI_neg hc hf
        refine lv_iconst (v := 2) hx hb dX6_place_30 (by decide) ?_
        refine lv_goto (tgt := 35) hx hb dX6_place_31 (by decide) ?_
        exact w_X6_place_35 E  _ _ _ _ _ _ _ hf _ _ _ hw (lv_sub hl [0, 1, 2] rfl)
    · have hf := oI_pos hc hf
      exact w_X6_place_17 E  _ _ _ _ _ _ hf _ _ _ hw (lv_sub hl [0, 1, 2] rfl)
end
/-! X6_remove -/
section
variable {p : Program} {l : Launch} {e : Env} {s : State} {m : MethodId} {args : Array Value} {below : List Frame} {meth : Method} {c : Code} {D : va_G} {A : Nat → Prop} {cI cZ cM : ClassId} {a_this a_a a_fresh a_kept a_buffer a_best a_rentBy a_bareBy a_aheadBy a_isEdge a_tried a_stands a_found a_foundOn a_moving : Nat} {v_buffered : Int32} {v_size : Int32} {v_at : Int32} {v_behind : Int32} {v_kind : Int32} {v_wrong : Int32} {v_wrongAt : Int32} {v_errorAt : Int32} {v_number : Int64} {v_movingMany : Int32} {v_foundIncome : Int32} {v_foundMoves : Int32} {res : Int32 × (Nat → Int32) × (Nat → Int32) × Int32 × Int32}
def rmX6_remove : Room := { frames := 2, cells := 0, slots := 0, locals := 46 }
abbrev zwX6_remove : List Cond := Cond.code yX6_remove cX6_remove 3 (some .int) :: wsAll
set_option maxHeartbeats 4000000 in
set_option maxRecDepth 100000 in
theorem w_X6_remove_31 {n : Nat} (E : zE p s m args meth c cX6_remove 3 (some .int) zwX6_remove RX6) : ∀ (t1 : Int32) (x1 : Int32) (v_a : Nat → Int32) (v_kept : Nat → Int32) (v_keptMany : Int32) (v_thrown : Int32), f_X6_remove_31 n t1 x1 v_a v_kept v_keptMany v_thrown = some res → ∀ (H : Heap) (locs : List Loc) (ls : Array Slot), zW D (zT cI cZ cM) A s [(a_this, .inr (6, [.ref a_a, .ref a_fresh, .ref a_kept, .int v_keptMany, .int v_thrown, .ref a_buffer, .int v_buffered, .int v_size, .int v_at, .int v_behind, .int v_kind, .int v_wrong, .int v_wrongAt, .int v_errorAt, .long v_number, .ref a_best, .ref a_rentBy, .ref a_bareBy, .ref a_aheadBy, .ref a_isEdge, .ref a_tried, .ref a_stands, .ref a_found, .ref a_foundOn, .ref a_moving, .int v_movingMany, .int v_foundIncome, .int v_foundMoves])), (a_a, .inl (cI, 180, .inl v_a)), (a_kept, .inl (cI, 1080, .inl v_kept))] H locs → lv_has ls 3 [(0, .ref a_this), (1, .int x1)] → W p l e rmX6_remove s m args below meth c H locs 0 0 (MQ below (zQi D (zT cI cZ cM) res.1 [(a_this, .inr (6, [.ref a_a, .ref a_fresh, .ref a_kept, .int res.2.2.2.1, .int res.2.2.2.2, .ref a_buffer, .int v_buffered, .int v_size, .int v_at, .int v_behind, .int v_kind, .int v_wrong, .int v_wrongAt, .int v_errorAt, .long v_number, .ref a_best, .ref a_rentBy, .ref a_bareBy, .ref a_aheadBy, .ref a_isEdge, .ref a_tried, .ref a_stands, .ref a_found, .ref a_foundOn, .ref a_moving, .int v_movingMany, .int v_foundIncome, .int v_foundMoves])), (a_a, .inl (cI, 180, .inl res.2.1)), (a_kept, .inl (cI, 1080, .inl res.2.2.1))] A) args s 0 0 A) (F0 m 31 ls [.int t1, .ref a_this]) := by
  obtain ⟨⟨hx, hb, hml, hown, hts⟩, hr, hlocks⟩ := id E
  intro t1 x1 v_a v_kept v_keptMany v_thrown hf H locs ls hw hl
  unfold f_X6_remove_31 at hf
  refine z_put (ws' := [(a_this, .inr (6, [.ref a_a, .ref a_fresh, .ref a_kept, .int v_keptMany, .int t1, .ref a_buffer, .int v_buffered, .int v_size, .int v_at, .int v_behind, .int v_kind, .int v_wrong, .int v_wrongAt, .int v_errorAt, .long v_number, .ref a_best, .ref a_rentBy, .ref a_bareBy, .ref a_aheadBy, .ref a_isEdge, .ref a_tried, .ref a_stands, .ref a_found, .ref a_foundOn, .ref a_moving, .int v_movingMany, .int v_foundIncome, .int v_foundMoves])), (a_a, .inl (cI, 180, .inl v_a)), (a_kept, .inl (cI, 1080, .inl v_kept))]) E.1 hw in_wsX60 tyX6 tyX6_ok nmX6 0 rfl rfl 4 (z_lt rfl) mw_595 rfl rfl rfl (z_lt rfl) rfl dX6_remove_31 (fun H locs hw => ?_)
  refine lv_aload_n hx hb dX6_remove_34 rfl (lv_at hl 0 rfl) ?_
  refine z_get E.1 hw in_wsX60 0 rfl rfl 4 (z_lt rfl) mw_595 (v := .int t1) rfl dX6_remove_35 ?_
  refine lv_if_le (tgt := 43) hx hb dX6_remove_38 (by decide) (fun hc => ?_) (fun hc => ?_)
  · have hf := oI_pos hc hf
    refine lv_aload_n hx hb dX6_remove_43 rfl (lv_at hl 0 rfl) ?_
    obtain ⟨v_1, v_2, h_3, hf⟩ := oB2_elim hf
    refine z_callVv (ws' := [(a_this, .inr (6, [.ref a_a, .ref a_fresh, .ref a_kept, .int v_2, .int t1, .ref a_buffer, .int v_buffered, .int v_size, .int v_at, .int v_behind, .int v_kind, .int v_wrong, .int v_wrongAt, .int v_errorAt, .long v_number, .ref a_best, .ref a_rentBy, .ref a_bareBy, .ref a_aheadBy, .ref a_isEdge, .ref a_tried, .ref a_stands, .ref a_found, .ref a_foundOn, .ref a_moving, .int v_movingMany, .int v_foundIncome, .int v_foundMoves])), (a_a, .inl (cI, 180, .inl v_a)), (a_kept, .inl (cI, 1080, .inl v_1))]) (wr := []) (As := []) (rest := []) E.1 hl hw (c_X6_keeps h_3) (cwV 0 hts (z_gV mw_600 mw_601 mw_602 mw_598 mw_603) rfl rfl rfl (by decide +kernel) ⟨(Nat.le_of_ble_eq_true rfl), (Nat.le_of_ble_eq_true rfl)⟩) 3 [(0, 3)] [] rfl rfl rfl rfl rfl rfl (by decide +kernel) rfl (q0 := 0) rfl rfl rfl (Nat.le_of_ble_eq_true rfl) dX6_remove_44 ⟨Nat.le_of_ble_eq_true rfl, Nat.le_of_ble_eq_true rfl⟩ (fun H locs hw => ?_)
    refine lv_aload_n hx hb dX6_remove_47 rfl (lv_at hl 0 rfl) ?_
    refine z_get E.1 hw in_wsX60 0 rfl rfl 0 (z_lt rfl) mw_594 (v := .ref a_a) rfl dX6_remove_48 ?_
    refine lv_bipush (v := 107) hx hb dX6_remove_51 (by decide) ?_
    refine lv_iload_n hx hb dX6_remove_53 rfl (lv_at hl 1 rfl) ?_
    refine lv_iadd hx hb dX6_remove_54 ?_
    obtain ⟨h_4, hf⟩ := oA_elim hf
    refine z_iald E.1 hw 1 0 rfl rfl h_4 dX6_remove_55 ?_
    obtain ⟨y_5, e_y_5, hf⟩ := oL_elim hf
    refine z_top e_y_5 ?_
    refine lv_istore_n (lv' := [(2, .int y_5), (0, .ref a_this), (1, .int x1)]) hx hb dX6_remove_56 rfl hl (z_lt rfl) rfl (fun ls hl => ?_)
    refine lv_aload_n hx hb dX6_remove_57 rfl (lv_at hl 1 rfl) ?_
    refine z_get E.1 hw in_wsX60 0 rfl rfl 0 (z_lt rfl) mw_594 (v := .ref a_a) rfl dX6_remove_58 ?_
    refine lv_bipush (v := 107) hx hb dX6_remove_61 (by decide) ?_
    refine lv_iload_n hx hb dX6_remove_63 rfl (lv_at hl 2 rfl) ?_
    refine lv_iadd hx hb dX6_remove_64 ?_
    refine lv_iconst (v := -1) hx hb dX6_remove_65 (by decide) ?_
    obtain ⟨h_6, hf⟩ := oA_elim hf
    obtain ⟨v_7, e_v_7, hf⟩ := oL_elim hf
    refine z_iast (ws' := [(a_this, .inr (6, [.ref a_a, .ref a_fresh, .ref a_kept, .int v_2, .int t1, .ref a_buffer, .int v_buffered, .int v_size, .int v_at, .int v_behind, .int v_kind, .int v_wrong, .int v_wrongAt, .int v_errorAt, .long v_number, .ref a_best, .ref a_rentBy, .ref a_bareBy, .ref a_aheadBy, .ref a_isEdge, .ref a_tried, .ref a_stands, .ref a_found, .ref a_foundOn, .ref a_moving, .int v_movingMany, .int v_foundIncome, .int v_foundMoves])), (a_a, .inl (cI, 180, .inl v_7)), (a_kept, .inl (cI, 1080, .inl v_1))]) E.1 hw 1 0 rfl rfl h_6 (by subst e_v_7; rfl) dX6_remove_66 (fun H locs hw => ?_)
    refine lv_iload_n hx hb dX6_remove_67 rfl (lv_at hl 0 rfl) ?_
    cases hf
    exact z_iret E rfl hw dX6_remove_68
  · have hf := oI_neg hc hf
    refine lv_iconst (v := 0) hx hb dX6_remove_41 (by decide) ?_
    cases hf
    exact z_iret E rfl hw dX6_remove_42
set_option maxHeartbeats 4000000 in
set_option maxRecDepth 100000 in
theorem c_X6_remove {l : Launch} {D : va_G} {cI cZ cM : ClassId} {a_this a_a a_fresh a_kept a_buffer a_best a_rentBy a_bareBy a_aheadBy a_isEdge a_tried a_stands a_found a_foundOn a_moving : Nat} {v_buffered : Int32} {v_size : Int32} {v_at : Int32} {v_behind : Int32} {v_kind : Int32} {v_wrong : Int32} {v_wrongAt : Int32} {v_errorAt : Int32} {v_number : Int64} {v_movingMany : Int32} {v_foundIncome : Int32} {v_foundMoves : Int32} {res : Int32 × (Nat → Int32) × (Nat → Int32) × Int32 × Int32} {sz : Nat} {n : Nat} {v_a : Nat → Int32} {v_kept : Nat → Int32} {v_keptMany : Int32} {v_thrown : Int32} {x1 : Int32} (hf : f_X6_remove n v_a v_kept v_keptMany v_thrown x1 = some res) : Met l yX6_remove zwX6_remove rmX6_remove (zPc D (zT cI cZ cM) [.ref a_this, .int x1] [(a_this, .inr (6, [.ref a_a, .ref a_fresh, .ref a_kept, .int v_keptMany, .int v_thrown, .ref a_buffer, .int v_buffered, .int v_size, .int v_at, .int v_behind, .int v_kind, .int v_wrong, .int v_wrongAt, .int v_errorAt, .long v_number, .ref a_best, .ref a_rentBy, .ref a_bareBy, .ref a_aheadBy, .ref a_isEdge, .ref a_tried, .ref a_stands, .ref a_found, .ref a_foundOn, .ref a_moving, .int v_movingMany, .int v_foundIncome, .int v_foundMoves])), (a_a, .inl (cI, 180, .inl v_a)), (a_kept, .inl (cI, 1080, .inl v_kept))] sz) (zQi D (zT cI cZ cM) res.1 [(a_this, .inr (6, [.ref a_a, .ref a_fresh, .ref a_kept, .int res.2.2.2.1, .int res.2.2.2.2, .ref a_buffer, .int v_buffered, .int v_size, .int v_at, .int v_behind, .int v_kind, .int v_wrong, .int v_wrongAt, .int v_errorAt, .long v_number, .ref a_best, .ref a_rentBy, .ref a_bareBy, .ref a_aheadBy, .ref a_isEdge, .ref a_tried, .ref a_stands, .ref a_found, .ref a_foundOn, .ref a_moving, .int v_movingMany, .int v_foundIncome, .int v_foundMoves])), (a_a, .inl (cI, 180, .inl res.2.1)), (a_kept, .inl (cI, 1080, .inl res.2.2.1))] (va_A [(a_this, .inr (6, [.ref a_a, .ref a_fresh, .ref a_kept, .int v_keptMany, .int v_thrown, .ref a_buffer, .int v_buffered, .int v_size, .int v_at, .int v_behind, .int v_kind, .int v_wrong, .int v_wrongAt, .int v_errorAt, .long v_number, .ref a_best, .ref a_rentBy, .ref a_bareBy, .ref a_aheadBy, .ref a_isEdge, .ref a_tried, .ref a_stands, .ref a_found, .ref a_foundOn, .ref a_moving, .int v_movingMany, .int v_foundIncome, .int v_foundMoves])), (a_a, .inl (cI, 180, .inl v_a)), (a_kept, .inl (cI, 1080, .inl v_kept))] sz)) 0 0 (va_A [(a_this, .inr (6, [.ref a_a, .ref a_fresh, .ref a_kept, .int v_keptMany, .int v_thrown, .ref a_buffer, .int v_buffered, .int v_size, .int v_at, .int v_behind, .int v_kind, .int v_wrong, .int v_wrongAt, .int v_errorAt, .long v_number, .ref a_best, .ref a_rentBy, .ref a_bareBy, .ref a_aheadBy, .ref a_isEdge, .ref a_tried, .ref a_stands, .ref a_found, .ref a_foundOn, .ref a_moving, .int v_movingMany, .int v_foundIncome, .int v_foundMoves])), (a_a, .inl (cI, 180, .inl v_a)), (a_kept, .inl (cI, 1080, .inl v_kept))] sz) := by
  refine z_met (cc := cX6_remove) (maxL := 3) (ret := (some .int)) (by decide) rfl (Nat.le_of_ble_eq_true rfl) ?_
  intro p e s m below meth c ls E hsz hw hl
  obtain ⟨⟨hx, hb, hml, hown, hts⟩, hr, hlocks⟩ := id E
  have hl : lv_has ls 3 [(0, .ref a_this), (1, .int x1)] := hl
  unfold f_X6_remove at hf
  refine lv_aload_n hx hb dX6_remove_0 rfl (lv_at hl 0 rfl) ?_
  refine lv_aload_n hx hb dX6_remove_1 rfl (lv_at hl 0 rfl) ?_
  refine lv_iload_n hx hb dX6_remove_2 rfl (lv_at hl 1 rfl) ?_
  obtain ⟨r_8, h_9, hf⟩ := oB_elim hf
  refine z_callVi (ws' := [(a_this, .inr (6, [.ref a_a, .ref a_fresh, .ref a_kept, .int v_keptMany, .int v_thrown, .ref a_buffer, .int v_buffered, .int v_size, .int v_at, .int v_behind, .int v_kind, .int v_wrong, .int v_wrongAt, .int v_errorAt, .long v_number, .ref a_best, .ref a_rentBy, .ref a_bareBy, .ref a_aheadBy, .ref a_isEdge, .ref a_tried, .ref a_stands, .ref a_found, .ref a_foundOn, .ref a_moving, .int v_movingMany, .int v_foundIncome, .int v_foundMoves])), (a_a, .inl (cI, 180, .inl v_a)), (a_kept, .inl (cI, 1080, .inl v_kept))]) (wr := [(a_kept, .inl (cI, 1080, .inl v_kept))]) (As := [.int x1]) (rest := [.ref a_this]) E.1 hl hw (c_X6_isTrader h_9) (cwV 1 hts (z_gV mw_715 mw_716 mw_717 mw_598 mw_718) rfl rfl rfl (by decide +kernel) ⟨(Nat.le_of_ble_eq_true rfl), (Nat.le_of_ble_eq_true rfl)⟩) 3 [(0, 2)] [(2, 1)] rfl rfl rfl rfl rfl rfl (by decide +kernel) rfl (q0 := 0) rfl rfl rfl (Nat.le_of_ble_eq_true rfl) dX6_remove_3 ⟨Nat.le_of_ble_eq_true rfl, Nat.le_of_ble_eq_true rfl⟩ (fun H locs hw => ?_)
  refine lv_if_ne (tgt := 13) hx hb dX6_remove_6 (by decide) (fun hc => ?_) (fun hc => ?_)
  · have hf := oI_neg hc hf
    refine lv_aload_n hx hb dX6_remove_13 rfl (lv_at hl 0 rfl) ?_
    refine z_get E.1 hw in_wsX60 0 rfl rfl 0 (z_lt rfl) mw_594 (v := .ref a_a) rfl dX6_remove_14 ?_
    refine lv_bipush (v := 107) hx hb dX6_remove_17 (by decide) ?_
    refine lv_iload_n hx hb dX6_remove_19 rfl (lv_at hl 1 rfl) ?_
    refine lv_iadd hx hb dX6_remove_20 ?_
    obtain ⟨h_10, hf⟩ := oA_elim hf
    refine z_iald E.1 hw 1 0 rfl rfl h_10 dX6_remove_21 ?_
    refine lv_iconst (v := -1) hx hb dX6_remove_22 (by decide) ?_
    refine lv_icmp_ne (tgt := 30) hx hb dX6_remove_23 (by decide) (fun hc => ?_) (fun hc => ?_)
    · have hf := oI_neg hc hf
      refine lv_iconst (v := 0) hx hb dX6_remove_30 (by decide) ?_
      exact w_X6_remove_31 E  _ _ _ _ _ _ hf _ _ _ hw (lv_sub hl [0, 1] rfl)
    · have hf := oI_pos hc hf
      refine lv_iconst (v := 2) hx hb dX6_remove_26 (by decide) ?_
      refine lv_goto (tgt := 31) hx hb dX6_remove_27 (by decide) ?_
      exact w_X6_remove_31 E  _ _ _ _ _ _ hf _ _ _ hw (lv_sub hl [0, 1] rfl)
  · have hf := oI_pos hc hf
    refine lv_iconst (v := 1) hx hb dX6_remove_9 (by decide) ?_
    refine lv_goto (tgt := 31) hx hb dX6_remove_10 (by decide) ?_
    exact w_X6_remove_31 E  _ _ _ _ _ _ hf _ _ _ hw (lv_sub hl [0, 1] rfl)
end
/-! X6_rent -/
section
variable {p : Program} {l : Launch} {e : Env} {s : State} {m : MethodId} {args : Array Value} {below : List Frame} {meth : Method} {c : Code} {D : va_G} {A : Nat → Prop} {cI cZ cM : ClassId} {a_this a_a a_fresh a_kept a_buffer a_best a_rentBy a_bareBy a_aheadBy a_isEdge a_tried a_stands a_found a_foundOn a_moving : Nat} {v_keptMany : Int32} {v_buffered : Int32} {v_size : Int32} {v_at : Int32} {v_behind : Int32} {v_kind : Int32} {v_wrong : Int32} {v_wrongAt : Int32} {v_errorAt : Int32} {v_number : Int64} {v_movingMany : Int32} {v_foundIncome : Int32} {v_foundMoves : Int32} {res : Int32 × Int32}
def rmX6_rent : Room := { frames := 3, cells := 0, slots := 0, locals := 68 }
abbrev zwX6_rent : List Cond := Cond.code yX6_rent cX6_rent 2 (some .int) :: wsAll
set_option maxHeartbeats 4000000 in
set_option maxRecDepth 100000 in
theorem c_X6_rent {l : Launch} {D : va_G} {cI cZ cM : ClassId} {a_this a_a a_fresh a_kept a_buffer a_best a_rentBy a_bareBy a_aheadBy a_isEdge a_tried a_stands a_found a_foundOn a_moving : Nat} {v_keptMany : Int32} {v_buffered : Int32} {v_size : Int32} {v_at : Int32} {v_behind : Int32} {v_kind : Int32} {v_wrong : Int32} {v_wrongAt : Int32} {v_errorAt : Int32} {v_number : Int64} {v_movingMany : Int32} {v_foundIncome : Int32} {v_foundMoves : Int32} {res : Int32 × Int32} {sz : Nat} {v_a : Nat → Int32} {v_thrown : Int32} {x1 : Int32} (hf : f_X6_rent v_a v_thrown x1 = some res) : Met l yX6_rent zwX6_rent rmX6_rent (zPc D (zT cI cZ cM) [.ref a_this, .int x1] [(a_this, .inr (6, [.ref a_a, .ref a_fresh, .ref a_kept, .int v_keptMany, .int v_thrown, .ref a_buffer, .int v_buffered, .int v_size, .int v_at, .int v_behind, .int v_kind, .int v_wrong, .int v_wrongAt, .int v_errorAt, .long v_number, .ref a_best, .ref a_rentBy, .ref a_bareBy, .ref a_aheadBy, .ref a_isEdge, .ref a_tried, .ref a_stands, .ref a_found, .ref a_foundOn, .ref a_moving, .int v_movingMany, .int v_foundIncome, .int v_foundMoves])), (a_a, .inl (cI, 180, .inl v_a))] sz) (zQi D (zT cI cZ cM) res.1 [(a_this, .inr (6, [.ref a_a, .ref a_fresh, .ref a_kept, .int v_keptMany, .int res.2, .ref a_buffer, .int v_buffered, .int v_size, .int v_at, .int v_behind, .int v_kind, .int v_wrong, .int v_wrongAt, .int v_errorAt, .long v_number, .ref a_best, .ref a_rentBy, .ref a_bareBy, .ref a_aheadBy, .ref a_isEdge, .ref a_tried, .ref a_stands, .ref a_found, .ref a_foundOn, .ref a_moving, .int v_movingMany, .int v_foundIncome, .int v_foundMoves])), (a_a, .inl (cI, 180, .inl v_a))] (va_A [(a_this, .inr (6, [.ref a_a, .ref a_fresh, .ref a_kept, .int v_keptMany, .int v_thrown, .ref a_buffer, .int v_buffered, .int v_size, .int v_at, .int v_behind, .int v_kind, .int v_wrong, .int v_wrongAt, .int v_errorAt, .long v_number, .ref a_best, .ref a_rentBy, .ref a_bareBy, .ref a_aheadBy, .ref a_isEdge, .ref a_tried, .ref a_stands, .ref a_found, .ref a_foundOn, .ref a_moving, .int v_movingMany, .int v_foundIncome, .int v_foundMoves])), (a_a, .inl (cI, 180, .inl v_a))] sz)) 0 0 (va_A [(a_this, .inr (6, [.ref a_a, .ref a_fresh, .ref a_kept, .int v_keptMany, .int v_thrown, .ref a_buffer, .int v_buffered, .int v_size, .int v_at, .int v_behind, .int v_kind, .int v_wrong, .int v_wrongAt, .int v_errorAt, .long v_number, .ref a_best, .ref a_rentBy, .ref a_bareBy, .ref a_aheadBy, .ref a_isEdge, .ref a_tried, .ref a_stands, .ref a_found, .ref a_foundOn, .ref a_moving, .int v_movingMany, .int v_foundIncome, .int v_foundMoves])), (a_a, .inl (cI, 180, .inl v_a))] sz) := by
  refine z_met (cc := cX6_rent) (maxL := 2) (ret := (some .int)) (by decide) rfl (Nat.le_of_ble_eq_true rfl) ?_
  intro p e s m below meth c ls E hsz hw hl
  obtain ⟨⟨hx, hb, hml, hown, hts⟩, hr, hlocks⟩ := id E
  have hl : lv_has ls 2 [(0, .ref a_this), (1, .int x1)] := hl
  unfold f_X6_rent at hf
  refine lv_aload_n hx hb dX6_rent_0 rfl (lv_at hl 0 rfl) ?_
  refine lv_iconst (v := 2) hx hb dX6_rent_1 (by decide) ?_
  refine lv_iload_n hx hb dX6_rent_2 rfl (lv_at hl 1 rfl) ?_
  obtain ⟨r_1, v_2, h_3, hf⟩ := oB2_elim hf
  refine z_callVi (ws' := [(a_this, .inr (6, [.ref a_a, .ref a_fresh, .ref a_kept, .int v_keptMany, .int v_2, .ref a_buffer, .int v_buffered, .int v_size, .int v_at, .int v_behind, .int v_kind, .int v_wrong, .int v_wrongAt, .int v_errorAt, .long v_number, .ref a_best, .ref a_rentBy, .ref a_bareBy, .ref a_aheadBy, .ref a_isEdge, .ref a_tried, .ref a_stands, .ref a_found, .ref a_foundOn, .ref a_moving, .int v_movingMany, .int v_foundIncome, .int v_foundMoves])), (a_a, .inl (cI, 180, .inl v_a))]) (wr := []) (As := [.int (2 : Int32), .int x1]) (rest := []) E.1 hl hw (c_X6_pitchValue h_3) (cwV 2 hts (z_gV mw_831 mw_832 mw_833 mw_598 mw_834) rfl rfl rfl (by decide +kernel) ⟨(Nat.le_of_ble_eq_true rfl), (Nat.le_of_ble_eq_true rfl)⟩) 2 [(0, 2)] [] rfl rfl rfl rfl rfl rfl (by decide +kernel) rfl (q0 := 0) rfl rfl rfl (Nat.le_of_ble_eq_true rfl) dX6_rent_3 ⟨Nat.le_of_ble_eq_true rfl, Nat.le_of_ble_eq_true rfl⟩ (fun H locs hw => ?_)
  cases hf
  exact z_iret E rfl hw dX6_rent_6
end
/-! X6_row -/
section
variable {p : Program} {l : Launch} {e : Env} {s : State} {m : MethodId} {args : Array Value} {below : List Frame} {meth : Method} {c : Code} {D : va_G} {A : Nat → Prop} {cI cZ cM : ClassId} {a_this a_a a_fresh a_kept a_buffer a_best a_rentBy a_bareBy a_aheadBy a_isEdge a_tried a_stands a_found a_foundOn a_moving : Nat} {v_keptMany : Int32} {v_buffered : Int32} {v_size : Int32} {v_at : Int32} {v_behind : Int32} {v_kind : Int32} {v_wrong : Int32} {v_wrongAt : Int32} {v_errorAt : Int32} {v_number : Int64} {v_movingMany : Int32} {v_foundIncome : Int32} {v_foundMoves : Int32} {res : Int32 × Int32}
def rmX6_row : Room := { frames := 3, cells := 0, slots := 0, locals := 68 }
abbrev zwX6_row : List Cond := Cond.code yX6_row cX6_row 2 (some .int) :: wsAll
set_option maxHeartbeats 4000000 in
set_option maxRecDepth 100000 in
theorem c_X6_row {l : Launch} {D : va_G} {cI cZ cM : ClassId} {a_this a_a a_fresh a_kept a_buffer a_best a_rentBy a_bareBy a_aheadBy a_isEdge a_tried a_stands a_found a_foundOn a_moving : Nat} {v_keptMany : Int32} {v_buffered : Int32} {v_size : Int32} {v_at : Int32} {v_behind : Int32} {v_kind : Int32} {v_wrong : Int32} {v_wrongAt : Int32} {v_errorAt : Int32} {v_number : Int64} {v_movingMany : Int32} {v_foundIncome : Int32} {v_foundMoves : Int32} {res : Int32 × Int32} {sz : Nat} {v_a : Nat → Int32} {v_thrown : Int32} {x1 : Int32} (hf : f_X6_row v_a v_thrown x1 = some res) : Met l yX6_row zwX6_row rmX6_row (zPc D (zT cI cZ cM) [.ref a_this, .int x1] [(a_this, .inr (6, [.ref a_a, .ref a_fresh, .ref a_kept, .int v_keptMany, .int v_thrown, .ref a_buffer, .int v_buffered, .int v_size, .int v_at, .int v_behind, .int v_kind, .int v_wrong, .int v_wrongAt, .int v_errorAt, .long v_number, .ref a_best, .ref a_rentBy, .ref a_bareBy, .ref a_aheadBy, .ref a_isEdge, .ref a_tried, .ref a_stands, .ref a_found, .ref a_foundOn, .ref a_moving, .int v_movingMany, .int v_foundIncome, .int v_foundMoves])), (a_a, .inl (cI, 180, .inl v_a))] sz) (zQi D (zT cI cZ cM) res.1 [(a_this, .inr (6, [.ref a_a, .ref a_fresh, .ref a_kept, .int v_keptMany, .int res.2, .ref a_buffer, .int v_buffered, .int v_size, .int v_at, .int v_behind, .int v_kind, .int v_wrong, .int v_wrongAt, .int v_errorAt, .long v_number, .ref a_best, .ref a_rentBy, .ref a_bareBy, .ref a_aheadBy, .ref a_isEdge, .ref a_tried, .ref a_stands, .ref a_found, .ref a_foundOn, .ref a_moving, .int v_movingMany, .int v_foundIncome, .int v_foundMoves])), (a_a, .inl (cI, 180, .inl v_a))] (va_A [(a_this, .inr (6, [.ref a_a, .ref a_fresh, .ref a_kept, .int v_keptMany, .int v_thrown, .ref a_buffer, .int v_buffered, .int v_size, .int v_at, .int v_behind, .int v_kind, .int v_wrong, .int v_wrongAt, .int v_errorAt, .long v_number, .ref a_best, .ref a_rentBy, .ref a_bareBy, .ref a_aheadBy, .ref a_isEdge, .ref a_tried, .ref a_stands, .ref a_found, .ref a_foundOn, .ref a_moving, .int v_movingMany, .int v_foundIncome, .int v_foundMoves])), (a_a, .inl (cI, 180, .inl v_a))] sz)) 0 0 (va_A [(a_this, .inr (6, [.ref a_a, .ref a_fresh, .ref a_kept, .int v_keptMany, .int v_thrown, .ref a_buffer, .int v_buffered, .int v_size, .int v_at, .int v_behind, .int v_kind, .int v_wrong, .int v_wrongAt, .int v_errorAt, .long v_number, .ref a_best, .ref a_rentBy, .ref a_bareBy, .ref a_aheadBy, .ref a_isEdge, .ref a_tried, .ref a_stands, .ref a_found, .ref a_foundOn, .ref a_moving, .int v_movingMany, .int v_foundIncome, .int v_foundMoves])), (a_a, .inl (cI, 180, .inl v_a))] sz) := by
  refine z_met (cc := cX6_row) (maxL := 2) (ret := (some .int)) (by decide) rfl (Nat.le_of_ble_eq_true rfl) ?_
  intro p e s m below meth c ls E hsz hw hl
  obtain ⟨⟨hx, hb, hml, hown, hts⟩, hr, hlocks⟩ := id E
  have hl : lv_has ls 2 [(0, .ref a_this), (1, .int x1)] := hl
  unfold f_X6_row at hf
  refine lv_aload_n hx hb dX6_row_0 rfl (lv_at hl 0 rfl) ?_
  refine lv_bipush (v := 50) hx hb dX6_row_1 (by decide) ?_
  refine lv_iload_n hx hb dX6_row_3 rfl (lv_at hl 1 rfl) ?_
  obtain ⟨r_1, v_2, h_3, hf⟩ := oB2_elim hf
  refine z_callVi (ws' := [(a_this, .inr (6, [.ref a_a, .ref a_fresh, .ref a_kept, .int v_keptMany, .int v_2, .ref a_buffer, .int v_buffered, .int v_size, .int v_at, .int v_behind, .int v_kind, .int v_wrong, .int v_wrongAt, .int v_errorAt, .long v_number, .ref a_best, .ref a_rentBy, .ref a_bareBy, .ref a_aheadBy, .ref a_isEdge, .ref a_tried, .ref a_stands, .ref a_found, .ref a_foundOn, .ref a_moving, .int v_movingMany, .int v_foundIncome, .int v_foundMoves])), (a_a, .inl (cI, 180, .inl v_a))]) (wr := []) (As := [.int (50 : Int32), .int x1]) (rest := []) E.1 hl hw (c_X6_pitchValue h_3) (cwV 2 hts (z_gV mw_831 mw_832 mw_833 mw_598 mw_834) rfl rfl rfl (by decide +kernel) ⟨(Nat.le_of_ble_eq_true rfl), (Nat.le_of_ble_eq_true rfl)⟩) 2 [(0, 2)] [] rfl rfl rfl rfl rfl rfl (by decide +kernel) rfl (q0 := 0) rfl rfl rfl (Nat.le_of_ble_eq_true rfl) dX6_row_4 ⟨Nat.le_of_ble_eq_true rfl, Nat.le_of_ble_eq_true rfl⟩ (fun H locs hw => ?_)
  cases hf
  exact z_iret E rfl hw dX6_row_7
end
/-! X6_see -/
section
variable {p : Program} {l : Launch} {e : Env} {s : State} {m : MethodId} {args : Array Value} {below : List Frame} {meth : Method} {c : Code} {D : va_G} {A : Nat → Prop} {cI cZ cM : ClassId} {a_this a_a a_fresh a_kept a_buffer a_best a_rentBy a_bareBy a_aheadBy a_isEdge a_tried a_stands a_found a_foundOn a_moving : Nat} {v_keptMany : Int32} {v_thrown : Int32} {v_buffered : Int32} {v_at : Int32} {v_behind : Int32} {v_kind : Int32} {v_wrong : Int32} {v_wrongAt : Int32} {v_errorAt : Int32} {v_number : Int64} {v_movingMany : Int32} {v_foundIncome : Int32} {v_foundMoves : Int32} {res : Int32}
def rmX6_see : Room := { frames := 0, cells := 0, slots := 0, locals := 0 }
abbrev zwX6_see : List Cond := Cond.code yX6_see cX6_see 2 (some .int) :: wsAll
set_option maxHeartbeats 4000000 in
set_option maxRecDepth 100000 in
theorem c_X6_see {l : Launch} {D : va_G} {cI cZ cM : ClassId} {a_this a_a a_fresh a_kept a_buffer a_best a_rentBy a_bareBy a_aheadBy a_isEdge a_tried a_stands a_found a_foundOn a_moving : Nat} {v_keptMany : Int32} {v_thrown : Int32} {v_buffered : Int32} {v_at : Int32} {v_behind : Int32} {v_kind : Int32} {v_wrong : Int32} {v_wrongAt : Int32} {v_errorAt : Int32} {v_number : Int64} {v_movingMany : Int32} {v_foundIncome : Int32} {v_foundMoves : Int32} {res : Int32} {sz : Nat} {v_buffer : Nat → Int32} {v_size : Int32} {x1 : Int32} (hf : f_X6_see v_buffer v_size x1 = some res) : Met l yX6_see zwX6_see rmX6_see (zPc D (zT cI cZ cM) [.ref a_this, .int x1] [(a_this, .inr (6, [.ref a_a, .ref a_fresh, .ref a_kept, .int v_keptMany, .int v_thrown, .ref a_buffer, .int v_buffered, .int v_size, .int v_at, .int v_behind, .int v_kind, .int v_wrong, .int v_wrongAt, .int v_errorAt, .long v_number, .ref a_best, .ref a_rentBy, .ref a_bareBy, .ref a_aheadBy, .ref a_isEdge, .ref a_tried, .ref a_stands, .ref a_found, .ref a_foundOn, .ref a_moving, .int v_movingMany, .int v_foundIncome, .int v_foundMoves])), (a_buffer, .inl (cI, 600, .inl v_buffer))] sz) (zQi D (zT cI cZ cM) res [(a_this, .inr (6, [.ref a_a, .ref a_fresh, .ref a_kept, .int v_keptMany, .int v_thrown, .ref a_buffer, .int v_buffered, .int v_size, .int v_at, .int v_behind, .int v_kind, .int v_wrong, .int v_wrongAt, .int v_errorAt, .long v_number, .ref a_best, .ref a_rentBy, .ref a_bareBy, .ref a_aheadBy, .ref a_isEdge, .ref a_tried, .ref a_stands, .ref a_found, .ref a_foundOn, .ref a_moving, .int v_movingMany, .int v_foundIncome, .int v_foundMoves])), (a_buffer, .inl (cI, 600, .inl v_buffer))] (va_A [(a_this, .inr (6, [.ref a_a, .ref a_fresh, .ref a_kept, .int v_keptMany, .int v_thrown, .ref a_buffer, .int v_buffered, .int v_size, .int v_at, .int v_behind, .int v_kind, .int v_wrong, .int v_wrongAt, .int v_errorAt, .long v_number, .ref a_best, .ref a_rentBy, .ref a_bareBy, .ref a_aheadBy, .ref a_isEdge, .ref a_tried, .ref a_stands, .ref a_found, .ref a_foundOn, .ref a_moving, .int v_movingMany, .int v_foundIncome, .int v_foundMoves])), (a_buffer, .inl (cI, 600, .inl v_buffer))] sz)) 0 0 (va_A [(a_this, .inr (6, [.ref a_a, .ref a_fresh, .ref a_kept, .int v_keptMany, .int v_thrown, .ref a_buffer, .int v_buffered, .int v_size, .int v_at, .int v_behind, .int v_kind, .int v_wrong, .int v_wrongAt, .int v_errorAt, .long v_number, .ref a_best, .ref a_rentBy, .ref a_bareBy, .ref a_aheadBy, .ref a_isEdge, .ref a_tried, .ref a_stands, .ref a_found, .ref a_foundOn, .ref a_moving, .int v_movingMany, .int v_foundIncome, .int v_foundMoves])), (a_buffer, .inl (cI, 600, .inl v_buffer))] sz) := by
  refine z_met (cc := cX6_see) (maxL := 2) (ret := (some .int)) (by decide) rfl (Nat.le_of_ble_eq_true rfl) ?_
  intro p e s m below meth c ls E hsz hw hl
  obtain ⟨⟨hx, hb, hml, hown, hts⟩, hr, hlocks⟩ := id E
  have hl : lv_has ls 2 [(0, .ref a_this), (1, .int x1)] := hl
  unfold f_X6_see at hf
  refine lv_iload_n hx hb dX6_see_0 rfl (lv_at hl 1 rfl) ?_
  refine lv_aload_n hx hb dX6_see_1 rfl (lv_at hl 0 rfl) ?_
  refine z_get E.1 hw in_wsX60 0 rfl rfl 7 (z_lt rfl) mw_738 (v := .int v_size) rfl dX6_see_2 ?_
  refine lv_icmp_ge (tgt := 17) hx hb dX6_see_5 (by decide) (fun hc => ?_) (fun hc => ?_)
  · have hf := oI_pos hc hf
    refine lv_iconst (v := -1) hx hb dX6_see_17 (by decide) ?_
    cases hf
    exact z_iret E rfl hw dX6_see_18
  · have hf := oI_neg hc hf
    refine lv_aload_n hx hb dX6_see_8 rfl (lv_at hl 0 rfl) ?_
    refine z_get E.1 hw in_wsX60 0 rfl rfl 5 (z_lt rfl) mw_608 (v := .ref a_buffer) rfl dX6_see_9 ?_
    refine lv_iload_n hx hb dX6_see_12 rfl (lv_at hl 1 rfl) ?_
    obtain ⟨h_1, hf⟩ := oA_elim hf
    refine z_iald E.1 hw 1 0 rfl rfl h_1 dX6_see_13 ?_
    refine lv_goto (tgt := 18) hx hb dX6_see_14 (by decide) ?_
    cases hf
    exact z_iret E rfl hw dX6_see_18
end
/-! X6_setClash -/
section
variable {p : Program} {l : Launch} {e : Env} {s : State} {m : MethodId} {args : Array Value} {below : List Frame} {meth : Method} {c : Code} {D : va_G} {A : Nat → Prop} {cI cZ cM : ClassId} {a_this a_a a_fresh a_kept a_buffer a_best a_rentBy a_bareBy a_aheadBy a_isEdge a_tried a_stands a_found a_foundOn a_moving : Nat} {v_buffered : Int32} {v_size : Int32} {v_at : Int32} {v_behind : Int32} {v_kind : Int32} {v_wrong : Int32} {v_wrongAt : Int32} {v_errorAt : Int32} {v_number : Int64} {v_movingMany : Int32} {v_foundIncome : Int32} {v_foundMoves : Int32} {res : (Nat → Int32) × (Nat → Int32) × Int32 × Int32}
def rmX6_setClash : Room := { frames := 4, cells := 0, slots := 0, locals := 94 }
abbrev zwX6_setClash : List Cond := Cond.code yX6_setClash cX6_setClash 4 none :: wsAll
set_option maxHeartbeats 4000000 in
set_option maxRecDepth 100000 in
theorem w_X6_setClash_61 {n : Nat} (E : zE p s m args meth c cX6_setClash 4 none zwX6_setClash RX6) : ∀ (t1 : Int32) (t2 : Int32) (t3 : Int32) (v_a : Nat → Int32) (v_kept : Nat → Int32) (v_keptMany : Int32) (v_thrown : Int32), f_X6_setClash_61 n t1 t2 t3 v_a v_kept v_keptMany v_thrown = some res → ∀ (H : Heap) (locs : List Loc) (ls : Array Slot), zW D (zT cI cZ cM) A s [(a_this, .inr (6, [.ref a_a, .ref a_fresh, .ref a_kept, .int v_keptMany, .int v_thrown, .ref a_buffer, .int v_buffered, .int v_size, .int v_at, .int v_behind, .int v_kind, .int v_wrong, .int v_wrongAt, .int v_errorAt, .long v_number, .ref a_best, .ref a_rentBy, .ref a_bareBy, .ref a_aheadBy, .ref a_isEdge, .ref a_tried, .ref a_stands, .ref a_found, .ref a_foundOn, .ref a_moving, .int v_movingMany, .int v_foundIncome, .int v_foundMoves])), (a_a, .inl (cI, 180, .inl v_a)), (a_kept, .inl (cI, 1080, .inl v_kept))] H locs → lv_has ls 4 [] → W p l e rmX6_setClash s m args below meth c H locs 0 0 (MQ below (zQv D (zT cI cZ cM) [(a_this, .inr (6, [.ref a_a, .ref a_fresh, .ref a_kept, .int res.2.2.1, .int res.2.2.2, .ref a_buffer, .int v_buffered, .int v_size, .int v_at, .int v_behind, .int v_kind, .int v_wrong, .int v_wrongAt, .int v_errorAt, .long v_number, .ref a_best, .ref a_rentBy, .ref a_bareBy, .ref a_aheadBy, .ref a_isEdge, .ref a_tried, .ref a_stands, .ref a_found, .ref a_foundOn, .ref a_moving, .int v_movingMany, .int v_foundIncome, .int v_foundMoves])), (a_a, .inl (cI, 180, .inl res.1)), (a_kept, .inl (cI, 1080, .inl res.2.1))] A) args s 0 0 A) (F0 m 61 ls [.int t3, .int t2, .int t1, .ref a_a]) := by
  obtain ⟨⟨hx, hb, hml, hown, hts⟩, hr, hlocks⟩ := id E
  intro t1 t2 t3 v_a v_kept v_keptMany v_thrown hf H locs ls hw hl
  unfold f_X6_setClash_61 at hf
  obtain ⟨v_1, h_2, hf⟩ := oB_elim hf
  refine z_callSv (ws' := [(a_this, .inr (6, [.ref a_a, .ref a_fresh, .ref a_kept, .int v_keptMany, .int v_thrown, .ref a_buffer, .int v_buffered, .int v_size, .int v_at, .int v_behind, .int v_kind, .int v_wrong, .int v_wrongAt, .int v_errorAt, .long v_number, .ref a_best, .ref a_rentBy, .ref a_bareBy, .ref a_aheadBy, .ref a_isEdge, .ref a_tried, .ref a_stands, .ref a_found, .ref a_foundOn, .ref a_moving, .int v_movingMany, .int v_foundIncome, .int v_foundMoves])), (a_a, .inl (cI, 180, .inl v_1)), (a_kept, .inl (cI, 1080, .inl v_kept))]) (wr := [(a_this, .inr (6, [.ref a_a, .ref a_fresh, .ref a_kept, .int v_keptMany, .int v_thrown, .ref a_buffer, .int v_buffered, .int v_size, .int v_at, .int v_behind, .int v_kind, .int v_wrong, .int v_wrongAt, .int v_errorAt, .long v_number, .ref a_best, .ref a_rentBy, .ref a_bareBy, .ref a_aheadBy, .ref a_isEdge, .ref a_tried, .ref a_stands, .ref a_found, .ref a_foundOn, .ref a_moving, .int v_movingMany, .int v_foundIncome, .int v_foundMoves])), (a_kept, .inl (cI, 1080, .inl v_kept))]) (As := [.ref a_a, .int t1, .int t2, .int t3]) (rest := []) E.1 hl hw (c_X6_clashes h_2) (va_cwS 4 hts (z_gS mw_696 mw_697 mw_598 mw_698) rfl rfl rfl (by decide +kernel) ⟨(Nat.le_of_ble_eq_true rfl), (Nat.le_of_ble_eq_true rfl)⟩) 3 [(1, 1)] [(0, 1), (2, 1)] rfl rfl rfl rfl rfl rfl (by decide +kernel) rfl rfl (Nat.le_of_ble_eq_true rfl) dX6_setClash_61 ⟨Nat.le_of_ble_eq_true rfl, Nat.le_of_ble_eq_true rfl⟩ (fun H locs hw => ?_)
  cases hf
  exact z_vret E rfl hw dX6_setClash_64
set_option maxHeartbeats 4000000 in
set_option maxRecDepth 100000 in
theorem w_X6_setClash_31 {n : Nat} (E : zE p s m args meth c cX6_setClash 4 none zwX6_setClash RX6) : ∀ (t1 : Int32) (x1 : Int32) (x2 : Int32) (x3 : Int32) (v_a : Nat → Int32) (v_kept : Nat → Int32) (v_keptMany : Int32) (v_thrown : Int32), f_X6_setClash_31 n t1 x1 x2 x3 v_a v_kept v_keptMany v_thrown = some res → ∀ (H : Heap) (locs : List Loc) (ls : Array Slot), zW D (zT cI cZ cM) A s [(a_this, .inr (6, [.ref a_a, .ref a_fresh, .ref a_kept, .int v_keptMany, .int v_thrown, .ref a_buffer, .int v_buffered, .int v_size, .int v_at, .int v_behind, .int v_kind, .int v_wrong, .int v_wrongAt, .int v_errorAt, .long v_number, .ref a_best, .ref a_rentBy, .ref a_bareBy, .ref a_aheadBy, .ref a_isEdge, .ref a_tried, .ref a_stands, .ref a_found, .ref a_foundOn, .ref a_moving, .int v_movingMany, .int v_foundIncome, .int v_foundMoves])), (a_a, .inl (cI, 180, .inl v_a)), (a_kept, .inl (cI, 1080, .inl v_kept))] H locs → lv_has ls 4 [(0, .ref a_this), (1, .int x1), (2, .int x2), (3, .int x3)] → W p l e rmX6_setClash s m args below meth c H locs 0 0 (MQ below (zQv D (zT cI cZ cM) [(a_this, .inr (6, [.ref a_a, .ref a_fresh, .ref a_kept, .int res.2.2.1, .int res.2.2.2, .ref a_buffer, .int v_buffered, .int v_size, .int v_at, .int v_behind, .int v_kind, .int v_wrong, .int v_wrongAt, .int v_errorAt, .long v_number, .ref a_best, .ref a_rentBy, .ref a_bareBy, .ref a_aheadBy, .ref a_isEdge, .ref a_tried, .ref a_stands, .ref a_found, .ref a_foundOn, .ref a_moving, .int v_movingMany, .int v_foundIncome, .int v_foundMoves])), (a_a, .inl (cI, 180, .inl res.1)), (a_kept, .inl (cI, 1080, .inl res.2.1))] A) args s 0 0 A) (F0 m 31 ls [.int t1, .ref a_this]) := by
  obtain ⟨⟨hx, hb, hml, hown, hts⟩, hr, hlocks⟩ := id E
  intro t1 x1 x2 x3 v_a v_kept v_keptMany v_thrown hf H locs ls hw hl
  unfold f_X6_setClash_31 at hf
  refine z_put (ws' := [(a_this, .inr (6, [.ref a_a, .ref a_fresh, .ref a_kept, .int v_keptMany, .int t1, .ref a_buffer, .int v_buffered, .int v_size, .int v_at, .int v_behind, .int v_kind, .int v_wrong, .int v_wrongAt, .int v_errorAt, .long v_number, .ref a_best, .ref a_rentBy, .ref a_bareBy, .ref a_aheadBy, .ref a_isEdge, .ref a_tried, .ref a_stands, .ref a_found, .ref a_foundOn, .ref a_moving, .int v_movingMany, .int v_foundIncome, .int v_foundMoves])), (a_a, .inl (cI, 180, .inl v_a)), (a_kept, .inl (cI, 1080, .inl v_kept))]) E.1 hw in_wsX60 tyX6 tyX6_ok nmX6 0 rfl rfl 4 (z_lt rfl) mw_595 rfl rfl rfl (z_lt rfl) rfl dX6_setClash_31 (fun H locs hw => ?_)
  refine lv_aload_n hx hb dX6_setClash_34 rfl (lv_at hl 0 rfl) ?_
  refine z_get E.1 hw in_wsX60 0 rfl rfl 4 (z_lt rfl) mw_595 (v := .int t1) rfl dX6_setClash_35 ?_
  refine lv_if_le (tgt := 42) hx hb dX6_setClash_38 (by decide) (fun hc => ?_) (fun hc => ?_)
  · have hf := oI_pos hc hf
    refine lv_aload_n hx hb dX6_setClash_42 rfl (lv_at hl 0 rfl) ?_
    obtain ⟨v_3, v_4, h_5, hf⟩ := oB2_elim hf
    refine z_callVv (ws' := [(a_this, .inr (6, [.ref a_a, .ref a_fresh, .ref a_kept, .int v_4, .int t1, .ref a_buffer, .int v_buffered, .int v_size, .int v_at, .int v_behind, .int v_kind, .int v_wrong, .int v_wrongAt, .int v_errorAt, .long v_number, .ref a_best, .ref a_rentBy, .ref a_bareBy, .ref a_aheadBy, .ref a_isEdge, .ref a_tried, .ref a_stands, .ref a_found, .ref a_foundOn, .ref a_moving, .int v_movingMany, .int v_foundIncome, .int v_foundMoves])), (a_a, .inl (cI, 180, .inl v_a)), (a_kept, .inl (cI, 1080, .inl v_3))]) (wr := []) (As := []) (rest := []) E.1 hl hw (c_X6_keeps h_5) (cwV 0 hts (z_gV mw_600 mw_601 mw_602 mw_598 mw_603) rfl rfl rfl (by decide +kernel) ⟨(Nat.le_of_ble_eq_true rfl), (Nat.le_of_ble_eq_true rfl)⟩) 3 [(0, 3)] [] rfl rfl rfl rfl rfl rfl (by decide +kernel) rfl (q0 := 0) rfl rfl rfl (Nat.le_of_ble_eq_true rfl) dX6_setClash_43 ⟨Nat.le_of_ble_eq_true rfl, Nat.le_of_ble_eq_true rfl⟩ (fun H locs hw => ?_)
    refine lv_aload_n hx hb dX6_setClash_46 rfl (lv_at hl 0 rfl) ?_
    refine z_get E.1 hw in_wsX60 0 rfl rfl 0 (z_lt rfl) mw_594 (v := .ref a_a) rfl dX6_setClash_47 ?_
    refine lv_iload_n hx hb dX6_setClash_50 rfl (lv_at hl 1 rfl) ?_
    refine lv_iload_n hx hb dX6_setClash_51 rfl (lv_at hl 2 rfl) ?_
    refine lv_iload_n hx hb dX6_setClash_52 rfl (lv_at hl 3 rfl) ?_
    refine lv_if_eq (tgt := 60) hx hb dX6_setClash_53 (by decide) (fun hc => ?_) (fun hc => ?_)
    · have hf := oI_pos hc hf
      refine lv_iconst (v := 0) hx hb dX6_setClash_60 (by decide) ?_
      exact w_X6_setClash_61 E  _ _ _ _ _ _ _ hf _ _ _ hw (lv_sub hl [] rfl)
    · have hf := oI_neg hc hf
      refine lv_iconst (v := 1) hx hb dX6_setClash_56 (by decide) ?_
      refine lv_goto (tgt := 61) hx hb dX6_setClash_57 (by decide) ?_
      exact w_X6_setClash_61 E  _ _ _ _ _ _ _ hf _ _ _ hw (lv_sub hl [] rfl)
  · have hf := oI_neg hc hf
    cases hf
    exact z_vret E rfl hw dX6_setClash_41
set_option maxHeartbeats 4000000 in
set_option maxRecDepth 100000 in
theorem w_X6_setClash_30 {n : Nat} (E : zE p s m args meth c cX6_setClash 4 none zwX6_setClash RX6) : ∀ (x1 : Int32) (x2 : Int32) (x3 : Int32) (v_a : Nat → Int32) (v_kept : Nat → Int32) (v_keptMany : Int32) (v_thrown : Int32), f_X6_setClash_30 n x1 x2 x3 v_a v_kept v_keptMany v_thrown = some res → ∀ (H : Heap) (locs : List Loc) (ls : Array Slot), zW D (zT cI cZ cM) A s [(a_this, .inr (6, [.ref a_a, .ref a_fresh, .ref a_kept, .int v_keptMany, .int v_thrown, .ref a_buffer, .int v_buffered, .int v_size, .int v_at, .int v_behind, .int v_kind, .int v_wrong, .int v_wrongAt, .int v_errorAt, .long v_number, .ref a_best, .ref a_rentBy, .ref a_bareBy, .ref a_aheadBy, .ref a_isEdge, .ref a_tried, .ref a_stands, .ref a_found, .ref a_foundOn, .ref a_moving, .int v_movingMany, .int v_foundIncome, .int v_foundMoves])), (a_a, .inl (cI, 180, .inl v_a)), (a_kept, .inl (cI, 1080, .inl v_kept))] H locs → lv_has ls 4 [(0, .ref a_this), (1, .int x1), (2, .int x2), (3, .int x3)] → W p l e rmX6_setClash s m args below meth c H locs 0 0 (MQ below (zQv D (zT cI cZ cM) [(a_this, .inr (6, [.ref a_a, .ref a_fresh, .ref a_kept, .int res.2.2.1, .int res.2.2.2, .ref a_buffer, .int v_buffered, .int v_size, .int v_at, .int v_behind, .int v_kind, .int v_wrong, .int v_wrongAt, .int v_errorAt, .long v_number, .ref a_best, .ref a_rentBy, .ref a_bareBy, .ref a_aheadBy, .ref a_isEdge, .ref a_tried, .ref a_stands, .ref a_found, .ref a_foundOn, .ref a_moving, .int v_movingMany, .int v_foundIncome, .int v_foundMoves])), (a_a, .inl (cI, 180, .inl res.1)), (a_kept, .inl (cI, 1080, .inl res.2.1))] A) args s 0 0 A) (F0 m 30 ls [.ref a_this]) := by
  obtain ⟨⟨hx, hb, hml, hown, hts⟩, hr, hlocks⟩ := id E
  intro x1 x2 x3 v_a v_kept v_keptMany v_thrown hf H locs ls hw hl
  unfold f_X6_setClash_30 at hf
  refine lv_iconst (v := 0) hx hb dX6_setClash_30 (by decide) ?_
  exact w_X6_setClash_31 E  _ _ _ _ _ _ _ _ hf _ _ _ hw (lv_sub hl [0, 1, 2, 3] rfl)
set_option maxHeartbeats 4000000 in
set_option maxRecDepth 100000 in
theorem c_X6_setClash {l : Launch} {D : va_G} {cI cZ cM : ClassId} {a_this a_a a_fresh a_kept a_buffer a_best a_rentBy a_bareBy a_aheadBy a_isEdge a_tried a_stands a_found a_foundOn a_moving : Nat} {v_buffered : Int32} {v_size : Int32} {v_at : Int32} {v_behind : Int32} {v_kind : Int32} {v_wrong : Int32} {v_wrongAt : Int32} {v_errorAt : Int32} {v_number : Int64} {v_movingMany : Int32} {v_foundIncome : Int32} {v_foundMoves : Int32} {res : (Nat → Int32) × (Nat → Int32) × Int32 × Int32} {sz : Nat} {n : Nat} {v_a : Nat → Int32} {v_kept : Nat → Int32} {v_keptMany : Int32} {v_thrown : Int32} {x1 : Int32} {x2 : Int32} {x3 : Int32} (hf : f_X6_setClash n v_a v_kept v_keptMany v_thrown x1 x2 x3 = some res) : Met l yX6_setClash zwX6_setClash rmX6_setClash (zPc D (zT cI cZ cM) [.ref a_this, .int x1, .int x2, .int x3] [(a_this, .inr (6, [.ref a_a, .ref a_fresh, .ref a_kept, .int v_keptMany, .int v_thrown, .ref a_buffer, .int v_buffered, .int v_size, .int v_at, .int v_behind, .int v_kind, .int v_wrong, .int v_wrongAt, .int v_errorAt, .long v_number, .ref a_best, .ref a_rentBy, .ref a_bareBy, .ref a_aheadBy, .ref a_isEdge, .ref a_tried, .ref a_stands, .ref a_found, .ref a_foundOn, .ref a_moving, .int v_movingMany, .int v_foundIncome, .int v_foundMoves])), (a_a, .inl (cI, 180, .inl v_a)), (a_kept, .inl (cI, 1080, .inl v_kept))] sz) (zQv D (zT cI cZ cM) [(a_this, .inr (6, [.ref a_a, .ref a_fresh, .ref a_kept, .int res.2.2.1, .int res.2.2.2, .ref a_buffer, .int v_buffered, .int v_size, .int v_at, .int v_behind, .int v_kind, .int v_wrong, .int v_wrongAt, .int v_errorAt, .long v_number, .ref a_best, .ref a_rentBy, .ref a_bareBy, .ref a_aheadBy, .ref a_isEdge, .ref a_tried, .ref a_stands, .ref a_found, .ref a_foundOn, .ref a_moving, .int v_movingMany, .int v_foundIncome, .int v_foundMoves])), (a_a, .inl (cI, 180, .inl res.1)), (a_kept, .inl (cI, 1080, .inl res.2.1))] (va_A [(a_this, .inr (6, [.ref a_a, .ref a_fresh, .ref a_kept, .int v_keptMany, .int v_thrown, .ref a_buffer, .int v_buffered, .int v_size, .int v_at, .int v_behind, .int v_kind, .int v_wrong, .int v_wrongAt, .int v_errorAt, .long v_number, .ref a_best, .ref a_rentBy, .ref a_bareBy, .ref a_aheadBy, .ref a_isEdge, .ref a_tried, .ref a_stands, .ref a_found, .ref a_foundOn, .ref a_moving, .int v_movingMany, .int v_foundIncome, .int v_foundMoves])), (a_a, .inl (cI, 180, .inl v_a)), (a_kept, .inl (cI, 1080, .inl v_kept))] sz)) 0 0 (va_A [(a_this, .inr (6, [.ref a_a, .ref a_fresh, .ref a_kept, .int v_keptMany, .int v_thrown, .ref a_buffer, .int v_buffered, .int v_size, .int v_at, .int v_behind, .int v_kind, .int v_wrong, .int v_wrongAt, .int v_errorAt, .long v_number, .ref a_best, .ref a_rentBy, .ref a_bareBy, .ref a_aheadBy, .ref a_isEdge, .ref a_tried, .ref a_stands, .ref a_found, .ref a_foundOn, .ref a_moving, .int v_movingMany, .int v_foundIncome, .int v_foundMoves])), (a_a, .inl (cI, 180, .inl v_a)), (a_kept, .inl (cI, 1080, .inl v_kept))] sz) := by
  refine z_met (cc := cX6_setClash) (maxL := 4) (ret := none) (by decide) rfl (Nat.le_of_ble_eq_true rfl) ?_
  intro p e s m below meth c ls E hsz hw hl
  obtain ⟨⟨hx, hb, hml, hown, hts⟩, hr, hlocks⟩ := id E
  have hl : lv_has ls 4 [(0, .ref a_this), (1, .int x1), (2, .int x2), (3, .int x3)] := hl
  unfold f_X6_setClash at hf
  refine lv_aload_n hx hb dX6_setClash_0 rfl (lv_at hl 0 rfl) ?_
  refine lv_iload_n hx hb dX6_setClash_1 rfl (lv_at hl 1 rfl) ?_
  refine lv_iload_n hx hb dX6_setClash_2 rfl (lv_at hl 2 rfl) ?_
  obtain ⟨r_6, h_7, hf⟩ := oB_elim hf
  refine z_callSi (ws' := [(a_this, .inr (6, [.ref a_a, .ref a_fresh, .ref a_kept, .int v_keptMany, .int v_thrown, .ref a_buffer, .int v_buffered, .int v_size, .int v_at, .int v_behind, .int v_kind, .int v_wrong, .int v_wrongAt, .int v_errorAt, .long v_number, .ref a_best, .ref a_rentBy, .ref a_bareBy, .ref a_aheadBy, .ref a_isEdge, .ref a_tried, .ref a_stands, .ref a_found, .ref a_foundOn, .ref a_moving, .int v_movingMany, .int v_foundIncome, .int v_foundMoves])), (a_a, .inl (cI, 180, .inl v_a)), (a_kept, .inl (cI, 1080, .inl v_kept))]) (wr := [(a_this, .inr (6, [.ref a_a, .ref a_fresh, .ref a_kept, .int v_keptMany, .int v_thrown, .ref a_buffer, .int v_buffered, .int v_size, .int v_at, .int v_behind, .int v_kind, .int v_wrong, .int v_wrongAt, .int v_errorAt, .long v_number, .ref a_best, .ref a_rentBy, .ref a_bareBy, .ref a_aheadBy, .ref a_isEdge, .ref a_tried, .ref a_stands, .ref a_found, .ref a_foundOn, .ref a_moving, .int v_movingMany, .int v_foundIncome, .int v_foundMoves])), (a_a, .inl (cI, 180, .inl v_a)), (a_kept, .inl (cI, 1080, .inl v_kept))]) (As := [.int x1, .int x2]) (rest := [.ref a_this]) E.1 hl hw (c_X6_areTrades h_7) (va_cwS 2 hts (z_gS mw_693 mw_694 mw_598 mw_618) rfl rfl rfl (by decide +kernel) ⟨(Nat.le_of_ble_eq_true rfl), (Nat.le_of_ble_eq_true rfl)⟩) 3 [] [(0, 3)] rfl rfl rfl rfl rfl rfl (by decide +kernel) rfl rfl (Nat.le_of_ble_eq_true rfl) dX6_setClash_3 ⟨Nat.le_of_ble_eq_true rfl, Nat.le_of_ble_eq_true rfl⟩ (fun H locs hw => ?_)
  refine lv_if_ne (tgt := 13) hx hb dX6_setClash_6 (by decide) (fun hc => ?_) (fun hc => ?_)
  · have hf := oI_neg hc hf
    refine lv_iload_n hx hb dX6_setClash_13 rfl (lv_at hl 3 rfl) ?_
    refine lv_if_eq (tgt := 30) hx hb dX6_setClash_14 (by decide) (fun hc => ?_) (fun hc => ?_)
    · have hf := oI_pos hc hf
      exact w_X6_setClash_30 E  _ _ _ _ _ _ _ hf _ _ _ hw (lv_sub hl [0, 1, 2, 3] rfl)
    · have hf := oI_neg hc hf
      refine lv_aload_n hx hb dX6_setClash_17 rfl (lv_at hl 0 rfl) ?_
      refine lv_iload_n hx hb dX6_setClash_18 rfl (lv_at hl 1 rfl) ?_
      refine lv_iload_n hx hb dX6_setClash_19 rfl (lv_at hl 2 rfl) ?_
      obtain ⟨r_8, h_9, hf⟩ := oB_elim hf
      refine z_callVi (ws' := [(a_this, .inr (6, [.ref a_a, .ref a_fresh, .ref a_kept, .int v_keptMany, .int v_thrown, .ref a_buffer, .int v_buffered, .int v_size, .int v_at, .int v_behind, .int v_kind, .int v_wrong, .int v_wrongAt, .int v_errorAt, .long v_number, .ref a_best, .ref a_rentBy, .ref a_bareBy, .ref a_aheadBy, .ref a_isEdge, .ref a_tried, .ref a_stands, .ref a_found, .ref a_foundOn, .ref a_moving, .int v_movingMany, .int v_foundIncome, .int v_foundMoves])), (a_a, .inl (cI, 180, .inl v_a)), (a_kept, .inl (cI, 1080, .inl v_kept))]) (wr := [(a_kept, .inl (cI, 1080, .inl v_kept))]) (As := [.int x1, .int x2]) (rest := [.ref a_this]) E.1 hl hw (c_X6_areBeside h_9) (cwV 2 hts (z_gV mw_873 mw_874 mw_875 mw_598 mw_609) rfl rfl rfl (by decide +kernel) ⟨(Nat.le_of_ble_eq_true rfl), (Nat.le_of_ble_eq_true rfl)⟩) 3 [(0, 2)] [(2, 1)] rfl rfl rfl rfl rfl rfl (by decide +kernel) rfl (q0 := 0) rfl rfl rfl (Nat.le_of_ble_eq_true rfl) dX6_setClash_20 ⟨Nat.le_of_ble_eq_true rfl, Nat.le_of_ble_eq_true rfl⟩ (fun H locs hw => ?_)
      refine lv_if_eq (tgt := 30) hx hb dX6_setClash_23 (by decide) (fun hc => ?_) (fun hc => ?_)
      · have hf := oI_pos hc hf
        exact w_X6_setClash_30 E  _ _ _ _ _ _ _ hf _ _ _ hw (lv_sub hl [0, 1, 2, 3] rfl)
      · have hf := oI_neg hc hf
        refine lv_iconst (v := 2) hx hb dX6_setClash_26 (by decide) ?_
        refine lv_goto (tgt := 31) hx hb dX6_setClash_27 (by decide) ?_
        exact w_X6_setClash_31 E  _ _ _ _ _ _ _ _ hf _ _ _ hw (lv_sub hl [0, 1, 2, 3] rfl)
  · have hf := oI_pos hc hf
    refine lv_iconst (v := 1) hx hb dX6_setClash_9 (by decide) ?_
    refine lv_goto (tgt := 31) hx hb dX6_setClash_10 (by decide) ?_
    exact w_X6_setClash_31 E  _ _ _ _ _ _ _ _ hf _ _ _ hw (lv_sub hl [0, 1, 2, 3] rfl)
end
/-! X6_setCovers -/
section
variable {p : Program} {l : Launch} {e : Env} {s : State} {m : MethodId} {args : Array Value} {below : List Frame} {meth : Method} {c : Code} {D : va_G} {A : Nat → Prop} {cI cZ cM : ClassId} {a_this a_a a_fresh a_kept a_buffer a_best a_rentBy a_bareBy a_aheadBy a_isEdge a_tried a_stands a_found a_foundOn a_moving : Nat} {v_buffered : Int32} {v_size : Int32} {v_at : Int32} {v_behind : Int32} {v_kind : Int32} {v_wrong : Int32} {v_wrongAt : Int32} {v_errorAt : Int32} {v_number : Int64} {v_movingMany : Int32} {v_foundIncome : Int32} {v_foundMoves : Int32} {res : Int32 × (Nat → Int32) × (Nat → Int32) × Int32 × Int32}
def rmX6_setCovers : Room := { frames := 2, cells := 0, slots := 0, locals := 46 }
abbrev zwX6_setCovers : List Cond := Cond.code yX6_setCovers cX6_setCovers 3 (some .int) :: wsAll
set_option maxHeartbeats 4000000 in
set_option maxRecDepth 100000 in
theorem w_X6_setCovers_30 {n : Nat} (E : zE p s m args meth c cX6_setCovers 3 (some .int) zwX6_setCovers RX6) : ∀ (t1 : Int32) (x1 : Int32) (v_a : Nat → Int32) (v_kept : Nat → Int32) (v_keptMany : Int32) (v_thrown : Int32), f_X6_setCovers_30 n t1 x1 v_a v_kept v_keptMany v_thrown = some res → ∀ (H : Heap) (locs : List Loc) (ls : Array Slot), zW D (zT cI cZ cM) A s [(a_this, .inr (6, [.ref a_a, .ref a_fresh, .ref a_kept, .int v_keptMany, .int v_thrown, .ref a_buffer, .int v_buffered, .int v_size, .int v_at, .int v_behind, .int v_kind, .int v_wrong, .int v_wrongAt, .int v_errorAt, .long v_number, .ref a_best, .ref a_rentBy, .ref a_bareBy, .ref a_aheadBy, .ref a_isEdge, .ref a_tried, .ref a_stands, .ref a_found, .ref a_foundOn, .ref a_moving, .int v_movingMany, .int v_foundIncome, .int v_foundMoves])), (a_a, .inl (cI, 180, .inl v_a)), (a_kept, .inl (cI, 1080, .inl v_kept))] H locs → lv_has ls 3 [(0, .ref a_this), (1, .int x1)] → W p l e rmX6_setCovers s m args below meth c H locs 0 0 (MQ below (zQi D (zT cI cZ cM) res.1 [(a_this, .inr (6, [.ref a_a, .ref a_fresh, .ref a_kept, .int res.2.2.2.1, .int res.2.2.2.2, .ref a_buffer, .int v_buffered, .int v_size, .int v_at, .int v_behind, .int v_kind, .int v_wrong, .int v_wrongAt, .int v_errorAt, .long v_number, .ref a_best, .ref a_rentBy, .ref a_bareBy, .ref a_aheadBy, .ref a_isEdge, .ref a_tried, .ref a_stands, .ref a_found, .ref a_foundOn, .ref a_moving, .int v_movingMany, .int v_foundIncome, .int v_foundMoves])), (a_a, .inl (cI, 180, .inl res.2.1)), (a_kept, .inl (cI, 1080, .inl res.2.2.1))] A) args s 0 0 A) (F0 m 30 ls [.int t1, .ref a_this]) := by
  obtain ⟨⟨hx, hb, hml, hown, hts⟩, hr, hlocks⟩ := id E
  intro t1 x1 v_a v_kept v_keptMany v_thrown hf H locs ls hw hl
  unfold f_X6_setCovers_30 at hf
  refine z_put (ws' := [(a_this, .inr (6, [.ref a_a, .ref a_fresh, .ref a_kept, .int v_keptMany, .int t1, .ref a_buffer, .int v_buffered, .int v_size, .int v_at, .int v_behind, .int v_kind, .int v_wrong, .int v_wrongAt, .int v_errorAt, .long v_number, .ref a_best, .ref a_rentBy, .ref a_bareBy, .ref a_aheadBy, .ref a_isEdge, .ref a_tried, .ref a_stands, .ref a_found, .ref a_foundOn, .ref a_moving, .int v_movingMany, .int v_foundIncome, .int v_foundMoves])), (a_a, .inl (cI, 180, .inl v_a)), (a_kept, .inl (cI, 1080, .inl v_kept))]) E.1 hw in_wsX60 tyX6 tyX6_ok nmX6 0 rfl rfl 4 (z_lt rfl) mw_595 rfl rfl rfl (z_lt rfl) rfl dX6_setCovers_30 (fun H locs hw => ?_)
  refine lv_aload_n hx hb dX6_setCovers_33 rfl (lv_at hl 0 rfl) ?_
  refine z_get E.1 hw in_wsX60 0 rfl rfl 4 (z_lt rfl) mw_595 (v := .int t1) rfl dX6_setCovers_34 ?_
  refine lv_if_le (tgt := 42) hx hb dX6_setCovers_37 (by decide) (fun hc => ?_) (fun hc => ?_)
  · have hf := oI_pos hc hf
    refine lv_aload_n hx hb dX6_setCovers_42 rfl (lv_at hl 0 rfl) ?_
    obtain ⟨v_1, v_2, h_3, hf⟩ := oB2_elim hf
    refine z_callVv (ws' := [(a_this, .inr (6, [.ref a_a, .ref a_fresh, .ref a_kept, .int v_2, .int t1, .ref a_buffer, .int v_buffered, .int v_size, .int v_at, .int v_behind, .int v_kind, .int v_wrong, .int v_wrongAt, .int v_errorAt, .long v_number, .ref a_best, .ref a_rentBy, .ref a_bareBy, .ref a_aheadBy, .ref a_isEdge, .ref a_tried, .ref a_stands, .ref a_found, .ref a_foundOn, .ref a_moving, .int v_movingMany, .int v_foundIncome, .int v_foundMoves])), (a_a, .inl (cI, 180, .inl v_a)), (a_kept, .inl (cI, 1080, .inl v_1))]) (wr := []) (As := []) (rest := []) E.1 hl hw (c_X6_keeps h_3) (cwV 0 hts (z_gV mw_600 mw_601 mw_602 mw_598 mw_603) rfl rfl rfl (by decide +kernel) ⟨(Nat.le_of_ble_eq_true rfl), (Nat.le_of_ble_eq_true rfl)⟩) 3 [(0, 3)] [] rfl rfl rfl rfl rfl rfl (by decide +kernel) rfl (q0 := 0) rfl rfl rfl (Nat.le_of_ble_eq_true rfl) dX6_setCovers_43 ⟨Nat.le_of_ble_eq_true rfl, Nat.le_of_ble_eq_true rfl⟩ (fun H locs hw => ?_)
    refine lv_aload_n hx hb dX6_setCovers_46 rfl (lv_at hl 0 rfl) ?_
    refine z_get E.1 hw in_wsX60 0 rfl rfl 0 (z_lt rfl) mw_594 (v := .ref a_a) rfl dX6_setCovers_47 ?_
    refine lv_sipush (v := 179) hx hb dX6_setCovers_50 (by decide) ?_
    obtain ⟨h_4, hf⟩ := oA_elim hf
    refine z_iald E.1 hw 1 0 rfl rfl h_4 dX6_setCovers_53 ?_
    obtain ⟨y_5, e_y_5, hf⟩ := oL_elim hf
    refine z_top e_y_5 ?_
    refine lv_istore_n (lv' := [(2, .int y_5), (0, .ref a_this), (1, .int x1)]) hx hb dX6_setCovers_54 rfl hl (z_lt rfl) rfl (fun ls hl => ?_)
    refine lv_aload_n hx hb dX6_setCovers_55 rfl (lv_at hl 1 rfl) ?_
    refine z_get E.1 hw in_wsX60 0 rfl rfl 0 (z_lt rfl) mw_594 (v := .ref a_a) rfl dX6_setCovers_56 ?_
    refine lv_sipush (v := 179) hx hb dX6_setCovers_59 (by decide) ?_
    refine lv_iload_n hx hb dX6_setCovers_62 rfl (lv_at hl 2 rfl) ?_
    obtain ⟨h_6, hf⟩ := oA_elim hf
    obtain ⟨v_7, e_v_7, hf⟩ := oL_elim hf
    refine z_iast (ws' := [(a_this, .inr (6, [.ref a_a, .ref a_fresh, .ref a_kept, .int v_2, .int t1, .ref a_buffer, .int v_buffered, .int v_size, .int v_at, .int v_behind, .int v_kind, .int v_wrong, .int v_wrongAt, .int v_errorAt, .long v_number, .ref a_best, .ref a_rentBy, .ref a_bareBy, .ref a_aheadBy, .ref a_isEdge, .ref a_tried, .ref a_stands, .ref a_found, .ref a_foundOn, .ref a_moving, .int v_movingMany, .int v_foundIncome, .int v_foundMoves])), (a_a, .inl (cI, 180, .inl v_7)), (a_kept, .inl (cI, 1080, .inl v_1))]) E.1 hw 1 0 rfl rfl h_6 (by subst e_v_7; rfl) dX6_setCovers_63 (fun H locs hw => ?_)
    refine lv_iload_n hx hb dX6_setCovers_64 rfl (lv_at hl 0 rfl) ?_
    cases hf
    exact z_iret E rfl hw dX6_setCovers_65
  · have hf := oI_neg hc hf
    refine lv_iconst (v := 0) hx hb dX6_setCovers_40 (by decide) ?_
    cases hf
    exact z_iret E rfl hw dX6_setCovers_41
set_option maxHeartbeats 4000000 in
set_option maxRecDepth 100000 in
theorem c_X6_setCovers {l : Launch} {D : va_G} {cI cZ cM : ClassId} {a_this a_a a_fresh a_kept a_buffer a_best a_rentBy a_bareBy a_aheadBy a_isEdge a_tried a_stands a_found a_foundOn a_moving : Nat} {v_buffered : Int32} {v_size : Int32} {v_at : Int32} {v_behind : Int32} {v_kind : Int32} {v_wrong : Int32} {v_wrongAt : Int32} {v_errorAt : Int32} {v_number : Int64} {v_movingMany : Int32} {v_foundIncome : Int32} {v_foundMoves : Int32} {res : Int32 × (Nat → Int32) × (Nat → Int32) × Int32 × Int32} {sz : Nat} {n : Nat} {v_a : Nat → Int32} {v_kept : Nat → Int32} {v_keptMany : Int32} {v_thrown : Int32} {x1 : Int32} (hf : f_X6_setCovers n v_a v_kept v_keptMany v_thrown x1 = some res) : Met l yX6_setCovers zwX6_setCovers rmX6_setCovers (zPc D (zT cI cZ cM) [.ref a_this, .int x1] [(a_this, .inr (6, [.ref a_a, .ref a_fresh, .ref a_kept, .int v_keptMany, .int v_thrown, .ref a_buffer, .int v_buffered, .int v_size, .int v_at, .int v_behind, .int v_kind, .int v_wrong, .int v_wrongAt, .int v_errorAt, .long v_number, .ref a_best, .ref a_rentBy, .ref a_bareBy, .ref a_aheadBy, .ref a_isEdge, .ref a_tried, .ref a_stands, .ref a_found, .ref a_foundOn, .ref a_moving, .int v_movingMany, .int v_foundIncome, .int v_foundMoves])), (a_a, .inl (cI, 180, .inl v_a)), (a_kept, .inl (cI, 1080, .inl v_kept))] sz) (zQi D (zT cI cZ cM) res.1 [(a_this, .inr (6, [.ref a_a, .ref a_fresh, .ref a_kept, .int res.2.2.2.1, .int res.2.2.2.2, .ref a_buffer, .int v_buffered, .int v_size, .int v_at, .int v_behind, .int v_kind, .int v_wrong, .int v_wrongAt, .int v_errorAt, .long v_number, .ref a_best, .ref a_rentBy, .ref a_bareBy, .ref a_aheadBy, .ref a_isEdge, .ref a_tried, .ref a_stands, .ref a_found, .ref a_foundOn, .ref a_moving, .int v_movingMany, .int v_foundIncome, .int v_foundMoves])), (a_a, .inl (cI, 180, .inl res.2.1)), (a_kept, .inl (cI, 1080, .inl res.2.2.1))] (va_A [(a_this, .inr (6, [.ref a_a, .ref a_fresh, .ref a_kept, .int v_keptMany, .int v_thrown, .ref a_buffer, .int v_buffered, .int v_size, .int v_at, .int v_behind, .int v_kind, .int v_wrong, .int v_wrongAt, .int v_errorAt, .long v_number, .ref a_best, .ref a_rentBy, .ref a_bareBy, .ref a_aheadBy, .ref a_isEdge, .ref a_tried, .ref a_stands, .ref a_found, .ref a_foundOn, .ref a_moving, .int v_movingMany, .int v_foundIncome, .int v_foundMoves])), (a_a, .inl (cI, 180, .inl v_a)), (a_kept, .inl (cI, 1080, .inl v_kept))] sz)) 0 0 (va_A [(a_this, .inr (6, [.ref a_a, .ref a_fresh, .ref a_kept, .int v_keptMany, .int v_thrown, .ref a_buffer, .int v_buffered, .int v_size, .int v_at, .int v_behind, .int v_kind, .int v_wrong, .int v_wrongAt, .int v_errorAt, .long v_number, .ref a_best, .ref a_rentBy, .ref a_bareBy, .ref a_aheadBy, .ref a_isEdge, .ref a_tried, .ref a_stands, .ref a_found, .ref a_foundOn, .ref a_moving, .int v_movingMany, .int v_foundIncome, .int v_foundMoves])), (a_a, .inl (cI, 180, .inl v_a)), (a_kept, .inl (cI, 1080, .inl v_kept))] sz) := by
  refine z_met (cc := cX6_setCovers) (maxL := 3) (ret := (some .int)) (by decide) rfl (Nat.le_of_ble_eq_true rfl) ?_
  intro p e s m below meth c ls E hsz hw hl
  obtain ⟨⟨hx, hb, hml, hown, hts⟩, hr, hlocks⟩ := id E
  have hl : lv_has ls 3 [(0, .ref a_this), (1, .int x1)] := hl
  unfold f_X6_setCovers at hf
  refine lv_aload_n hx hb dX6_setCovers_0 rfl (lv_at hl 0 rfl) ?_
  refine lv_iload_n hx hb dX6_setCovers_1 rfl (lv_at hl 1 rfl) ?_
  refine lv_i2l hx hb dX6_setCovers_2 rfl ?_
  refine lv_lconst (v := 0) hx hb dX6_setCovers_3 (by decide) ?_
  refine lv_ldc2 (v := 4) hx hb hown (hts _ mw_877) dX6_setCovers_4 ?_
  obtain ⟨r_8, h_9, hf⟩ := oB_elim hf
  refine z_callSi (ws' := [(a_this, .inr (6, [.ref a_a, .ref a_fresh, .ref a_kept, .int v_keptMany, .int v_thrown, .ref a_buffer, .int v_buffered, .int v_size, .int v_at, .int v_behind, .int v_kind, .int v_wrong, .int v_wrongAt, .int v_errorAt, .long v_number, .ref a_best, .ref a_rentBy, .ref a_bareBy, .ref a_aheadBy, .ref a_isEdge, .ref a_tried, .ref a_stands, .ref a_found, .ref a_foundOn, .ref a_moving, .int v_movingMany, .int v_foundIncome, .int v_foundMoves])), (a_a, .inl (cI, 180, .inl v_a)), (a_kept, .inl (cI, 1080, .inl v_kept))]) (wr := [(a_this, .inr (6, [.ref a_a, .ref a_fresh, .ref a_kept, .int v_keptMany, .int v_thrown, .ref a_buffer, .int v_buffered, .int v_size, .int v_at, .int v_behind, .int v_kind, .int v_wrong, .int v_wrongAt, .int v_errorAt, .long v_number, .ref a_best, .ref a_rentBy, .ref a_bareBy, .ref a_aheadBy, .ref a_isEdge, .ref a_tried, .ref a_stands, .ref a_found, .ref a_foundOn, .ref a_moving, .int v_movingMany, .int v_foundIncome, .int v_foundMoves])), (a_a, .inl (cI, 180, .inl v_a)), (a_kept, .inl (cI, 1080, .inl v_kept))]) (As := [.long ((x1).toInt64), .long (0 : Int64), .long (4 : Int64)]) (rest := [.ref a_this]) E.1 hl hw (c_X6_isIn h_9) (va_cwS 3 hts (z_gS mw_596 mw_597 mw_598 mw_599) rfl rfl rfl (by decide +kernel) ⟨(Nat.le_of_ble_eq_true rfl), (Nat.le_of_ble_eq_true rfl)⟩) 3 [] [(0, 3)] rfl rfl rfl rfl rfl rfl (by decide +kernel) rfl rfl (Nat.le_of_ble_eq_true rfl) dX6_setCovers_7 ⟨Nat.le_of_ble_eq_true rfl, Nat.le_of_ble_eq_true rfl⟩ (fun H locs hw => ?_)
  refine lv_if_ne (tgt := 17) hx hb dX6_setCovers_10 (by decide) (fun hc => ?_) (fun hc => ?_)
  · have hf := oI_neg hc hf
    refine lv_iload_n hx hb dX6_setCovers_17 rfl (lv_at hl 1 rfl) ?_
    refine lv_aload_n hx hb dX6_setCovers_18 rfl (lv_at hl 0 rfl) ?_
    obtain ⟨r_10, h_11, hf⟩ := oB_elim hf
    refine z_callVi (ws' := [(a_this, .inr (6, [.ref a_a, .ref a_fresh, .ref a_kept, .int v_keptMany, .int v_thrown, .ref a_buffer, .int v_buffered, .int v_size, .int v_at, .int v_behind, .int v_kind, .int v_wrong, .int v_wrongAt, .int v_errorAt, .long v_number, .ref a_best, .ref a_rentBy, .ref a_bareBy, .ref a_aheadBy, .ref a_isEdge, .ref a_tried, .ref a_stands, .ref a_found, .ref a_foundOn, .ref a_moving, .int v_movingMany, .int v_foundIncome, .int v_foundMoves])), (a_a, .inl (cI, 180, .inl v_a)), (a_kept, .inl (cI, 1080, .inl v_kept))]) (wr := [(a_kept, .inl (cI, 1080, .inl v_kept))]) (As := []) (rest := [.int x1, .ref a_this]) E.1 hl hw (c_X6_usedCovers h_11) (cwV 0 hts (z_gV mw_721 mw_722 mw_723 mw_598 mw_724) rfl rfl rfl (by decide +kernel) ⟨(Nat.le_of_ble_eq_true rfl), (Nat.le_of_ble_eq_true rfl)⟩) 3 [(0, 2)] [(2, 1)] rfl rfl rfl rfl rfl rfl (by decide +kernel) rfl (q0 := 0) rfl rfl rfl (Nat.le_of_ble_eq_true rfl) dX6_setCovers_19 ⟨Nat.le_of_ble_eq_true rfl, Nat.le_of_ble_eq_true rfl⟩ (fun H locs hw => ?_)
    refine lv_icmp_ge (tgt := 29) hx hb dX6_setCovers_22 (by decide) (fun hc => ?_) (fun hc => ?_)
    · have hf := oI_pos hc hf
      refine lv_iconst (v := 0) hx hb dX6_setCovers_29 (by decide) ?_
      exact w_X6_setCovers_30 E  _ _ _ _ _ _ hf _ _ _ hw (lv_sub hl [0, 1] rfl)
    · have hf := oI_neg hc hf
      refine lv_iconst (v := 2) hx hb dX6_setCovers_25 (by decide) ?_
      refine lv_goto (tgt := 30) hx hb dX6_setCovers_26 (by decide) ?_
      exact w_X6_setCovers_30 E  _ _ _ _ _ _ hf _ _ _ hw (lv_sub hl [0, 1] rfl)
  · have hf := oI_pos hc hf
    refine lv_iconst (v := 1) hx hb dX6_setCovers_13 (by decide) ?_
    refine lv_goto (tgt := 30) hx hb dX6_setCovers_14 (by decide) ?_
    exact w_X6_setCovers_30 E  _ _ _ _ _ _ hf _ _ _ hw (lv_sub hl [0, 1] rfl)
end
/-! X6_setRent -/
section
variable {p : Program} {l : Launch} {e : Env} {s : State} {m : MethodId} {args : Array Value} {below : List Frame} {meth : Method} {c : Code} {D : va_G} {A : Nat → Prop} {cI cZ cM : ClassId} {a_this a_a a_fresh a_kept a_buffer a_best a_rentBy a_bareBy a_aheadBy a_isEdge a_tried a_stands a_found a_foundOn a_moving : Nat} {v_buffered : Int32} {v_size : Int32} {v_at : Int32} {v_behind : Int32} {v_kind : Int32} {v_wrong : Int32} {v_wrongAt : Int32} {v_errorAt : Int32} {v_number : Int64} {v_movingMany : Int32} {v_foundIncome : Int32} {v_foundMoves : Int32} {res : Int32 × (Nat → Int32) × (Nat → Int32) × Int32 × Int32}
def rmX6_setRent : Room := { frames := 3, cells := 0, slots := 0, locals := 69 }
abbrev zwX6_setRent : List Cond := Cond.code yX6_setRent cX6_setRent 4 (some .int) :: wsAll
set_option maxHeartbeats 4000000 in
set_option maxRecDepth 100000 in
theorem w_X6_setRent_30 {n : Nat} (E : zE p s m args meth c cX6_setRent 4 (some .int) zwX6_setRent RX6) : ∀ (t1 : Int32) (x1 : Int32) (x2 : Int32) (v_a : Nat → Int32) (v_kept : Nat → Int32) (v_keptMany : Int32) (v_thrown : Int32), f_X6_setRent_30 n t1 x1 x2 v_a v_kept v_keptMany v_thrown = some res → ∀ (H : Heap) (locs : List Loc) (ls : Array Slot), zW D (zT cI cZ cM) A s [(a_this, .inr (6, [.ref a_a, .ref a_fresh, .ref a_kept, .int v_keptMany, .int v_thrown, .ref a_buffer, .int v_buffered, .int v_size, .int v_at, .int v_behind, .int v_kind, .int v_wrong, .int v_wrongAt, .int v_errorAt, .long v_number, .ref a_best, .ref a_rentBy, .ref a_bareBy, .ref a_aheadBy, .ref a_isEdge, .ref a_tried, .ref a_stands, .ref a_found, .ref a_foundOn, .ref a_moving, .int v_movingMany, .int v_foundIncome, .int v_foundMoves])), (a_a, .inl (cI, 180, .inl v_a)), (a_kept, .inl (cI, 1080, .inl v_kept))] H locs → lv_has ls 4 [(0, .ref a_this), (1, .int x1), (2, .int x2)] → W p l e rmX6_setRent s m args below meth c H locs 0 0 (MQ below (zQi D (zT cI cZ cM) res.1 [(a_this, .inr (6, [.ref a_a, .ref a_fresh, .ref a_kept, .int res.2.2.2.1, .int res.2.2.2.2, .ref a_buffer, .int v_buffered, .int v_size, .int v_at, .int v_behind, .int v_kind, .int v_wrong, .int v_wrongAt, .int v_errorAt, .long v_number, .ref a_best, .ref a_rentBy, .ref a_bareBy, .ref a_aheadBy, .ref a_isEdge, .ref a_tried, .ref a_stands, .ref a_found, .ref a_foundOn, .ref a_moving, .int v_movingMany, .int v_foundIncome, .int v_foundMoves])), (a_a, .inl (cI, 180, .inl res.2.1)), (a_kept, .inl (cI, 1080, .inl res.2.2.1))] A) args s 0 0 A) (F0 m 30 ls [.int t1, .ref a_this]) := by
  obtain ⟨⟨hx, hb, hml, hown, hts⟩, hr, hlocks⟩ := id E
  intro t1 x1 x2 v_a v_kept v_keptMany v_thrown hf H locs ls hw hl
  unfold f_X6_setRent_30 at hf
  refine z_put (ws' := [(a_this, .inr (6, [.ref a_a, .ref a_fresh, .ref a_kept, .int v_keptMany, .int t1, .ref a_buffer, .int v_buffered, .int v_size, .int v_at, .int v_behind, .int v_kind, .int v_wrong, .int v_wrongAt, .int v_errorAt, .long v_number, .ref a_best, .ref a_rentBy, .ref a_bareBy, .ref a_aheadBy, .ref a_isEdge, .ref a_tried, .ref a_stands, .ref a_found, .ref a_foundOn, .ref a_moving, .int v_movingMany, .int v_foundIncome, .int v_foundMoves])), (a_a, .inl (cI, 180, .inl v_a)), (a_kept, .inl (cI, 1080, .inl v_kept))]) E.1 hw in_wsX60 tyX6 tyX6_ok nmX6 0 rfl rfl 4 (z_lt rfl) mw_595 rfl rfl rfl (z_lt rfl) rfl dX6_setRent_30 (fun H locs hw => ?_)
  refine lv_aload_n hx hb dX6_setRent_33 rfl (lv_at hl 0 rfl) ?_
  refine z_get E.1 hw in_wsX60 0 rfl rfl 4 (z_lt rfl) mw_595 (v := .int t1) rfl dX6_setRent_34 ?_
  refine lv_if_le (tgt := 42) hx hb dX6_setRent_37 (by decide) (fun hc => ?_) (fun hc => ?_)
  · have hf := oI_pos hc hf
    refine lv_aload_n hx hb dX6_setRent_42 rfl (lv_at hl 0 rfl) ?_
    obtain ⟨v_1, v_2, h_3, hf⟩ := oB2_elim hf
    refine z_callVv (ws' := [(a_this, .inr (6, [.ref a_a, .ref a_fresh, .ref a_kept, .int v_2, .int t1, .ref a_buffer, .int v_buffered, .int v_size, .int v_at, .int v_behind, .int v_kind, .int v_wrong, .int v_wrongAt, .int v_errorAt, .long v_number, .ref a_best, .ref a_rentBy, .ref a_bareBy, .ref a_aheadBy, .ref a_isEdge, .ref a_tried, .ref a_stands, .ref a_found, .ref a_foundOn, .ref a_moving, .int v_movingMany, .int v_foundIncome, .int v_foundMoves])), (a_a, .inl (cI, 180, .inl v_a)), (a_kept, .inl (cI, 1080, .inl v_1))]) (wr := []) (As := []) (rest := []) E.1 hl hw (c_X6_keeps h_3) (cwV 0 hts (z_gV mw_600 mw_601 mw_602 mw_598 mw_603) rfl rfl rfl (by decide +kernel) ⟨(Nat.le_of_ble_eq_true rfl), (Nat.le_of_ble_eq_true rfl)⟩) 3 [(0, 3)] [] rfl rfl rfl rfl rfl rfl (by decide +kernel) rfl (q0 := 0) rfl rfl rfl (Nat.le_of_ble_eq_true rfl) dX6_setRent_43 ⟨Nat.le_of_ble_eq_true rfl, Nat.le_of_ble_eq_true rfl⟩ (fun H locs hw => ?_)
    refine lv_aload_n hx hb dX6_setRent_46 rfl (lv_at hl 0 rfl) ?_
    refine z_get E.1 hw in_wsX60 0 rfl rfl 0 (z_lt rfl) mw_594 (v := .ref a_a) rfl dX6_setRent_47 ?_
    refine lv_iconst (v := 2) hx hb dX6_setRent_50 (by decide) ?_
    refine lv_iload_n hx hb dX6_setRent_51 rfl (lv_at hl 1 rfl) ?_
    refine lv_iadd hx hb dX6_setRent_52 ?_
    refine lv_iload_n hx hb dX6_setRent_53 rfl (lv_at hl 2 rfl) ?_
    obtain ⟨h_4, hf⟩ := oA_elim hf
    obtain ⟨v_5, e_v_5, hf⟩ := oL_elim hf
    refine z_iast (ws' := [(a_this, .inr (6, [.ref a_a, .ref a_fresh, .ref a_kept, .int v_2, .int t1, .ref a_buffer, .int v_buffered, .int v_size, .int v_at, .int v_behind, .int v_kind, .int v_wrong, .int v_wrongAt, .int v_errorAt, .long v_number, .ref a_best, .ref a_rentBy, .ref a_bareBy, .ref a_aheadBy, .ref a_isEdge, .ref a_tried, .ref a_stands, .ref a_found, .ref a_foundOn, .ref a_moving, .int v_movingMany, .int v_foundIncome, .int v_foundMoves])), (a_a, .inl (cI, 180, .inl v_5)), (a_kept, .inl (cI, 1080, .inl v_1))]) E.1 hw 1 0 rfl rfl h_4 (by subst e_v_5; rfl) dX6_setRent_54 (fun H locs hw => ?_)
    refine lv_aload_n hx hb dX6_setRent_55 rfl (lv_at hl 0 rfl) ?_
    refine lv_iload_n hx hb dX6_setRent_56 rfl (lv_at hl 1 rfl) ?_
    obtain ⟨r_6, h_7, hf⟩ := oB_elim hf
    refine z_callVi (ws' := [(a_this, .inr (6, [.ref a_a, .ref a_fresh, .ref a_kept, .int v_2, .int t1, .ref a_buffer, .int v_buffered, .int v_size, .int v_at, .int v_behind, .int v_kind, .int v_wrong, .int v_wrongAt, .int v_errorAt, .long v_number, .ref a_best, .ref a_rentBy, .ref a_bareBy, .ref a_aheadBy, .ref a_isEdge, .ref a_tried, .ref a_stands, .ref a_found, .ref a_foundOn, .ref a_moving, .int v_movingMany, .int v_foundIncome, .int v_foundMoves])), (a_a, .inl (cI, 180, .inl v_5)), (a_kept, .inl (cI, 1080, .inl v_1))]) (wr := [(a_kept, .inl (cI, 1080, .inl v_1))]) (As := [.int x1]) (rest := []) E.1 hl hw (c_X6_on h_7) (cwV 1 hts (z_gV mw_610 mw_611 mw_612 mw_598 mw_613) rfl rfl rfl (by decide +kernel) ⟨(Nat.le_of_ble_eq_true rfl), (Nat.le_of_ble_eq_true rfl)⟩) 3 [(0, 2)] [(2, 1)] rfl rfl rfl rfl rfl rfl (by decide +kernel) rfl (q0 := 0) rfl rfl rfl (Nat.le_of_ble_eq_true rfl) dX6_setRent_57 ⟨Nat.le_of_ble_eq_true rfl, Nat.le_of_ble_eq_true rfl⟩ (fun H locs hw => ?_)
    refine lv_istore_n (lv' := [(3, .int r_6), (0, .ref a_this), (1, .int x1), (2, .int x2)]) hx hb dX6_setRent_60 rfl hl (z_lt rfl) rfl (fun ls hl => ?_)
    refine lv_iload_n hx hb dX6_setRent_61 rfl (lv_at hl 0 rfl) ?_
    refine lv_iconst (v := -1) hx hb dX6_setRent_62 (by decide) ?_
    refine lv_icmp_eq (tgt := 92) hx hb dX6_setRent_63 (by decide) (fun hc => ?_) (fun hc => ?_)
    · have hf := oI_pos hc hf
      refine lv_iconst (v := -1) hx hb dX6_setRent_92 (by decide) ?_
      cases hf
      exact z_iret E rfl hw dX6_setRent_93
    · have hf := oI_neg hc hf
      refine lv_aload_n hx hb dX6_setRent_66 rfl (lv_at hl 1 rfl) ?_
      refine lv_iload_n hx hb dX6_setRent_67 rfl (lv_at hl 0 rfl) ?_
      refine lv_aload_n hx hb dX6_setRent_68 rfl (lv_at hl 1 rfl) ?_
      refine z_get E.1 hw in_wsX60 0 rfl rfl 0 (z_lt rfl) mw_594 (v := .ref a_a) rfl dX6_setRent_69 ?_
      refine lv_bipush (v := 107) hx hb dX6_setRent_72 (by decide) ?_
      refine lv_iload_n hx hb dX6_setRent_74 rfl (lv_at hl 0 rfl) ?_
      refine lv_iadd hx hb dX6_setRent_75 ?_
      obtain ⟨h_8, hf⟩ := oA_elim hf
      refine z_iald E.1 hw 1 0 rfl rfl h_8 dX6_setRent_76 ?_
      obtain ⟨r_9, h_10, hf⟩ := oB_elim hf
      refine z_callVi (ws' := [(a_this, .inr (6, [.ref a_a, .ref a_fresh, .ref a_kept, .int v_2, .int t1, .ref a_buffer, .int v_buffered, .int v_size, .int v_at, .int v_behind, .int v_kind, .int v_wrong, .int v_wrongAt, .int v_errorAt, .long v_number, .ref a_best, .ref a_rentBy, .ref a_bareBy, .ref a_aheadBy, .ref a_isEdge, .ref a_tried, .ref a_stands, .ref a_found, .ref a_foundOn, .ref a_moving, .int v_movingMany, .int v_foundIncome, .int v_foundMoves])), (a_a, .inl (cI, 180, .inl v_5)), (a_kept, .inl (cI, 1080, .inl v_1))]) (wr := [(a_kept, .inl (cI, 1080, .inl v_1))]) (As := [.int r_6, .int (v_5 (((107 : Int32) + r_6)).toNatClampNeg)]) (rest := []) E.1 hl hw (c_X6_rentOf h_10) (cwV 2 hts (z_gV mw_645 mw_646 mw_647 mw_598 mw_648) rfl rfl rfl (by decide +kernel) ⟨(Nat.le_of_ble_eq_true rfl), (Nat.le_of_ble_eq_true rfl)⟩) 3 [(0, 2)] [(2, 1)] rfl rfl rfl rfl rfl rfl (by decide +kernel) rfl (q0 := 0) rfl rfl rfl (Nat.le_of_ble_eq_true rfl) dX6_setRent_77 ⟨Nat.le_of_ble_eq_true rfl, Nat.le_of_ble_eq_true rfl⟩ (fun H locs hw => ?_)
      refine lv_aload_n hx hb dX6_setRent_80 rfl (lv_at hl 1 rfl) ?_
      refine z_get E.1 hw in_wsX60 0 rfl rfl 0 (z_lt rfl) mw_594 (v := .ref a_a) rfl dX6_setRent_81 ?_
      refine lv_bipush (v := 91) hx hb dX6_setRent_84 (by decide) ?_
      refine lv_iload_n hx hb dX6_setRent_86 rfl (lv_at hl 0 rfl) ?_
      refine lv_iadd hx hb dX6_setRent_87 ?_
      obtain ⟨h_11, hf⟩ := oA_elim hf
      refine z_iald E.1 hw 1 0 rfl rfl h_11 dX6_setRent_88 ?_
      refine lv_icmp_gt (tgt := 94) hx hb dX6_setRent_89 (by decide) (fun hc => ?_) (fun hc => ?_)
      · have hf := oI_pos hc hf
        refine lv_aload_n hx hb dX6_setRent_94 rfl (lv_at hl 1 rfl) ?_
        refine z_get E.1 hw in_wsX60 0 rfl rfl 0 (z_lt rfl) mw_594 (v := .ref a_a) rfl dX6_setRent_95 ?_
        refine lv_bipush (v := 107) hx hb dX6_setRent_98 (by decide) ?_
        refine lv_iload_n hx hb dX6_setRent_100 rfl (lv_at hl 0 rfl) ?_
        refine lv_iadd hx hb dX6_setRent_101 ?_
        refine lv_iconst (v := -1) hx hb dX6_setRent_102 (by decide) ?_
        obtain ⟨h_12, hf⟩ := oA_elim hf
        obtain ⟨v_13, e_v_13, hf⟩ := oL_elim hf
        refine z_iast (ws' := [(a_this, .inr (6, [.ref a_a, .ref a_fresh, .ref a_kept, .int v_2, .int t1, .ref a_buffer, .int v_buffered, .int v_size, .int v_at, .int v_behind, .int v_kind, .int v_wrong, .int v_wrongAt, .int v_errorAt, .long v_number, .ref a_best, .ref a_rentBy, .ref a_bareBy, .ref a_aheadBy, .ref a_isEdge, .ref a_tried, .ref a_stands, .ref a_found, .ref a_foundOn, .ref a_moving, .int v_movingMany, .int v_foundIncome, .int v_foundMoves])), (a_a, .inl (cI, 180, .inl v_13)), (a_kept, .inl (cI, 1080, .inl v_1))]) E.1 hw 1 0 rfl rfl h_12 (by subst e_v_13; rfl) dX6_setRent_103 (fun H locs hw => ?_)
        refine lv_iload_n hx hb dX6_setRent_104 rfl (lv_at hl 0 rfl) ?_
        cases hf
        exact z_iret E rfl hw dX6_setRent_105
      · have hf := oI_neg hc hf
        refine lv_iconst (v := -1) hx hb dX6_setRent_92 (by decide) ?_
        cases hf
        exact z_iret E rfl hw dX6_setRent_93
  · have hf := oI_neg hc hf
    refine lv_iconst (v := 0) hx hb dX6_setRent_40 (by decide) ?_
    cases hf
    exact z_iret E rfl hw dX6_setRent_41
set_option maxHeartbeats 4000000 in
set_option maxRecDepth 100000 in
theorem c_X6_setRent {l : Launch} {D : va_G} {cI cZ cM : ClassId} {a_this a_a a_fresh a_kept a_buffer a_best a_rentBy a_bareBy a_aheadBy a_isEdge a_tried a_stands a_found a_foundOn a_moving : Nat} {v_buffered : Int32} {v_size : Int32} {v_at : Int32} {v_behind : Int32} {v_kind : Int32} {v_wrong : Int32} {v_wrongAt : Int32} {v_errorAt : Int32} {v_number : Int64} {v_movingMany : Int32} {v_foundIncome : Int32} {v_foundMoves : Int32} {res : Int32 × (Nat → Int32) × (Nat → Int32) × Int32 × Int32} {sz : Nat} {n : Nat} {v_a : Nat → Int32} {v_kept : Nat → Int32} {v_keptMany : Int32} {v_thrown : Int32} {x1 : Int32} {x2 : Int32} (hf : f_X6_setRent n v_a v_kept v_keptMany v_thrown x1 x2 = some res) : Met l yX6_setRent zwX6_setRent rmX6_setRent (zPc D (zT cI cZ cM) [.ref a_this, .int x1, .int x2] [(a_this, .inr (6, [.ref a_a, .ref a_fresh, .ref a_kept, .int v_keptMany, .int v_thrown, .ref a_buffer, .int v_buffered, .int v_size, .int v_at, .int v_behind, .int v_kind, .int v_wrong, .int v_wrongAt, .int v_errorAt, .long v_number, .ref a_best, .ref a_rentBy, .ref a_bareBy, .ref a_aheadBy, .ref a_isEdge, .ref a_tried, .ref a_stands, .ref a_found, .ref a_foundOn, .ref a_moving, .int v_movingMany, .int v_foundIncome, .int v_foundMoves])), (a_a, .inl (cI, 180, .inl v_a)), (a_kept, .inl (cI, 1080, .inl v_kept))] sz) (zQi D (zT cI cZ cM) res.1 [(a_this, .inr (6, [.ref a_a, .ref a_fresh, .ref a_kept, .int res.2.2.2.1, .int res.2.2.2.2, .ref a_buffer, .int v_buffered, .int v_size, .int v_at, .int v_behind, .int v_kind, .int v_wrong, .int v_wrongAt, .int v_errorAt, .long v_number, .ref a_best, .ref a_rentBy, .ref a_bareBy, .ref a_aheadBy, .ref a_isEdge, .ref a_tried, .ref a_stands, .ref a_found, .ref a_foundOn, .ref a_moving, .int v_movingMany, .int v_foundIncome, .int v_foundMoves])), (a_a, .inl (cI, 180, .inl res.2.1)), (a_kept, .inl (cI, 1080, .inl res.2.2.1))] (va_A [(a_this, .inr (6, [.ref a_a, .ref a_fresh, .ref a_kept, .int v_keptMany, .int v_thrown, .ref a_buffer, .int v_buffered, .int v_size, .int v_at, .int v_behind, .int v_kind, .int v_wrong, .int v_wrongAt, .int v_errorAt, .long v_number, .ref a_best, .ref a_rentBy, .ref a_bareBy, .ref a_aheadBy, .ref a_isEdge, .ref a_tried, .ref a_stands, .ref a_found, .ref a_foundOn, .ref a_moving, .int v_movingMany, .int v_foundIncome, .int v_foundMoves])), (a_a, .inl (cI, 180, .inl v_a)), (a_kept, .inl (cI, 1080, .inl v_kept))] sz)) 0 0 (va_A [(a_this, .inr (6, [.ref a_a, .ref a_fresh, .ref a_kept, .int v_keptMany, .int v_thrown, .ref a_buffer, .int v_buffered, .int v_size, .int v_at, .int v_behind, .int v_kind, .int v_wrong, .int v_wrongAt, .int v_errorAt, .long v_number, .ref a_best, .ref a_rentBy, .ref a_bareBy, .ref a_aheadBy, .ref a_isEdge, .ref a_tried, .ref a_stands, .ref a_found, .ref a_foundOn, .ref a_moving, .int v_movingMany, .int v_foundIncome, .int v_foundMoves])), (a_a, .inl (cI, 180, .inl v_a)), (a_kept, .inl (cI, 1080, .inl v_kept))] sz) := by
  refine z_met (cc := cX6_setRent) (maxL := 4) (ret := (some .int)) (by decide) rfl (Nat.le_of_ble_eq_true rfl) ?_
  intro p e s m below meth c ls E hsz hw hl
  obtain ⟨⟨hx, hb, hml, hown, hts⟩, hr, hlocks⟩ := id E
  have hl : lv_has ls 4 [(0, .ref a_this), (1, .int x1), (2, .int x2)] := hl
  unfold f_X6_setRent at hf
  refine lv_aload_n hx hb dX6_setRent_0 rfl (lv_at hl 0 rfl) ?_
  refine lv_aload_n hx hb dX6_setRent_1 rfl (lv_at hl 0 rfl) ?_
  refine lv_iload_n hx hb dX6_setRent_2 rfl (lv_at hl 1 rfl) ?_
  obtain ⟨r_14, h_15, hf⟩ := oB_elim hf
  refine z_callVi (ws' := [(a_this, .inr (6, [.ref a_a, .ref a_fresh, .ref a_kept, .int v_keptMany, .int v_thrown, .ref a_buffer, .int v_buffered, .int v_size, .int v_at, .int v_behind, .int v_kind, .int v_wrong, .int v_wrongAt, .int v_errorAt, .long v_number, .ref a_best, .ref a_rentBy, .ref a_bareBy, .ref a_aheadBy, .ref a_isEdge, .ref a_tried, .ref a_stands, .ref a_found, .ref a_foundOn, .ref a_moving, .int v_movingMany, .int v_foundIncome, .int v_foundMoves])), (a_a, .inl (cI, 180, .inl v_a)), (a_kept, .inl (cI, 1080, .inl v_kept))]) (wr := [(a_kept, .inl (cI, 1080, .inl v_kept))]) (As := [.int x1]) (rest := [.ref a_this]) E.1 hl hw (c_X6_isPitch h_15) (cwV 1 hts (z_gV mw_665 mw_666 mw_667 mw_598 mw_668) rfl rfl rfl (by decide +kernel) ⟨(Nat.le_of_ble_eq_true rfl), (Nat.le_of_ble_eq_true rfl)⟩) 3 [(0, 2)] [(2, 1)] rfl rfl rfl rfl rfl rfl (by decide +kernel) rfl (q0 := 0) rfl rfl rfl (Nat.le_of_ble_eq_true rfl) dX6_setRent_3 ⟨Nat.le_of_ble_eq_true rfl, Nat.le_of_ble_eq_true rfl⟩ (fun H locs hw => ?_)
  refine lv_if_ne (tgt := 13) hx hb dX6_setRent_6 (by decide) (fun hc => ?_) (fun hc => ?_)
  · have hf := oI_neg hc hf
    refine lv_iload_n hx hb dX6_setRent_13 rfl (lv_at hl 2 rfl) ?_
    refine lv_i2l hx hb dX6_setRent_14 rfl ?_
    refine lv_lconst (v := 1) hx hb dX6_setRent_15 (by decide) ?_
    refine lv_ldc2 (v := 999) hx hb hown (hts _ mw_846) dX6_setRent_16 ?_
    obtain ⟨r_16, h_17, hf⟩ := oB_elim hf
    refine z_callSi (ws' := [(a_this, .inr (6, [.ref a_a, .ref a_fresh, .ref a_kept, .int v_keptMany, .int v_thrown, .ref a_buffer, .int v_buffered, .int v_size, .int v_at, .int v_behind, .int v_kind, .int v_wrong, .int v_wrongAt, .int v_errorAt, .long v_number, .ref a_best, .ref a_rentBy, .ref a_bareBy, .ref a_aheadBy, .ref a_isEdge, .ref a_tried, .ref a_stands, .ref a_found, .ref a_foundOn, .ref a_moving, .int v_movingMany, .int v_foundIncome, .int v_foundMoves])), (a_a, .inl (cI, 180, .inl v_a)), (a_kept, .inl (cI, 1080, .inl v_kept))]) (wr := [(a_this, .inr (6, [.ref a_a, .ref a_fresh, .ref a_kept, .int v_keptMany, .int v_thrown, .ref a_buffer, .int v_buffered, .int v_size, .int v_at, .int v_behind, .int v_kind, .int v_wrong, .int v_wrongAt, .int v_errorAt, .long v_number, .ref a_best, .ref a_rentBy, .ref a_bareBy, .ref a_aheadBy, .ref a_isEdge, .ref a_tried, .ref a_stands, .ref a_found, .ref a_foundOn, .ref a_moving, .int v_movingMany, .int v_foundIncome, .int v_foundMoves])), (a_a, .inl (cI, 180, .inl v_a)), (a_kept, .inl (cI, 1080, .inl v_kept))]) (As := [.long ((x2).toInt64), .long (1 : Int64), .long (999 : Int64)]) (rest := [.ref a_this]) E.1 hl hw (c_X6_isIn h_17) (va_cwS 3 hts (z_gS mw_596 mw_597 mw_598 mw_599) rfl rfl rfl (by decide +kernel) ⟨(Nat.le_of_ble_eq_true rfl), (Nat.le_of_ble_eq_true rfl)⟩) 3 [] [(0, 3)] rfl rfl rfl rfl rfl rfl (by decide +kernel) rfl rfl (Nat.le_of_ble_eq_true rfl) dX6_setRent_19 ⟨Nat.le_of_ble_eq_true rfl, Nat.le_of_ble_eq_true rfl⟩ (fun H locs hw => ?_)
    refine lv_if_ne (tgt := 29) hx hb dX6_setRent_22 (by decide) (fun hc => ?_) (fun hc => ?_)
    · have hf := oI_neg hc hf
      refine lv_iconst (v := 0) hx hb dX6_setRent_29 (by decide) ?_
      exact w_X6_setRent_30 E  _ _ _ _ _ _ _ hf _ _ _ hw (lv_sub hl [0, 1, 2] rfl)
    · have hf := oI_pos hc hf
      refine lv_iconst (v := 2) hx hb dX6_setRent_25 (by decide) ?_
      refine lv_goto (tgt := 30) hx hb dX6_setRent_26 (by decide) ?_
      exact w_X6_setRent_30 E  _ _ _ _ _ _ _ hf _ _ _ hw (lv_sub hl [0, 1, 2] rfl)
  · have hf := oI_pos hc hf
    refine lv_iconst (v := 1) hx hb dX6_setRent_9 (by decide) ?_
    refine lv_goto (tgt := 30) hx hb dX6_setRent_10 (by decide) ?_
    exact w_X6_setRent_30 E  _ _ _ _ _ _ _ hf _ _ _ hw (lv_sub hl [0, 1, 2] rfl)
end
