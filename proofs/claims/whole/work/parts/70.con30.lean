/-! X6_remove -/
section
variable {p : Program} {l : Launch} {e : Env} {s : State} {m : MethodId} {args : Array Value} {below : List Frame} {meth : Method} {c : Code} {D : va_G} {A : Nat → Prop} {cI cZ cM : ClassId} {a_this a_a a_fresh a_kept a_buffer a_best a_rentBy a_bareBy a_aheadBy a_isEdge a_tried a_stands a_found a_foundOn a_moving : Nat} {v_buffered : Int32} {v_size : Int32} {v_at : Int32} {v_behind : Int32} {v_kind : Int32} {v_wrong : Int32} {v_wrongAt : Int32} {v_errorAt : Int32} {v_number : Int64} {v_movingMany : Int32} {v_foundIncome : Int32} {v_foundMoves : Int32} {res : Int32 × (Nat → Int32) × (Nat → Int32) × Int32 × Int32}
def rmX6_remove : Room := { frames := 2, cells := 0, slots := 0, locals := 46 }
abbrev zwX6_remove : List Cond := Cond.code yX6_remove cX6_remove 3 (some .int) :: wsAll
set_option maxHeartbeats 4000000 in
set_option maxRecDepth 100000 in
theorem w_X6_remove_31 {n : Nat} (E : zE p s m args meth c cX6_remove 3 (some .int) zwX6_remove RX6) : ∀ (t1 : Int32) (x1 : Int32) (v_a : Nat → Int32) (v_kept : Nat → Int32) (v_keptMany : Int32) (v_thrown : Int32), f_X6_remove_31 n t1 x1 v_a v_kept v_keptMany v_thrown = some res → ∀ (H : Heap) (locs : List Loc) (ls : Array Slot), zW D (zT cI cZ cM) A s [(a_this, .inr (6, [.ref a_a, .ref a_fresh, .ref a_kept, .int v_keptMany, .int v_thrown, .ref a_buffer, .int v_buffered, .int v_size, .int v_at, .int v_behind, .int v_kind, .int v_wrong, .int v_wrongAt, .int v_errorAt, .long v_number, .ref a_best, .ref a_rentBy, .ref a_bareBy, .ref a_aheadBy, .ref a_isEdge, .ref a_tried, .ref a_stands, .ref a_found, .ref a_foundOn, .ref a_moving, .int v_movingMany, .int v_foundIncome, .int v_foundMoves])), (a_a, .inl (cI, 180, .inl v_a)), (a_kept, .inl (cI, 1080, .inl v_kept))] H locs → lv_has ls 3 [(0, .ref a_this), (1, .int x1)] → W p l e rmX6_remove s m args below meth c H locs 0 0 (MQ below (zQi D (zT cI cZ cM) res.1 [(a_this, .inr (6, [.ref a_a, .ref a_fresh, .ref a_kept, .int res.2.2.2.1, .int res.2.2.2.2, .ref a_buffer, .int v_buffered, .int v_size, .int v_at, .int v_behind, .int v_kind, .int v_wrong, .int v_wrongAt, .int v_errorAt, .long v_number, .ref a_best, .ref a_rentBy, .ref a_bareBy, .ref a_aheadBy, .ref a_isEdge, .ref a_tried, .ref a_stands, .ref a_found, .ref a_foundOn, .ref a_moving, .int v_movingMany, .int v_foundIncome, .int v_foundMoves])), (a_a, .inl (cI, 180, .inl res.2.1)), (a_kept, .inl (cI, 1080, .inl res.2.2.1))] A) args s 0 0 A) (F0 m 31 ls [.int t1, .ref a_this]) := by
  obtain ⟨⟨hx, hb, hml, hown, hts⟩, hr, hlocks⟩ := id E
  intro t1 x1 v_a v_kept v_keptMany v_thrown hf H locs ls hw hl
  unfold f_X6_remove_31 at hf
  refine z_put (ws' := [(a_this, .inr (6, [.ref a_a, .ref a_fresh, .ref a_kept, .int v_keptMany, .int t1, .ref a_buffer, .int v_buffered, .int v_size, .int v_at, .int v_behind, .int v_kind, .int v_wrong, .int v_wrongAt, .int v_errorAt, .long v_number, .ref a_best, .ref a_rentBy, .ref a_bareBy, .ref a_aheadBy, .ref a_isEdge, .ref a_tried, .ref a_stands, .ref a_found, .ref a_foundOn, .ref a_moving, .int v_movingMany, .int v_foundIncome, .int v_foundMoves])), (a_a, .inl (cI, 180, .inl v_a)), (a_kept, .inl (cI, 1080, .inl v_kept))]) E.1 hw in_wsX60 tyX6 tyX6_ok nmX6 0 rfl rfl 4 (z_lt rfl) mw_594 rfl rfl rfl (z_lt rfl) rfl dX6_remove_31 (fun H locs hw => ?_)
  refine lv_aload_n hx hb dX6_remove_34 rfl (lv_at hl 0 rfl) ?_
  refine z_get E.1 hw in_wsX60 0 rfl rfl 4 (z_lt rfl) mw_594 (v := .int t1) rfl dX6_remove_35 ?_
  refine lv_if_le (tgt := 43) hx hb dX6_remove_38 (by decide) (fun hc => ?_) (fun hc => ?_)
  · have hf := oI_pos hc hf
    refine lv_aload_n hx hb dX6_remove_43 rfl (lv_at hl 0 rfl) ?_
    obtain ⟨v_1, v_2, h_3, hf⟩ := oB2_elim hf
    refine z_callVv (ws' := [(a_this, .inr (6, [.ref a_a, .ref a_fresh, .ref a_kept, .int v_2, .int t1, .ref a_buffer, .int v_buffered, .int v_size, .int v_at, .int v_behind, .int v_kind, .int v_wrong, .int v_wrongAt, .int v_errorAt, .long v_number, .ref a_best, .ref a_rentBy, .ref a_bareBy, .ref a_aheadBy, .ref a_isEdge, .ref a_tried, .ref a_stands, .ref a_found, .ref a_foundOn, .ref a_moving, .int v_movingMany, .int v_foundIncome, .int v_foundMoves])), (a_a, .inl (cI, 180, .inl v_a)), (a_kept, .inl (cI, 1080, .inl v_1))]) (wr := []) (As := []) (rest := []) E.1 hl hw (c_X6_keeps h_3) (cwV 0 hts (z_gV mw_599 mw_600 mw_601 mw_597 mw_602) rfl rfl rfl (by decide +kernel) ⟨(Nat.le_of_ble_eq_true rfl), (Nat.le_of_ble_eq_true rfl)⟩) 3 [(0, 3)] [] rfl rfl rfl rfl rfl rfl (by decide +kernel) rfl (q0 := 0) rfl rfl rfl (Nat.le_of_ble_eq_true rfl) dX6_remove_44 ⟨Nat.le_of_ble_eq_true rfl, Nat.le_of_ble_eq_true rfl⟩ (fun H locs hw => ?_)
    refine lv_aload_n hx hb dX6_remove_47 rfl (lv_at hl 0 rfl) ?_
    refine z_get E.1 hw in_wsX60 0 rfl rfl 0 (z_lt rfl) mw_593 (v := .ref a_a) rfl dX6_remove_48 ?_
    refine lv_bipush (v := 107) hx hb dX6_remove_51 (by decide) ?_
    refine lv_iload_n hx hb dX6_remove_53 rfl (lv_at hl 1 rfl) ?_
    refine lv_iadd hx hb dX6_remove_54 ?_
    obtain ⟨h_4, hf⟩ := oA_elim hf
    refine z_iald E.1 hw 1 0 rfl rfl h_4 dX6_remove_55 ?_
    obtain ⟨y_5, e_y_5, hf⟩ := oL_elim hf
    refine z_top e_y_5 ?_
    refine lv_istore_n (lv' := [(2, .int y_5), (0, .ref a_this), (1, .int x1)]) hx hb dX6_remove_56 rfl hl (z_lt rfl) rfl (fun ls hl => ?_)
    refine lv_aload_n hx hb dX6_remove_57 rfl (lv_at hl 1 rfl) ?_
    refine z_get E.1 hw in_wsX60 0 rfl rfl 0 (z_lt rfl) mw_593 (v := .ref a_a) rfl dX6_remove_58 ?_
    refine lv_bipush (v := 107) hx hb dX6_remove_61 (by decide) ?_
    refine lv_iload_n hx hb dX6_remove_63 rfl (lv_at hl 2 rfl) ?_
    refine lv_iadd hx hb dX6_remove_64 ?_
    refine lv_iconst (v := -1) hx hb dX6_remove_65 (by decide) ?_
    obtain ⟨h_6, hf⟩ := oA_elim hf
    obtain ⟨v_7, e_v_7, hf⟩ := oL_elim hf
    refine z_iast (ws' := [(a_this, .inr (6, [.ref a_a, .ref a_fresh, .ref a_kept, .int v_2, .int t1, .ref a_buffer, .int v_buffered, .int v_size, .int v_at, .int v_behind, .int v_kind, .int v_wrong, .int v_wrongAt, .int v_errorAt, .long v_number, .ref a_best, .ref a_rentBy, .ref a_bareBy, .ref a_aheadBy, .ref a_isEdge, .ref a_tried, .ref a_stands, .ref a_found, .ref a_foundOn, .ref a_moving, .int v_movingMany, .int v_foundIncome, .int v_foundMoves])), (a_a, .inl (cI, 180, .inl v_7)), (a_kept, .inl (cI, 1080, .inl v_1))]) E.1 hw 1 0 rfl rfl h_6 (by subst e_v_7; rfl) dX6_remove_66 (fun H locs hw => ?_)
    refine lv_iload_n hx hb dX6_remove_67 rfl (lv_at hl 0 rfl) ?_
    cases hf
    exact z_iret E rfl hw dX6_remove_68
  · have hf := oI_neg hc hf
    refine lv_iconst (v := 0) hx hb dX6_remove_41 (by decide) ?_
    cases hf
    exact z_iret E rfl hw dX6_remove_42
set_option maxHeartbeats 4000000 in
set_option maxRecDepth 100000 in
theorem c_X6_remove {l : Launch} {D : va_G} {cI cZ cM : ClassId} {a_this a_a a_fresh a_kept a_buffer a_best a_rentBy a_bareBy a_aheadBy a_isEdge a_tried a_stands a_found a_foundOn a_moving : Nat} {v_buffered : Int32} {v_size : Int32} {v_at : Int32} {v_behind : Int32} {v_kind : Int32} {v_wrong : Int32} {v_wrongAt : Int32} {v_errorAt : Int32} {v_number : Int64} {v_movingMany : Int32} {v_foundIncome : Int32} {v_foundMoves : Int32} {res : Int32 × (Nat → Int32) × (Nat → Int32) × Int32 × Int32} {sz : Nat} {n : Nat} {v_a : Nat → Int32} {v_kept : Nat → Int32} {v_keptMany : Int32} {v_thrown : Int32} {x1 : Int32} (hf : f_X6_remove n v_a v_kept v_keptMany v_thrown x1 = some res) : Met l yX6_remove zwX6_remove rmX6_remove (zPc D (zT cI cZ cM) [.ref a_this, .int x1] [(a_this, .inr (6, [.ref a_a, .ref a_fresh, .ref a_kept, .int v_keptMany, .int v_thrown, .ref a_buffer, .int v_buffered, .int v_size, .int v_at, .int v_behind, .int v_kind, .int v_wrong, .int v_wrongAt, .int v_errorAt, .long v_number, .ref a_best, .ref a_rentBy, .ref a_bareBy, .ref a_aheadBy, .ref a_isEdge, .ref a_tried, .ref a_stands, .ref a_found, .ref a_foundOn, .ref a_moving, .int v_movingMany, .int v_foundIncome, .int v_foundMoves])), (a_a, .inl (cI, 180, .inl v_a)), (a_kept, .inl (cI, 1080, .inl v_kept))] sz) (zQi D (zT cI cZ cM) res.1 [(a_this, .inr (6, [.ref a_a, .ref a_fresh, .ref a_kept, .int res.2.2.2.1, .int res.2.2.2.2, .ref a_buffer, .int v_buffered, .int v_size, .int v_at, .int v_behind, .int v_kind, .int v_wrong, .int v_wrongAt, .int v_errorAt, .long v_number, .ref a_best, .ref a_rentBy, .ref a_bareBy, .ref a_aheadBy, .ref a_isEdge, .ref a_tried, .ref a_stands, .ref a_found, .ref a_foundOn, .ref a_moving, .int v_movingMany, .int v_foundIncome, .int v_foundMoves])), (a_a, .inl (cI, 180, .inl res.2.1)), (a_kept, .inl (cI, 1080, .inl res.2.2.1))] (va_A [(a_this, .inr (6, [.ref a_a, .ref a_fresh, .ref a_kept, .int v_keptMany, .int v_thrown, .ref a_buffer, .int v_buffered, .int v_size, .int v_at, .int v_behind, .int v_kind, .int v_wrong, .int v_wrongAt, .int v_errorAt, .long v_number, .ref a_best, .ref a_rentBy, .ref a_bareBy, .ref a_aheadBy, .ref a_isEdge, .ref a_tried, .ref a_stands, .ref a_found, .ref a_foundOn, .ref a_moving, .int v_movingMany, .int v_foundIncome, .int v_foundMoves])), (a_a, .inl (cI, 180, .inl v_a)), (a_kept, .inl (cI, 1080, .inl v_kept))] sz)) 0 0 (va_A [(a_this, .inr (6, [.ref a_a, .ref a_fresh, .ref a_kept, .int v_keptMany, .int v_thrown, .ref a_buffer, .int v_buffered, .int v_size, .int v_at, .int v_behind, .int v_kind, .int v_wrong, .int v_wrongAt, .int v_errorAt, .long v_number, .ref a_best, .ref a_rentBy, .ref a_bareBy, .ref a_aheadBy, .ref a_isEdge, .ref a_tried, .ref a_stands, .ref a_found, .ref a_foundOn, .ref a_moving, .int v_movingMany, .int v_foundIncome, .int v_foundMoves])), (a_a, .inl (cI, 180, .inl v_a)), (a_kept, .inl (cI, 1080, .inl v_kept))] sz) := by
  refine z_met (cc := cX6_remove) (maxL := 3) (ret := (some .int)) (by decide) rfl (Nat.le_of_ble_eq_true rfl) ?_
  intro p e s m below meth c ls E hsz hw hl
  obtain ⟨⟨hx, hb, hml, hown, hts⟩, hr, hlocks⟩ := id E
  have hl : lv_has ls 3 [(0, .ref a_this), (1, .int x1)] := hl
  unfold f_X6_remove at hf
  refine lv_aload_n hx hb dX6_remove_0 rfl (lv_at hl 0 rfl) ?_
  refine lv_aload_n hx hb dX6_remove_1 rfl (lv_at hl 0 rfl) ?_
  refine lv_iload_n hx hb dX6_remove_2 rfl (lv_at hl 1 rfl) ?_
  obtain ⟨r_8, h_9, hf⟩ := oB_elim hf
  refine z_callVi (ws' := [(a_this, .inr (6, [.ref a_a, .ref a_fresh, .ref a_kept, .int v_keptMany, .int v_thrown, .ref a_buffer, .int v_buffered, .int v_size, .int v_at, .int v_behind, .int v_kind, .int v_wrong, .int v_wrongAt, .int v_errorAt, .long v_number, .ref a_best, .ref a_rentBy, .ref a_bareBy, .ref a_aheadBy, .ref a_isEdge, .ref a_tried, .ref a_stands, .ref a_found, .ref a_foundOn, .ref a_moving, .int v_movingMany, .int v_foundIncome, .int v_foundMoves])), (a_a, .inl (cI, 180, .inl v_a)), (a_kept, .inl (cI, 1080, .inl v_kept))]) (wr := [(a_kept, .inl (cI, 1080, .inl v_kept))]) (As := [.int x1]) (rest := [.ref a_this]) E.1 hl hw (c_X6_isTrader h_9) (cwV 1 hts (z_gV mw_714 mw_715 mw_716 mw_597 mw_717) rfl rfl rfl (by decide +kernel) ⟨(Nat.le_of_ble_eq_true rfl), (Nat.le_of_ble_eq_true rfl)⟩) 3 [(0, 2)] [(2, 1)] rfl rfl rfl rfl rfl rfl (by decide +kernel) rfl (q0 := 0) rfl rfl rfl (Nat.le_of_ble_eq_true rfl) dX6_remove_3 ⟨Nat.le_of_ble_eq_true rfl, Nat.le_of_ble_eq_true rfl⟩ (fun H locs hw => ?_)
  refine lv_if_ne (tgt := 13) hx hb dX6_remove_6 (by decide) (fun hc => ?_) (fun hc => ?_)
  · have hf := oI_neg hc hf
    refine lv_aload_n hx hb dX6_remove_13 rfl (lv_at hl 0 rfl) ?_
    refine z_get E.1 hw in_wsX60 0 rfl rfl 0 (z_lt rfl) mw_593 (v := .ref a_a) rfl dX6_remove_14 ?_
    refine lv_bipush (v := 107) hx hb dX6_remove_17 (by decide) ?_
    refine lv_iload_n hx hb dX6_remove_19 rfl (lv_at hl 1 rfl) ?_
    refine lv_iadd hx hb dX6_remove_20 ?_
    obtain ⟨h_10, hf⟩ := oA_elim hf
    refine z_iald E.1 hw 1 0 rfl rfl h_10 dX6_remove_21 ?_
    refine lv_iconst (v := -1) hx hb dX6_remove_22 (by decide) ?_
    refine lv_icmp_ne (tgt := 30) hx hb dX6_remove_23 (by decide) (fun hc => ?_) (fun hc => ?_)
    · have hf := oI_neg hc hf
      refine lv_iconst (v := 0) hx hb dX6_remove_30 (by decide) ?_
      exact w_X6_remove_31 E  _ _ _ _ _ _ hf _ _ _ hw (lv_sub hl [0, 1] rfl)
    · have hf := oI_pos hc hf
      refine lv_iconst (v := 2) hx hb dX6_remove_26 (by decide) ?_
      refine lv_goto (tgt := 31) hx hb dX6_remove_27 (by decide) ?_
      exact w_X6_remove_31 E  _ _ _ _ _ _ hf _ _ _ hw (lv_sub hl [0, 1] rfl)
  · have hf := oI_pos hc hf
    refine lv_iconst (v := 1) hx hb dX6_remove_9 (by decide) ?_
    refine lv_goto (tgt := 31) hx hb dX6_remove_10 (by decide) ?_
    exact w_X6_remove_31 E  _ _ _ _ _ _ hf _ _ _ hw (lv_sub hl [0, 1] rfl)
end
/-! X6_rent -/
section
variable {p : Program} {l : Launch} {e : Env} {s : State} {m : MethodId} {args : Array Value} {below : List Frame} {meth : Method} {c : Code} {D : va_G} {A : Nat → Prop} {cI cZ cM : ClassId} {a_this a_a a_fresh a_kept a_buffer a_best a_rentBy a_bareBy a_aheadBy a_isEdge a_tried a_stands a_found a_foundOn a_moving : Nat} {v_keptMany : Int32} {v_buffered : Int32} {v_size : Int32} {v_at : Int32} {v_behind : Int32} {v_kind : Int32} {v_wrong : Int32} {v_wrongAt : Int32} {v_errorAt : Int32} {v_number : Int64} {v_movingMany : Int32} {v_foundIncome : Int32} {v_foundMoves : Int32} {res : Int32 × Int32}
def rmX6_rent : Room := { frames := 3, cells := 0, slots := 0, locals := 68 }
abbrev zwX6_rent : List Cond := Cond.code yX6_rent cX6_rent 2 (some .int) :: wsAll
set_option maxHeartbeats 4000000 in
set_option maxRecDepth 100000 in
theorem c_X6_rent {l : Launch} {D : va_G} {cI cZ cM : ClassId} {a_this a_a a_fresh a_kept a_buffer a_best a_rentBy a_bareBy a_aheadBy a_isEdge a_tried a_stands a_found a_foundOn a_moving : Nat} {v_keptMany : Int32} {v_buffered : Int32} {v_size : Int32} {v_at : Int32} {v_behind : Int32} {v_kind : Int32} {v_wrong : Int32} {v_wrongAt : Int32} {v_errorAt : Int32} {v_number : Int64} {v_movingMany : Int32} {v_foundIncome : Int32} {v_foundMoves : Int32} {res : Int32 × Int32} {sz : Nat} {v_a : Nat → Int32} {v_thrown : Int32} {x1 : Int32} (hf : f_X6_rent v_a v_thrown x1 = some res) : Met l yX6_rent zwX6_rent rmX6_rent (zPc D (zT cI cZ cM) [.ref a_this, .int x1] [(a_this, .inr (6, [.ref a_a, .ref a_fresh, .ref a_kept, .int v_keptMany, .int v_thrown, .ref a_buffer, .int v_buffered, .int v_size, .int v_at, .int v_behind, .int v_kind, .int v_wrong, .int v_wrongAt, .int v_errorAt, .long v_number, .ref a_best, .ref a_rentBy, .ref a_bareBy, .ref a_aheadBy, .ref a_isEdge, .ref a_tried, .ref a_stands, .ref a_found, .ref a_foundOn, .ref a_moving, .int v_movingMany, .int v_foundIncome, .int v_foundMoves])), (a_a, .inl (cI, 180, .inl v_a))] sz) (zQi D (zT cI cZ cM) res.1 [(a_this, .inr (6, [.ref a_a, .ref a_fresh, .ref a_kept, .int v_keptMany, .int res.2, .ref a_buffer, .int v_buffered, .int v_size, .int v_at, .int v_behind, .int v_kind, .int v_wrong, .int v_wrongAt, .int v_errorAt, .long v_number, .ref a_best, .ref a_rentBy, .ref a_bareBy, .ref a_aheadBy, .ref a_isEdge, .ref a_tried, .ref a_stands, .ref a_found, .ref a_foundOn, .ref a_moving, .int v_movingMany, .int v_foundIncome, .int v_foundMoves])), (a_a, .inl (cI, 180, .inl v_a))] (va_A [(a_this, .inr (6, [.ref a_a, .ref a_fresh, .ref a_kept, .int v_keptMany, .int v_thrown, .ref a_buffer, .int v_buffered, .int v_size, .int v_at, .int v_behind, .int v_kind, .int v_wrong, .int v_wrongAt, .int v_errorAt, .long v_number, .ref a_best, .ref a_rentBy, .ref a_bareBy, .ref a_aheadBy, .ref a_isEdge, .ref a_tried, .ref a_stands, .ref a_found, .ref a_foundOn, .ref a_moving, .int v_movingMany, .int v_foundIncome, .int v_foundMoves])), (a_a, .inl (cI, 180, .inl v_a))] sz)) 0 0 (va_A [(a_this, .inr (6, [.ref a_a, .ref a_fresh, .ref a_kept, .int v_keptMany, .int v_thrown, .ref a_buffer, .int v_buffered, .int v_size, .int v_at, .int v_behind, .int v_kind, .int v_wrong, .int v_wrongAt, .int v_errorAt, .long v_number, .ref a_best, .ref a_rentBy, .ref a_bareBy, .ref a_aheadBy, .ref a_isEdge, .ref a_tried, .ref a_stands, .ref a_found, .ref a_foundOn, .ref a_moving, .int v_movingMany, .int v_foundIncome, .int v_foundMoves])), (a_a, .inl (cI, 180, .inl v_a))] sz) := by
  refine z_met (cc := cX6_rent) (maxL := 2) (ret := (some .int)) (by decide) rfl (Nat.le_of_ble_eq_true rfl) ?_
  intro p e s m below meth c ls E hsz hw hl
  obtain ⟨⟨hx, hb, hml, hown, hts⟩, hr, hlocks⟩ := id E
  have hl : lv_has ls 2 [(0, .ref a_this), (1, .int x1)] := hl
  unfold f_X6_rent at hf
  refine lv_aload_n hx hb dX6_rent_0 rfl (lv_at hl 0 rfl) ?_
  refine lv_iconst (v := 2) hx hb dX6_rent_1 (by decide) ?_
  refine lv_iload_n hx hb dX6_rent_2 rfl (lv_at hl 1 rfl) ?_
  obtain ⟨r_1, v_2, h_3, hf⟩ := oB2_elim hf
  refine z_callVi (ws' := [(a_this, .inr (6, [.ref a_a, .ref a_fresh, .ref a_kept, .int v_keptMany, .int v_2, .ref a_buffer, .int v_buffered, .int v_size, .int v_at, .int v_behind, .int v_kind, .int v_wrong, .int v_wrongAt, .int v_errorAt, .long v_number, .ref a_best, .ref a_rentBy, .ref a_bareBy, .ref a_aheadBy, .ref a_isEdge, .ref a_tried, .ref a_stands, .ref a_found, .ref a_foundOn, .ref a_moving, .int v_movingMany, .int v_foundIncome, .int v_foundMoves])), (a_a, .inl (cI, 180, .inl v_a))]) (wr := []) (As := [.int (2 : Int32), .int x1]) (rest := []) E.1 hl hw (c_X6_pitchValue h_3) (cwV 2 hts (z_gV mw_830 mw_831 mw_832 mw_597 mw_833) rfl rfl rfl (by decide +kernel) ⟨(Nat.le_of_ble_eq_true rfl), (Nat.le_of_ble_eq_true rfl)⟩) 2 [(0, 2)] [] rfl rfl rfl rfl rfl rfl (by decide +kernel) rfl (q0 := 0) rfl rfl rfl (Nat.le_of_ble_eq_true rfl) dX6_rent_3 ⟨Nat.le_of_ble_eq_true rfl, Nat.le_of_ble_eq_true rfl⟩ (fun H locs hw => ?_)
  cases hf
  exact z_iret E rfl hw dX6_rent_6
end
/-! X6_row -/
section
variable {p : Program} {l : Launch} {e : Env} {s : State} {m : MethodId} {args : Array Value} {below : List Frame} {meth : Method} {c : Code} {D : va_G} {A : Nat → Prop} {cI cZ cM : ClassId} {a_this a_a a_fresh a_kept a_buffer a_best a_rentBy a_bareBy a_aheadBy a_isEdge a_tried a_stands a_found a_foundOn a_moving : Nat} {v_keptMany : Int32} {v_buffered : Int32} {v_size : Int32} {v_at : Int32} {v_behind : Int32} {v_kind : Int32} {v_wrong : Int32} {v_wrongAt : Int32} {v_errorAt : Int32} {v_number : Int64} {v_movingMany : Int32} {v_foundIncome : Int32} {v_foundMoves : Int32} {res : Int32 × Int32}
def rmX6_row : Room := { frames := 3, cells := 0, slots := 0, locals := 68 }
abbrev zwX6_row : List Cond := Cond.code yX6_row cX6_row 2 (some .int) :: wsAll
set_option maxHeartbeats 4000000 in
set_option maxRecDepth 100000 in
theorem c_X6_row {l : Launch} {D : va_G} {cI cZ cM : ClassId} {a_this a_a a_fresh a_kept a_buffer a_best a_rentBy a_bareBy a_aheadBy a_isEdge a_tried a_stands a_found a_foundOn a_moving : Nat} {v_keptMany : Int32} {v_buffered : Int32} {v_size : Int32} {v_at : Int32} {v_behind : Int32} {v_kind : Int32} {v_wrong : Int32} {v_wrongAt : Int32} {v_errorAt : Int32} {v_number : Int64} {v_movingMany : Int32} {v_foundIncome : Int32} {v_foundMoves : Int32} {res : Int32 × Int32} {sz : Nat} {v_a : Nat → Int32} {v_thrown : Int32} {x1 : Int32} (hf : f_X6_row v_a v_thrown x1 = some res) : Met l yX6_row zwX6_row rmX6_row (zPc D (zT cI cZ cM) [.ref a_this, .int x1] [(a_this, .inr (6, [.ref a_a, .ref a_fresh, .ref a_kept, .int v_keptMany, .int v_thrown, .ref a_buffer, .int v_buffered, .int v_size, .int v_at, .int v_behind, .int v_kind, .int v_wrong, .int v_wrongAt, .int v_errorAt, .long v_number, .ref a_best, .ref a_rentBy, .ref a_bareBy, .ref a_aheadBy, .ref a_isEdge, .ref a_tried, .ref a_stands, .ref a_found, .ref a_foundOn, .ref a_moving, .int v_movingMany, .int v_foundIncome, .int v_foundMoves])), (a_a, .inl (cI, 180, .inl v_a))] sz) (zQi D (zT cI cZ cM) res.1 [(a_this, .inr (6, [.ref a_a, .ref a_fresh, .ref a_kept, .int v_keptMany, .int res.2, .ref a_buffer, .int v_buffered, .int v_size, .int v_at, .int v_behind, .int v_kind, .int v_wrong, .int v_wrongAt, .int v_errorAt, .long v_number, .ref a_best, .ref a_rentBy, .ref a_bareBy, .ref a_aheadBy, .ref a_isEdge, .ref a_tried, .ref a_stands, .ref a_found, .ref a_foundOn, .ref a_moving, .int v_movingMany, .int v_foundIncome, .int v_foundMoves])), (a_a, .inl (cI, 180, .inl v_a))] (va_A [(a_this, .inr (6, [.ref a_a, .ref a_fresh, .ref a_kept, .int v_keptMany, .int v_thrown, .ref a_buffer, .int v_buffered, .int v_size, .int v_at, .int v_behind, .int v_kind, .int v_wrong, .int v_wrongAt, .int v_errorAt, .long v_number, .ref a_best, .ref a_rentBy, .ref a_bareBy, .ref a_aheadBy, .ref a_isEdge, .ref a_tried, .ref a_stands, .ref a_found, .ref a_foundOn, .ref a_moving, .int v_movingMany, .int v_foundIncome, .int v_foundMoves])), (a_a, .inl (cI, 180, .inl v_a))] sz)) 0 0 (va_A [(a_this, .inr (6, [.ref a_a, .ref a_fresh, .ref a_kept, .int v_keptMany, .int v_thrown, .ref a_buffer, .int v_buffered, .int v_size, .int v_at, .int v_behind, .int v_kind, .int v_wrong, .int v_wrongAt, .int v_errorAt, .long v_number, .ref a_best, .ref a_rentBy, .ref a_bareBy, .ref a_aheadBy, .ref a_isEdge, .ref a_tried, .ref a_stands, .ref a_found, .ref a_foundOn, .ref a_moving, .int v_movingMany, .int v_foundIncome, .int v_foundMoves])), (a_a, .inl (cI, 180, .inl v_a))] sz) := by
  refine z_met (cc := cX6_row) (maxL := 2) (ret := (some .int)) (by decide) rfl (Nat.le_of_ble_eq_true rfl) ?_
  intro p e s m below meth c ls E hsz hw hl
  obtain ⟨⟨hx, hb, hml, hown, hts⟩, hr, hlocks⟩ := id E
  have hl : lv_has ls 2 [(0, .ref a_this), (1, .int x1)] := hl
  unfold f_X6_row at hf
  refine lv_aload_n hx hb dX6_row_0 rfl (lv_at hl 0 rfl) ?_
  refine lv_bipush (v := 50) hx hb dX6_row_1 (by decide) ?_
  refine lv_iload_n hx hb dX6_row_3 rfl (lv_at hl 1 rfl) ?_
  obtain ⟨r_1, v_2, h_3, hf⟩ := oB2_elim hf
  refine z_callVi (ws' := [(a_this, .inr (6, [.ref a_a, .ref a_fresh, .ref a_kept, .int v_keptMany, .int v_2, .ref a_buffer, .int v_buffered, .int v_size, .int v_at, .int v_behind, .int v_kind, .int v_wrong, .int v_wrongAt, .int v_errorAt, .long v_number, .ref a_best, .ref a_rentBy, .ref a_bareBy, .ref a_aheadBy, .ref a_isEdge, .ref a_tried, .ref a_stands, .ref a_found, .ref a_foundOn, .ref a_moving, .int v_movingMany, .int v_foundIncome, .int v_foundMoves])), (a_a, .inl (cI, 180, .inl v_a))]) (wr := []) (As := [.int (50 : Int32), .int x1]) (rest := []) E.1 hl hw (c_X6_pitchValue h_3) (cwV 2 hts (z_gV mw_830 mw_831 mw_832 mw_597 mw_833) rfl rfl rfl (by decide +kernel) ⟨(Nat.le_of_ble_eq_true rfl), (Nat.le_of_ble_eq_true rfl)⟩) 2 [(0, 2)] [] rfl rfl rfl rfl rfl rfl (by decide +kernel) rfl (q0 := 0) rfl rfl rfl (Nat.le_of_ble_eq_true rfl) dX6_row_4 ⟨Nat.le_of_ble_eq_true rfl, Nat.le_of_ble_eq_true rfl⟩ (fun H locs hw => ?_)
  cases hf
  exact z_iret E rfl hw dX6_row_7
end
/-! X6_setClash -/
section
variable {p : Program} {l : Launch} {e : Env} {s : State} {m : MethodId} {args : Array Value} {below : List Frame} {meth : Method} {c : Code} {D : va_G} {A : Nat → Prop} {cI cZ cM : ClassId} {a_this a_a a_fresh a_kept a_buffer a_best a_rentBy a_bareBy a_aheadBy a_isEdge a_tried a_stands a_found a_foundOn a_moving : Nat} {v_buffered : Int32} {v_size : Int32} {v_at : Int32} {v_behind : Int32} {v_kind : Int32} {v_wrong : Int32} {v_wrongAt : Int32} {v_errorAt : Int32} {v_number : Int64} {v_movingMany : Int32} {v_foundIncome : Int32} {v_foundMoves : Int32} {res : (Nat → Int32) × (Nat → Int32) × Int32 × Int32}
def rmX6_setClash : Room := { frames := 4, cells := 0, slots := 0, locals := 94 }
abbrev zwX6_setClash : List Cond := Cond.code yX6_setClash cX6_setClash 4 none :: wsAll
set_option maxHeartbeats 4000000 in
set_option maxRecDepth 100000 in
theorem w_X6_setClash_61 {n : Nat} (E : zE p s m args meth c cX6_setClash 4 none zwX6_setClash RX6) : ∀ (t1 : Int32) (t2 : Int32) (t3 : Int32) (v_a : Nat → Int32) (v_kept : Nat → Int32) (v_keptMany : Int32) (v_thrown : Int32), f_X6_setClash_61 n t1 t2 t3 v_a v_kept v_keptMany v_thrown = some res → ∀ (H : Heap) (locs : List Loc) (ls : Array Slot), zW D (zT cI cZ cM) A s [(a_this, .inr (6, [.ref a_a, .ref a_fresh, .ref a_kept, .int v_keptMany, .int v_thrown, .ref a_buffer, .int v_buffered, .int v_size, .int v_at, .int v_behind, .int v_kind, .int v_wrong, .int v_wrongAt, .int v_errorAt, .long v_number, .ref a_best, .ref a_rentBy, .ref a_bareBy, .ref a_aheadBy, .ref a_isEdge, .ref a_tried, .ref a_stands, .ref a_found, .ref a_foundOn, .ref a_moving, .int v_movingMany, .int v_foundIncome, .int v_foundMoves])), (a_a, .inl (cI, 180, .inl v_a)), (a_kept, .inl (cI, 1080, .inl v_kept))] H locs → lv_has ls 4 [] → W p l e rmX6_setClash s m args below meth c H locs 0 0 (MQ below (zQv D (zT cI cZ cM) [(a_this, .inr (6, [.ref a_a, .ref a_fresh, .ref a_kept, .int res.2.2.1, .int res.2.2.2, .ref a_buffer, .int v_buffered, .int v_size, .int v_at, .int v_behind, .int v_kind, .int v_wrong, .int v_wrongAt, .int v_errorAt, .long v_number, .ref a_best, .ref a_rentBy, .ref a_bareBy, .ref a_aheadBy, .ref a_isEdge, .ref a_tried, .ref a_stands, .ref a_found, .ref a_foundOn, .ref a_moving, .int v_movingMany, .int v_foundIncome, .int v_foundMoves])), (a_a, .inl (cI, 180, .inl res.1)), (a_kept, .inl (cI, 1080, .inl res.2.1))] A) args s 0 0 A) (F0 m 61 ls [.int t3, .int t2, .int t1, .ref a_a]) := by
  obtain ⟨⟨hx, hb, hml, hown, hts⟩, hr, hlocks⟩ := id E
  intro t1 t2 t3 v_a v_kept v_keptMany v_thrown hf H locs ls hw hl
  unfold f_X6_setClash_61 at hf
  obtain ⟨v_1, h_2, hf⟩ := oB_elim hf
  refine z_callSv (ws' := [(a_this, .inr (6, [.ref a_a, .ref a_fresh, .ref a_kept, .int v_keptMany, .int v_thrown, .ref a_buffer, .int v_buffered, .int v_size, .int v_at, .int v_behind, .int v_kind, .int v_wrong, .int v_wrongAt, .int v_errorAt, .long v_number, .ref a_best, .ref a_rentBy, .ref a_bareBy, .ref a_aheadBy, .ref a_isEdge, .ref a_tried, .ref a_stands, .ref a_found, .ref a_foundOn, .ref a_moving, .int v_movingMany, .int v_foundIncome, .int v_foundMoves])), (a_a, .inl (cI, 180, .inl v_1)), (a_kept, .inl (cI, 1080, .inl v_kept))]) (wr := [(a_this, .inr (6, [.ref a_a, .ref a_fresh, .ref a_kept, .int v_keptMany, .int v_thrown, .ref a_buffer, .int v_buffered, .int v_size, .int v_at, .int v_behind, .int v_kind, .int v_wrong, .int v_wrongAt, .int v_errorAt, .long v_number, .ref a_best, .ref a_rentBy, .ref a_bareBy, .ref a_aheadBy, .ref a_isEdge, .ref a_tried, .ref a_stands, .ref a_found, .ref a_foundOn, .ref a_moving, .int v_movingMany, .int v_foundIncome, .int v_foundMoves])), (a_kept, .inl (cI, 1080, .inl v_kept))]) (As := [.ref a_a, .int t1, .int t2, .int t3]) (rest := []) E.1 hl hw (c_X6_clashes h_2) (va_cwS 4 hts (z_gS mw_695 mw_696 mw_597 mw_697) rfl rfl rfl (by decide +kernel) ⟨(Nat.le_of_ble_eq_true rfl), (Nat.le_of_ble_eq_true rfl)⟩) 3 [(1, 1)] [(0, 1), (2, 1)] rfl rfl rfl rfl rfl rfl (by decide +kernel) rfl rfl (Nat.le_of_ble_eq_true rfl) dX6_setClash_61 ⟨Nat.le_of_ble_eq_true rfl, Nat.le_of_ble_eq_true rfl⟩ (fun H locs hw => ?_)
  cases hf
  exact z_vret E rfl hw dX6_setClash_64
set_option maxHeartbeats 4000000 in
set_option maxRecDepth 100000 in
theorem w_X6_setClash_31 {n : Nat} (E : zE p s m args meth c cX6_setClash 4 none zwX6_setClash RX6) : ∀ (t1 : Int32) (x1 : Int32) (x2 : Int32) (x3 : Int32) (v_a : Nat → Int32) (v_kept : Nat → Int32) (v_keptMany : Int32) (v_thrown : Int32), f_X6_setClash_31 n t1 x1 x2 x3 v_a v_kept v_keptMany v_thrown = some res → ∀ (H : Heap) (locs : List Loc) (ls : Array Slot), zW D (zT cI cZ cM) A s [(a_this, .inr (6, [.ref a_a, .ref a_fresh, .ref a_kept, .int v_keptMany, .int v_thrown, .ref a_buffer, .int v_buffered, .int v_size, .int v_at, .int v_behind, .int v_kind, .int v_wrong, .int v_wrongAt, .int v_errorAt, .long v_number, .ref a_best, .ref a_rentBy, .ref a_bareBy, .ref a_aheadBy, .ref a_isEdge, .ref a_tried, .ref a_stands, .ref a_found, .ref a_foundOn, .ref a_moving, .int v_movingMany, .int v_foundIncome, .int v_foundMoves])), (a_a, .inl (cI, 180, .inl v_a)), (a_kept, .inl (cI, 1080, .inl v_kept))] H locs → lv_has ls 4 [(0, .ref a_this), (1, .int x1), (2, .int x2), (3, .int x3)] → W p l e rmX6_setClash s m args below meth c H locs 0 0 (MQ below (zQv D (zT cI cZ cM) [(a_this, .inr (6, [.ref a_a, .ref a_fresh, .ref a_kept, .int res.2.2.1, .int res.2.2.2, .ref a_buffer, .int v_buffered, .int v_size, .int v_at, .int v_behind, .int v_kind, .int v_wrong, .int v_wrongAt, .int v_errorAt, .long v_number, .ref a_best, .ref a_rentBy, .ref a_bareBy, .ref a_aheadBy, .ref a_isEdge, .ref a_tried, .ref a_stands, .ref a_found, .ref a_foundOn, .ref a_moving, .int v_movingMany, .int v_foundIncome, .int v_foundMoves])), (a_a, .inl (cI, 180, .inl res.1)), (a_kept, .inl (cI, 1080, .inl res.2.1))] A) args s 0 0 A) (F0 m 31 ls [.int t1, .ref a_this]) := by
  obtain ⟨⟨hx, hb, hml, hown, hts⟩, hr, hlocks⟩ := id E
  intro t1 x1 x2 x3 v_a v_kept v_keptMany v_thrown hf H locs ls hw hl
  unfold f_X6_setClash_31 at hf
  refine z_put (ws' := [(a_this, .inr (6, [.ref a_a, .ref a_fresh, .ref a_kept, .int v_keptMany, .int t1, .ref a_buffer, .int v_buffered, .int v_size, .int v_at, .int v_behind, .int v_kind, .int v_wrong, .int v_wrongAt, .int v_errorAt, .long v_number, .ref a_best, .ref a_rentBy, .ref a_bareBy, .ref a_aheadBy, .ref a_isEdge, .ref a_tried, .ref a_stands, .ref a_found, .ref a_foundOn, .ref a_moving, .int v_movingMany, .int v_foundIncome, .int v_foundMoves])), (a_a, .inl (cI, 180, .inl v_a)), (a_kept, .inl (cI, 1080, .inl v_kept))]) E.1 hw in_wsX60 tyX6 tyX6_ok nmX6 0 rfl rfl 4 (z_lt rfl) mw_594 rfl rfl rfl (z_lt rfl) rfl dX6_setClash_31 (fun H locs hw => ?_)
  refine lv_aload_n hx hb dX6_setClash_34 rfl (lv_at hl 0 rfl) ?_
  refine z_get E.1 hw in_wsX60 0 rfl rfl 4 (z_lt rfl) mw_594 (v := .int t1) rfl dX6_setClash_35 ?_
  refine lv_if_le (tgt := 42) hx hb dX6_setClash_38 (by decide) (fun hc => ?_) (fun hc => ?_)
  · have hf := oI_pos hc hf
    refine lv_aload_n hx hb dX6_setClash_42 rfl (lv_at hl 0 rfl) ?_
    obtain ⟨v_3, v_4, h_5, hf⟩ := oB2_elim hf
    refine z_callVv (ws' := [(a_this, .inr (6, [.ref a_a, .ref a_fresh, .ref a_kept, .int v_4, .int t1, .ref a_buffer, .int v_buffered, .int v_size, .int v_at, .int v_behind, .int v_kind, .int v_wrong, .int v_wrongAt, .int v_errorAt, .long v_number, .ref a_best, .ref a_rentBy, .ref a_bareBy, .ref a_aheadBy, .ref a_isEdge, .ref a_tried, .ref a_stands, .ref a_found, .ref a_foundOn, .ref a_moving, .int v_movingMany, .int v_foundIncome, .int v_foundMoves])), (a_a, .inl (cI, 180, .inl v_a)), (a_kept, .inl (cI, 1080, .inl v_3))]) (wr := []) (As := []) (rest := []) E.1 hl hw (c_X6_keeps h_5) (cwV 0 hts (z_gV mw_599 mw_600 mw_601 mw_597 mw_602) rfl rfl rfl (by decide +kernel) ⟨(Nat.le_of_ble_eq_true rfl), (Nat.le_of_ble_eq_true rfl)⟩) 3 [(0, 3)] [] rfl rfl rfl rfl rfl rfl (by decide +kernel) rfl (q0 := 0) rfl rfl rfl (Nat.le_of_ble_eq_true rfl) dX6_setClash_43 ⟨Nat.le_of_ble_eq_true rfl, Nat.le_of_ble_eq_true rfl⟩ (fun H locs hw => ?_)
    refine lv_aload_n hx hb dX6_setClash_46 rfl (lv_at hl 0 rfl) ?_
    refine z_get E.1 hw in_wsX60 0 rfl rfl 0 (z_lt rfl) mw_593 (v := .ref a_a) rfl dX6_setClash_47 ?_
    refine lv_iload_n hx hb dX6_setClash_50 rfl (lv_at hl 1 rfl) ?_
    refine lv_iload_n hx hb dX6_setClash_51 rfl (lv_at hl 2 rfl) ?_
    refine lv_iload_n hx hb dX6_setClash_52 rfl (lv_at hl 3 rfl) ?_
    refine lv_if_eq (tgt := 60) hx hb dX6_setClash_53 (by decide) (fun hc => ?_) (fun hc => ?_)
    · have hf := oI_pos hc hf
      refine lv_iconst (v := 0) hx hb dX6_setClash_60 (by decide) ?_
      exact w_X6_setClash_61 E  _ _ _ _ _ _ _ hf _ _ _ hw (lv_sub hl [] rfl)
    · have hf := oI_neg hc hf
      refine lv_iconst (v := 1) hx hb dX6_setClash_56 (by decide) ?_
      refine lv_goto (tgt := 61) hx hb dX6_setClash_57 (by decide) ?_
      exact w_X6_setClash_61 E  _ _ _ _ _ _ _ hf _ _ _ hw (lv_sub hl [] rfl)
  · have hf := oI_neg hc hf
    cases hf
    exact z_vret E rfl hw dX6_setClash_41
set_option maxHeartbeats 4000000 in
set_option maxRecDepth 100000 in
theorem w_X6_setClash_30 {n : Nat} (E : zE p s m args meth c cX6_setClash 4 none zwX6_setClash RX6) : ∀ (x1 : Int32) (x2 : Int32) (x3 : Int32) (v_a : Nat → Int32) (v_kept : Nat → Int32) (v_keptMany : Int32) (v_thrown : Int32), f_X6_setClash_30 n x1 x2 x3 v_a v_kept v_keptMany v_thrown = some res → ∀ (H : Heap) (locs : List Loc) (ls : Array Slot), zW D (zT cI cZ cM) A s [(a_this, .inr (6, [.ref a_a, .ref a_fresh, .ref a_kept, .int v_keptMany, .int v_thrown, .ref a_buffer, .int v_buffered, .int v_size, .int v_at, .int v_behind, .int v_kind, .int v_wrong, .int v_wrongAt, .int v_errorAt, .long v_number, .ref a_best, .ref a_rentBy, .ref a_bareBy, .ref a_aheadBy, .ref a_isEdge, .ref a_tried, .ref a_stands, .ref a_found, .ref a_foundOn, .ref a_moving, .int v_movingMany, .int v_foundIncome, .int v_foundMoves])), (a_a, .inl (cI, 180, .inl v_a)), (a_kept, .inl (cI, 1080, .inl v_kept))] H locs → lv_has ls 4 [(0, .ref a_this), (1, .int x1), (2, .int x2), (3, .int x3)] → W p l e rmX6_setClash s m args below meth c H locs 0 0 (MQ below (zQv D (zT cI cZ cM) [(a_this, .inr (6, [.ref a_a, .ref a_fresh, .ref a_kept, .int res.2.2.1, .int res.2.2.2, .ref a_buffer, .int v_buffered, .int v_size, .int v_at, .int v_behind, .int v_kind, .int v_wrong, .int v_wrongAt, .int v_errorAt, .long v_number, .ref a_best, .ref a_rentBy, .ref a_bareBy, .ref a_aheadBy, .ref a_isEdge, .ref a_tried, .ref a_stands, .ref a_found, .ref a_foundOn, .ref a_moving, .int v_movingMany, .int v_foundIncome, .int v_foundMoves])), (a_a, .inl (cI, 180, .inl res.1)), (a_kept, .inl (cI, 1080, .inl res.2.1))] A) args s 0 0 A) (F0 m 30 ls [.ref a_this]) := by
  obtain ⟨⟨hx, hb, hml, hown, hts⟩, hr, hlocks⟩ := id E
  intro x1 x2 x3 v_a v_kept v_keptMany v_thrown hf H locs ls hw hl
  unfold f_X6_setClash_30 at hf
  refine lv_iconst (v := 0) hx hb dX6_setClash_30 (by decide) ?_
  exact w_X6_setClash_31 E  _ _ _ _ _ _ _ _ hf _ _ _ hw (lv_sub hl [0, 1, 2, 3] rfl)
set_option maxHeartbeats 4000000 in
set_option maxRecDepth 100000 in
theorem c_X6_setClash {l : Launch} {D : va_G} {cI cZ cM : ClassId} {a_this a_a a_fresh a_kept a_buffer a_best a_rentBy a_bareBy a_aheadBy a_isEdge a_tried a_stands a_found a_foundOn a_moving : Nat} {v_buffered : Int32} {v_size : Int32} {v_at : Int32} {v_behind : Int32} {v_kind : Int32} {v_wrong : Int32} {v_wrongAt : Int32} {v_errorAt : Int32} {v_number : Int64} {v_movingMany : Int32} {v_foundIncome : Int32} {v_foundMoves : Int32} {res : (Nat → Int32) × (Nat → Int32) × Int32 × Int32} {sz : Nat} {n : Nat} {v_a : Nat → Int32} {v_kept : Nat → Int32} {v_keptMany : Int32} {v_thrown : Int32} {x1 : Int32} {x2 : Int32} {x3 : Int32} (hf : f_X6_setClash n v_a v_kept v_keptMany v_thrown x1 x2 x3 = some res) : Met l yX6_setClash zwX6_setClash rmX6_setClash (zPc D (zT cI cZ cM) [.ref a_this, .int x1, .int x2, .int x3] [(a_this, .inr (6, [.ref a_a, .ref a_fresh, .ref a_kept, .int v_keptMany, .int v_thrown, .ref a_buffer, .int v_buffered, .int v_size, .int v_at, .int v_behind, .int v_kind, .int v_wrong, .int v_wrongAt, .int v_errorAt, .long v_number, .ref a_best, .ref a_rentBy, .ref a_bareBy, .ref a_aheadBy, .ref a_isEdge, .ref a_tried, .ref a_stands, .ref a_found, .ref a_foundOn, .ref a_moving, .int v_movingMany, .int v_foundIncome, .int v_foundMoves])), (a_a, .inl (cI, 180, .inl v_a)), (a_kept, .inl (cI, 1080, .inl v_kept))] sz) (zQv D (zT cI cZ cM) [(a_this, .inr (6, [.ref a_a, .ref a_fresh, .ref a_kept, .int res.2.2.1, .int res.2.2.2, .ref a_buffer, .int v_buffered, .int v_size, .int v_at, .int v_behind, .int v_kind, .int v_wrong, .int v_wrongAt, .int v_errorAt, .long v_number, .ref a_best, .ref a_rentBy, .ref a_bareBy, .ref a_aheadBy, .ref a_isEdge, .ref a_tried, .ref a_stands, .ref a_found, .ref a_foundOn, .ref a_moving, .int v_movingMany, .int v_foundIncome, .int v_foundMoves])), (a_a, .inl (cI, 180, .inl res.1)), (a_kept, .inl (cI, 1080, .inl res.2.1))] (va_A [(a_this, .inr (6, [.ref a_a, .ref a_fresh, .ref a_kept, .int v_keptMany, .int v_thrown, .ref a_buffer, .int v_buffered, .int v_size, .int v_at, .int v_behind, .int v_kind, .int v_wrong, .int v_wrongAt, .int v_errorAt, .long v_number, .ref a_best, .ref a_rentBy, .ref a_bareBy, .ref a_aheadBy, .ref a_isEdge, .ref a_tried, .ref a_stands, .ref a_found, .ref a_foundOn, .ref a_moving, .int v_movingMany, .int v_foundIncome, .int v_foundMoves])), (a_a, .inl (cI, 180, .inl v_a)), (a_kept, .inl (cI, 1080, .inl v_kept))] sz)) 0 0 (va_A [(a_this, .inr (6, [.ref a_a, .ref a_fresh, .ref a_kept, .int v_keptMany, .int v_thrown, .ref a_buffer, .int v_buffered, .int v_size, .int v_at, .int v_behind, .int v_kind, .int v_wrong, .int v_wrongAt, .int v_errorAt, .long v_number, .ref a_best, .ref a_rentBy, .ref a_bareBy, .ref a_aheadBy, .ref a_isEdge, .ref a_tried, .ref a_stands, .ref a_found, .ref a_foundOn, .ref a_moving, .int v_movingMany, .int v_foundIncome, .int v_foundMoves])), (a_a, .inl (cI, 180, .inl v_a)), (a_kept, .inl (cI, 1080, .inl v_kept))] sz) := by
  refine z_met (cc := cX6_setClash) (maxL := 4) (ret := none) (by decide) rfl (Nat.le_of_ble_eq_true rfl) ?_
  intro p e s m below meth c ls E hsz hw hl
  obtain ⟨⟨hx, hb, hml, hown, hts⟩, hr, hlocks⟩ := id E
  have hl : lv_has ls 4 [(0, .ref a_this), (1, .int x1), (2, .int x2), (3, .int x3)] := hl
  unfold f_X6_setClash at hf
  refine lv_aload_n hx hb dX6_setClash_0 rfl (lv_at hl 0 rfl) ?_
  refine lv_iload_n hx hb dX6_setClash_1 rfl (lv_at hl 1 rfl) ?_
  refine lv_iload_n hx hb dX6_setClash_2 rfl (lv_at hl 2 rfl) ?_
  obtain ⟨r_6, h_7, hf⟩ := oB_elim hf
  refine z_callSi (ws' := [(a_this, .inr (6, [.ref a_a, .ref a_fresh, .ref a_kept, .int v_keptMany, .int v_thrown, .ref a_buffer, .int v_buffered, .int v_size, .int v_at, .int v_behind, .int v_kind, .int v_wrong, .int v_wrongAt, .int v_errorAt, .long v_number, .ref a_best, .ref a_rentBy, .ref a_bareBy, .ref a_aheadBy, .ref a_isEdge, .ref a_tried, .ref a_stands, .ref a_found, .ref a_foundOn, .ref a_moving, .int v_movingMany, .int v_foundIncome, .int v_foundMoves])), (a_a, .inl (cI, 180, .inl v_a)), (a_kept, .inl (cI, 1080, .inl v_kept))]) (wr := [(a_this, .inr (6, [.ref a_a, .ref a_fresh, .ref a_kept, .int v_keptMany, .int v_thrown, .ref a_buffer, .int v_buffered, .int v_size, .int v_at, .int v_behind, .int v_kind, .int v_wrong, .int v_wrongAt, .int v_errorAt, .long v_number, .ref a_best, .ref a_rentBy, .ref a_bareBy, .ref a_aheadBy, .ref a_isEdge, .ref a_tried, .ref a_stands, .ref a_found, .ref a_foundOn, .ref a_moving, .int v_movingMany, .int v_foundIncome, .int v_foundMoves])), (a_a, .inl (cI, 180, .inl v_a)), (a_kept, .inl (cI, 1080, .inl v_kept))]) (As := [.int x1, .int x2]) (rest := [.ref a_this]) E.1 hl hw (c_X6_areTrades h_7) (va_cwS 2 hts (z_gS mw_692 mw_693 mw_597 mw_617) rfl rfl rfl (by decide +kernel) ⟨(Nat.le_of_ble_eq_true rfl), (Nat.le_of_ble_eq_true rfl)⟩) 3 [] [(0, 3)] rfl rfl rfl rfl rfl rfl (by decide +kernel) rfl rfl (Nat.le_of_ble_eq_true rfl) dX6_setClash_3 ⟨Nat.le_of_ble_eq_true rfl, Nat.le_of_ble_eq_true rfl⟩ (fun H locs hw => ?_)
  refine lv_if_ne (tgt := 13) hx hb dX6_setClash_6 (by decide) (fun hc => ?_) (fun hc => ?_)
  · have hf := oI_neg hc hf
    refine lv_iload_n hx hb dX6_setClash_13 rfl (lv_at hl 3 rfl) ?_
    refine lv_if_eq (tgt := 30) hx hb dX6_setClash_14 (by decide) (fun hc => ?_) (fun hc => ?_)
    · have hf := oI_pos hc hf
      exact w_X6_setClash_30 E  _ _ _ _ _ _ _ hf _ _ _ hw (lv_sub hl [0, 1, 2, 3] rfl)
    · have hf := oI_neg hc hf
      refine lv_aload_n hx hb dX6_setClash_17 rfl (lv_at hl 0 rfl) ?_
      refine lv_iload_n hx hb dX6_setClash_18 rfl (lv_at hl 1 rfl) ?_
      refine lv_iload_n hx hb dX6_setClash_19 rfl (lv_at hl 2 rfl) ?_
      obtain ⟨r_8, h_9, hf⟩ := oB_elim hf
      refine z_callVi (ws' := [(a_this, .inr (6, [.ref a_a, .ref a_fresh, .ref a_kept, .int v_keptMany, .int v_thrown, .ref a_buffer, .int v_buffered, .int v_size, .int v_at, .int v_behind, .int v_kind, .int v_wrong, .int v_wrongAt, .int v_errorAt, .long v_number, .ref a_best, .ref a_rentBy, .ref a_bareBy, .ref a_aheadBy, .ref a_isEdge, .ref a_tried, .ref a_stands, .ref a_found, .ref a_foundOn, .ref a_moving, .int v_movingMany, .int v_foundIncome, .int v_foundMoves])), (a_a, .inl (cI, 180, .inl v_a)), (a_kept, .inl (cI, 1080, .inl v_kept))]) (wr := [(a_kept, .inl (cI, 1080, .inl v_kept))]) (As := [.int x1, .int x2]) (rest := [.ref a_this]) E.1 hl hw (c_X6_areBeside h_9) (cwV 2 hts (z_gV mw_872 mw_873 mw_874 mw_597 mw_608) rfl rfl rfl (by decide +kernel) ⟨(Nat.le_of_ble_eq_true rfl), (Nat.le_of_ble_eq_true rfl)⟩) 3 [(0, 2)] [(2, 1)] rfl rfl rfl rfl rfl rfl (by decide +kernel) rfl (q0 := 0) rfl rfl rfl (Nat.le_of_ble_eq_true rfl) dX6_setClash_20 ⟨Nat.le_of_ble_eq_true rfl, Nat.le_of_ble_eq_true rfl⟩ (fun H locs hw => ?_)
      refine lv_if_eq (tgt := 30) hx hb dX6_setClash_23 (by decide) (fun hc => ?_) (fun hc => ?_)
      · have hf := oI_pos hc hf
        exact w_X6_setClash_30 E  _ _ _ _ _ _ _ hf _ _ _ hw (lv_sub hl [0, 1, 2, 3] rfl)
      · have hf := oI_neg hc hf
        refine lv_iconst (v := 2) hx hb dX6_setClash_26 (by decide) ?_
        refine lv_goto (tgt := 31) hx hb dX6_setClash_27 (by decide) ?_
        exact w_X6_setClash_31 E  _ _ _ _ _ _ _ _ hf _ _ _ hw (lv_sub hl [0, 1, 2, 3] rfl)
  · have hf := oI_pos hc hf
    refine lv_iconst (v := 1) hx hb dX6_setClash_9 (by decide) ?_
    refine lv_goto (tgt := 31) hx hb dX6_setClash_10 (by decide) ?_
    exact w_X6_setClash_31 E  _ _ _ _ _ _ _ _ hf _ _ _ hw (lv_sub hl [0, 1, 2, 3] rfl)
end
/-! X6_setCovers -/
section
variable {p : Program} {l : Launch} {e : Env} {s : State} {m : MethodId} {args : Array Value} {below : List Frame} {meth : Method} {c : Code} {D : va_G} {A : Nat → Prop} {cI cZ cM : ClassId} {a_this a_a a_fresh a_kept a_buffer a_best a_rentBy a_bareBy a_aheadBy a_isEdge a_tried a_stands a_found a_foundOn a_moving : Nat} {v_buffered : Int32} {v_size : Int32} {v_at : Int32} {v_behind : Int32} {v_kind : Int32} {v_wrong : Int32} {v_wrongAt : Int32} {v_errorAt : Int32} {v_number : Int64} {v_movingMany : Int32} {v_foundIncome : Int32} {v_foundMoves : Int32} {res : Int32 × (Nat → Int32) × (Nat → Int32) × Int32 × Int32}
def rmX6_setCovers : Room := { frames := 2, cells := 0, slots := 0, locals := 46 }
abbrev zwX6_setCovers : List Cond := Cond.code yX6_setCovers cX6_setCovers 3 (some .int) :: wsAll
set_option maxHeartbeats 4000000 in
set_option maxRecDepth 100000 in
theorem w_X6_setCovers_30 {n : Nat} (E : zE p s m args meth c cX6_setCovers 3 (some .int) zwX6_setCovers RX6) : ∀ (t1 : Int32) (x1 : Int32) (v_a : Nat → Int32) (v_kept : Nat → Int32) (v_keptMany : Int32) (v_thrown : Int32), f_X6_setCovers_30 n t1 x1 v_a v_kept v_keptMany v_thrown = some res → ∀ (H : Heap) (locs : List Loc) (ls : Array Slot), zW D (zT cI cZ cM) A s [(a_this, .inr (6, [.ref a_a, .ref a_fresh, .ref a_kept, .int v_keptMany, .int v_thrown, .ref a_buffer, .int v_buffered, .int v_size, .int v_at, .int v_behind, .int v_kind, .int v_wrong, .int v_wrongAt, .int v_errorAt, .long v_number, .ref a_best, .ref a_rentBy, .ref a_bareBy, .ref a_aheadBy, .ref a_isEdge, .ref a_tried, .ref a_stands, .ref a_found, .ref a_foundOn, .ref a_moving, .int v_movingMany, .int v_foundIncome, .int v_foundMoves])), (a_a, .inl (cI, 180, .inl v_a)), (a_kept, .inl (cI, 1080, .inl v_kept))] H locs → lv_has ls 3 [(0, .ref a_this), (1, .int x1)] → W p l e rmX6_setCovers s m args below meth c H locs 0 0 (MQ below (zQi D (zT cI cZ cM) res.1 [(a_this, .inr (6, [.ref a_a, .ref a_fresh, .ref a_kept, .int res.2.2.2.1, .int res.2.2.2.2, .ref a_buffer, .int v_buffered, .int v_size, .int v_at, .int v_behind, .int v_kind, .int v_wrong, .int v_wrongAt, .int v_errorAt, .long v_number, .ref a_best, .ref a_rentBy, .ref a_bareBy, .ref a_aheadBy, .ref a_isEdge, .ref a_tried, .ref a_stands, .ref a_found, .ref a_foundOn, .ref a_moving, .int v_movingMany, .int v_foundIncome, .int v_foundMoves])), (a_a, .inl (cI, 180, .inl res.2.1)), (a_kept, .inl (cI, 1080, .inl res.2.2.1))] A) args s 0 0 A) (F0 m 30 ls [.int t1, .ref a_this]) := by
  obtain ⟨⟨hx, hb, hml, hown, hts⟩, hr, hlocks⟩ := id E
  intro t1 x1 v_a v_kept v_keptMany v_thrown hf H locs ls hw hl
  unfold f_X6_setCovers_30 at hf
  refine z_put (ws' := [(a_this, .inr (6, [.ref a_a, .ref a_fresh, .ref a_kept, .int v_keptMany, .int t1, .ref a_buffer, .int v_buffered, .int v_size, .int v_at, .int v_behind, .int v_kind, .int v_wrong, .int v_wrongAt, .int v_errorAt, .long v_number, .ref a_best, .ref a_rentBy, .ref a_bareBy, .ref a_aheadBy, .ref a_isEdge, .ref a_tried, .ref a_stands, .ref a_found, .ref a_foundOn, .ref a_moving, .int v_movingMany, .int v_foundIncome, .int v_foundMoves])), (a_a, .inl (cI, 180, .inl v_a)), (a_kept, .inl (cI, 1080, .inl v_kept))]) E.1 hw in_wsX60 tyX6 tyX6_ok nmX6 0 rfl rfl 4 (z_lt rfl) mw_594 rfl rfl rfl (z_lt rfl) rfl dX6_setCovers_30 (fun H locs hw => ?_)
  refine lv_aload_n hx hb dX6_setCovers_33 rfl (lv_at hl 0 rfl) ?_
  refine z_get E.1 hw in_wsX60 0 rfl rfl 4 (z_lt rfl) mw_594 (v := .int t1) rfl dX6_setCovers_34 ?_
  refine lv_if_le (tgt := 42) hx hb dX6_setCovers_37 (by decide) (fun hc => ?_) (fun hc => ?_)
  · have hf := oI_pos hc hf
    refine lv_aload_n hx hb dX6_setCovers_42 rfl (lv_at hl 0 rfl) ?_
    obtain ⟨v_1, v_2, h_3, hf⟩ := oB2_elim hf
    refine z_callVv (ws' := [(a_this, .inr (6, [.ref a_a, .ref a_fresh, .ref a_kept, .int v_2, .int t1, .ref a_buffer, .int v_buffered, .int v_size, .int v_at, .int v_behind, .int v_kind, .int v_wrong, .int v_wrongAt, .int v_errorAt, .long v_number, .ref a_best, .ref a_rentBy, .ref a_bareBy, .ref a_aheadBy, .ref a_isEdge, .ref a_tried, .ref a_stands, .ref a_found, .ref a_foundOn, .ref a_moving, .int v_movingMany, .int v_foundIncome, .int v_foundMoves])), (a_a, .inl (cI, 180, .inl v_a)), (a_kept, .inl (cI, 1080, .inl v_1))]) (wr := []) (As := []) (rest := []) E.1 hl hw (c_X6_keeps h_3) (cwV 0 hts (z_gV mw_599 mw_600 mw_601 mw_597 mw_602) rfl rfl rfl (by decide +kernel) ⟨(Nat.le_of_ble_eq_true rfl), (Nat.le_of_ble_eq_true rfl)⟩) 3 [(0, 3)] [] rfl rfl rfl rfl rfl rfl (by decide +kernel) rfl (q0 := 0) rfl rfl rfl (Nat.le_of_ble_eq_true rfl) dX6_setCovers_43 ⟨Nat.le_of_ble_eq_true rfl, Nat.le_of_ble_eq_true rfl⟩ (fun H locs hw => ?_)
    refine lv_aload_n hx hb dX6_setCovers_46 rfl (lv_at hl 0 rfl) ?_
    refine z_get E.1 hw in_wsX60 0 rfl rfl 0 (z_lt rfl) mw_593 (v := .ref a_a) rfl dX6_setCovers_47 ?_
    refine lv_sipush (v := 179) hx hb dX6_setCovers_50 (by decide) ?_
    obtain ⟨h_4, hf⟩ := oA_elim hf
    refine z_iald E.1 hw 1 0 rfl rfl h_4 dX6_setCovers_53 ?_
    obtain ⟨y_5, e_y_5, hf⟩ := oL_elim hf
    refine z_top e_y_5 ?_
    refine lv_istore_n (lv' := [(2, .int y_5), (0, .ref a_this), (1, .int x1)]) hx hb dX6_setCovers_54 rfl hl (z_lt rfl) rfl (fun ls hl => ?_)
    refine lv_aload_n hx hb dX6_setCovers_55 rfl (lv_at hl 1 rfl) ?_
    refine z_get E.1 hw in_wsX60 0 rfl rfl 0 (z_lt rfl) mw_593 (v := .ref a_a) rfl dX6_setCovers_56 ?_
    refine lv_sipush (v := 179) hx hb dX6_setCovers_59 (by decide) ?_
    refine lv_iload_n hx hb dX6_setCovers_62 rfl (lv_at hl 2 rfl) ?_
    obtain ⟨h_6, hf⟩ := oA_elim hf
    obtain ⟨v_7, e_v_7, hf⟩ := oL_elim hf
    refine z_iast (ws' := [(a_this, .inr (6, [.ref a_a, .ref a_fresh, .ref a_kept, .int v_2, .int t1, .ref a_buffer, .int v_buffered, .int v_size, .int v_at, .int v_behind, .int v_kind, .int v_wrong, .int v_wrongAt, .int v_errorAt, .long v_number, .ref a_best, .ref a_rentBy, .ref a_bareBy, .ref a_aheadBy, .ref a_isEdge, .ref a_tried, .ref a_stands, .ref a_found, .ref a_foundOn, .ref a_moving, .int v_movingMany, .int v_foundIncome, .int v_foundMoves])), (a_a, .inl (cI, 180, .inl v_7)), (a_kept, .inl (cI, 1080, .inl v_1))]) E.1 hw 1 0 rfl rfl h_6 (by subst e_v_7; rfl) dX6_setCovers_63 (fun H locs hw => ?_)
    refine lv_iload_n hx hb dX6_setCovers_64 rfl (lv_at hl 0 rfl) ?_
    cases hf
    exact z_iret E rfl hw dX6_setCovers_65
  · have hf := oI_neg hc hf
    refine lv_iconst (v := 0) hx hb dX6_setCovers_40 (by decide) ?_
    cases hf
    exact z_iret E rfl hw dX6_setCovers_41
set_option maxHeartbeats 4000000 in
set_option maxRecDepth 100000 in
theorem c_X6_setCovers {l : Launch} {D : va_G} {cI cZ cM : ClassId} {a_this a_a a_fresh a_kept a_buffer a_best a_rentBy a_bareBy a_aheadBy a_isEdge a_tried a_stands a_found a_foundOn a_moving : Nat} {v_buffered : Int32} {v_size : Int32} {v_at : Int32} {v_behind : Int32} {v_kind : Int32} {v_wrong : Int32} {v_wrongAt : Int32} {v_errorAt : Int32} {v_number : Int64} {v_movingMany : Int32} {v_foundIncome : Int32} {v_foundMoves : Int32} {res : Int32 × (Nat → Int32) × (Nat → Int32) × Int32 × Int32} {sz : Nat} {n : Nat} {v_a : Nat → Int32} {v_kept : Nat → Int32} {v_keptMany : Int32} {v_thrown : Int32} {x1 : Int32} (hf : f_X6_setCovers n v_a v_kept v_keptMany v_thrown x1 = some res) : Met l yX6_setCovers zwX6_setCovers rmX6_setCovers (zPc D (zT cI cZ cM) [.ref a_this, .int x1] [(a_this, .inr (6, [.ref a_a, .ref a_fresh, .ref a_kept, .int v_keptMany, .int v_thrown, .ref a_buffer, .int v_buffered, .int v_size, .int v_at, .int v_behind, .int v_kind, .int v_wrong, .int v_wrongAt, .int v_errorAt, .long v_number, .ref a_best, .ref a_rentBy, .ref a_bareBy, .ref a_aheadBy, .ref a_isEdge, .ref a_tried, .ref a_stands, .ref a_found, .ref a_foundOn, .ref a_moving, .int v_movingMany, .int v_foundIncome, .int v_foundMoves])), (a_a, .inl (cI, 180, .inl v_a)), (a_kept, .inl (cI, 1080, .inl v_kept))] sz) (zQi D (zT cI cZ cM) res.1 [(a_this, .inr (6, [.ref a_a, .ref a_fresh, .ref a_kept, .int res.2.2.2.1, .int res.2.2.2.2, .ref a_buffer, .int v_buffered, .int v_size, .int v_at, .int v_behind, .int v_kind, .int v_wrong, .int v_wrongAt, .int v_errorAt, .long v_number, .ref a_best, .ref a_rentBy, .ref a_bareBy, .ref a_aheadBy, .ref a_isEdge, .ref a_tried, .ref a_stands, .ref a_found, .ref a_foundOn, .ref a_moving, .int v_movingMany, .int v_foundIncome, .int v_foundMoves])), (a_a, .inl (cI, 180, .inl res.2.1)), (a_kept, .inl (cI, 1080, .inl res.2.2.1))] (va_A [(a_this, .inr (6, [.ref a_a, .ref a_fresh, .ref a_kept, .int v_keptMany, .int v_thrown, .ref a_buffer, .int v_buffered, .int v_size, .int v_at, .int v_behind, .int v_kind, .int v_wrong, .int v_wrongAt, .int v_errorAt, .long v_number, .ref a_best, .ref a_rentBy, .ref a_bareBy, .ref a_aheadBy, .ref a_isEdge, .ref a_tried, .ref a_stands, .ref a_found, .ref a_foundOn, .ref a_moving, .int v_movingMany, .int v_foundIncome, .int v_foundMoves])), (a_a, .inl (cI, 180, .inl v_a)), (a_kept, .inl (cI, 1080, .inl v_kept))] sz)) 0 0 (va_A [(a_this, .inr (6, [.ref a_a, .ref a_fresh, .ref a_kept, .int v_keptMany, .int v_thrown, .ref a_buffer, .int v_buffered, .int v_size, .int v_at, .int v_behind, .int v_kind, .int v_wrong, .int v_wrongAt, .int v_errorAt, .long v_number, .ref a_best, .ref a_rentBy, .ref a_bareBy, .ref a_aheadBy, .ref a_isEdge, .ref a_tried, .ref a_stands, .ref a_found, .ref a_foundOn, .ref a_moving, .int v_movingMany, .int v_foundIncome, .int v_foundMoves])), (a_a, .inl (cI, 180, .inl v_a)), (a_kept, .inl (cI, 1080, .inl v_kept))] sz) := by
  refine z_met (cc := cX6_setCovers) (maxL := 3) (ret := (some .int)) (by decide) rfl (Nat.le_of_ble_eq_true rfl) ?_
  intro p e s m below meth c ls E hsz hw hl
  obtain ⟨⟨hx, hb, hml, hown, hts⟩, hr, hlocks⟩ := id E
  have hl : lv_has ls 3 [(0, .ref a_this), (1, .int x1)] := hl
  unfold f_X6_setCovers at hf
  refine lv_aload_n hx hb dX6_setCovers_0 rfl (lv_at hl 0 rfl) ?_
  refine lv_iload_n hx hb dX6_setCovers_1 rfl (lv_at hl 1 rfl) ?_
  refine lv_i2l hx hb dX6_setCovers_2 rfl ?_
  refine lv_lconst (v := 0) hx hb dX6_setCovers_3 (by decide) ?_
  refine lv_ldc2 (v := 4) hx hb hown (hts _ mw_876) dX6_setCovers_4 ?_
  obtain ⟨r_8, h_9, hf⟩ := oB_elim hf
  refine z_callSi (ws' := [(a_this, .inr (6, [.ref a_a, .ref a_fresh, .ref a_kept, .int v_keptMany, .int v_thrown, .ref a_buffer, .int v_buffered, .int v_size, .int v_at, .int v_behind, .int v_kind, .int v_wrong, .int v_wrongAt, .int v_errorAt, .long v_number, .ref a_best, .ref a_rentBy, .ref a_bareBy, .ref a_aheadBy, .ref a_isEdge, .ref a_tried, .ref a_stands, .ref a_found, .ref a_foundOn, .ref a_moving, .int v_movingMany, .int v_foundIncome, .int v_foundMoves])), (a_a, .inl (cI, 180, .inl v_a)), (a_kept, .inl (cI, 1080, .inl v_kept))]) (wr := [(a_this, .inr (6, [.ref a_a, .ref a_fresh, .ref a_kept, .int v_keptMany, .int v_thrown, .ref a_buffer, .int v_buffered, .int v_size, .int v_at, .int v_behind, .int v_kind, .int v_wrong, .int v_wrongAt, .int v_errorAt, .long v_number, .ref a_best, .ref a_rentBy, .ref a_bareBy, .ref a_aheadBy, .ref a_isEdge, .ref a_tried, .ref a_stands, .ref a_found, .ref a_foundOn, .ref a_moving, .int v_movingMany, .int v_foundIncome, .int v_foundMoves])), (a_a, .inl (cI, 180, .inl v_a)), (a_kept, .inl (cI, 1080, .inl v_kept))]) (As := [.long ((x1).toInt64), .long (0 : Int64), .long (4 : Int64)]) (rest := [.ref a_this]) E.1 hl hw (c_X6_isIn h_9) (va_cwS 3 hts (z_gS mw_595 mw_596 mw_597 mw_598) rfl rfl rfl (by decide +kernel) ⟨(Nat.le_of_ble_eq_true rfl), (Nat.le_of_ble_eq_true rfl)⟩) 3 [] [(0, 3)] rfl rfl rfl rfl rfl rfl (by decide +kernel) rfl rfl (Nat.le_of_ble_eq_true rfl) dX6_setCovers_7 ⟨Nat.le_of_ble_eq_true rfl, Nat.le_of_ble_eq_true rfl⟩ (fun H locs hw => ?_)
  refine lv_if_ne (tgt := 17) hx hb dX6_setCovers_10 (by decide) (fun hc => ?_) (fun hc => ?_)
  · have hf := oI_neg hc hf
    refine lv_iload_n hx hb dX6_setCovers_17 rfl (lv_at hl 1 rfl) ?_
    refine lv_aload_n hx hb dX6_setCovers_18 rfl (lv_at hl 0 rfl) ?_
    obtain ⟨r_10, h_11, hf⟩ := oB_elim hf
    refine z_callVi (ws' := [(a_this, .inr (6, [.ref a_a, .ref a_fresh, .ref a_kept, .int v_keptMany, .int v_thrown, .ref a_buffer, .int v_buffered, .int v_size, .int v_at, .int v_behind, .int v_kind, .int v_wrong, .int v_wrongAt, .int v_errorAt, .long v_number, .ref a_best, .ref a_rentBy, .ref a_bareBy, .ref a_aheadBy, .ref a_isEdge, .ref a_tried, .ref a_stands, .ref a_found, .ref a_foundOn, .ref a_moving, .int v_movingMany, .int v_foundIncome, .int v_foundMoves])), (a_a, .inl (cI, 180, .inl v_a)), (a_kept, .inl (cI, 1080, .inl v_kept))]) (wr := [(a_kept, .inl (cI, 1080, .inl v_kept))]) (As := []) (rest := [.int x1, .ref a_this]) E.1 hl hw (c_X6_usedCovers h_11) (cwV 0 hts (z_gV mw_720 mw_721 mw_722 mw_597 mw_723) rfl rfl rfl (by decide +kernel) ⟨(Nat.le_of_ble_eq_true rfl), (Nat.le_of_ble_eq_true rfl)⟩) 3 [(0, 2)] [(2, 1)] rfl rfl rfl rfl rfl rfl (by decide +kernel) rfl (q0 := 0) rfl rfl rfl (Nat.le_of_ble_eq_true rfl) dX6_setCovers_19 ⟨Nat.le_of_ble_eq_true rfl, Nat.le_of_ble_eq_true rfl⟩ (fun H locs hw => ?_)
    refine lv_icmp_ge (tgt := 29) hx hb dX6_setCovers_22 (by decide) (fun hc => ?_) (fun hc => ?_)
    · have hf := oI_pos hc hf
      refine lv_iconst (v := 0) hx hb dX6_setCovers_29 (by decide) ?_
      exact w_X6_setCovers_30 E  _ _ _ _ _ _ hf _ _ _ hw (lv_sub hl [0, 1] rfl)
    · have hf := oI_neg hc hf
      refine lv_iconst (v := 2) hx hb dX6_setCovers_25 (by decide) ?_
      refine lv_goto (tgt := 30) hx hb dX6_setCovers_26 (by decide) ?_
      exact w_X6_setCovers_30 E  _ _ _ _ _ _ hf _ _ _ hw (lv_sub hl [0, 1] rfl)
  · have hf := oI_pos hc hf
    refine lv_iconst (v := 1) hx hb dX6_setCovers_13 (by decide) ?_
    refine lv_goto (tgt := 30) hx hb dX6_setCovers_14 (by decide) ?_
    exact w_X6_setCovers_30 E  _ _ _ _ _ _ hf _ _ _ hw (lv_sub hl [0, 1] rfl)
end
/-! X6_setRent -/
section
variable {p : Program} {l : Launch} {e : Env} {s : State} {m : MethodId} {args : Array Value} {below : List Frame} {meth : Method} {c : Code} {D : va_G} {A : Nat → Prop} {cI cZ cM : ClassId} {a_this a_a a_fresh a_kept a_buffer a_best a_rentBy a_bareBy a_aheadBy a_isEdge a_tried a_stands a_found a_foundOn a_moving : Nat} {v_buffered : Int32} {v_size : Int32} {v_at : Int32} {v_behind : Int32} {v_kind : Int32} {v_wrong : Int32} {v_wrongAt : Int32} {v_errorAt : Int32} {v_number : Int64} {v_movingMany : Int32} {v_foundIncome : Int32} {v_foundMoves : Int32} {res : Int32 × (Nat → Int32) × (Nat → Int32) × Int32 × Int32}
def rmX6_setRent : Room := { frames := 3, cells := 0, slots := 0, locals := 69 }
abbrev zwX6_setRent : List Cond := Cond.code yX6_setRent cX6_setRent 4 (some .int) :: wsAll
set_option maxHeartbeats 4000000 in
set_option maxRecDepth 100000 in
theorem w_X6_setRent_30 {n : Nat} (E : zE p s m args meth c cX6_setRent 4 (some .int) zwX6_setRent RX6) : ∀ (t1 : Int32) (x1 : Int32) (x2 : Int32) (v_a : Nat → Int32) (v_kept : Nat → Int32) (v_keptMany : Int32) (v_thrown : Int32), f_X6_setRent_30 n t1 x1 x2 v_a v_kept v_keptMany v_thrown = some res → ∀ (H : Heap) (locs : List Loc) (ls : Array Slot), zW D (zT cI cZ cM) A s [(a_this, .inr (6, [.ref a_a, .ref a_fresh, .ref a_kept, .int v_keptMany, .int v_thrown, .ref a_buffer, .int v_buffered, .int v_size, .int v_at, .int v_behind, .int v_kind, .int v_wrong, .int v_wrongAt, .int v_errorAt, .long v_number, .ref a_best, .ref a_rentBy, .ref a_bareBy, .ref a_aheadBy, .ref a_isEdge, .ref a_tried, .ref a_stands, .ref a_found, .ref a_foundOn, .ref a_moving, .int v_movingMany, .int v_foundIncome, .int v_foundMoves])), (a_a, .inl (cI, 180, .inl v_a)), (a_kept, .inl (cI, 1080, .inl v_kept))] H locs → lv_has ls 4 [(0, .ref a_this), (1, .int x1), (2, .int x2)] → W p l e rmX6_setRent s m args below meth c H locs 0 0 (MQ below (zQi D (zT cI cZ cM) res.1 [(a_this, .inr (6, [.ref a_a, .ref a_fresh, .ref a_kept, .int res.2.2.2.1, .int res.2.2.2.2, .ref a_buffer, .int v_buffered, .int v_size, .int v_at, .int v_behind, .int v_kind, .int v_wrong, .int v_wrongAt, .int v_errorAt, .long v_number, .ref a_best, .ref a_rentBy, .ref a_bareBy, .ref a_aheadBy, .ref a_isEdge, .ref a_tried, .ref a_stands, .ref a_found, .ref a_foundOn, .ref a_moving, .int v_movingMany, .int v_foundIncome, .int v_foundMoves])), (a_a, .inl (cI, 180, .inl res.2.1)), (a_kept, .inl (cI, 1080, .inl res.2.2.1))] A) args s 0 0 A) (F0 m 30 ls [.int t1, .ref a_this]) := by
  obtain ⟨⟨hx, hb, hml, hown, hts⟩, hr, hlocks⟩ := id E
  intro t1 x1 x2 v_a v_kept v_keptMany v_thrown hf H locs ls hw hl
  unfold f_X6_setRent_30 at hf
  refine z_put (ws' := [(a_this, .inr (6, [.ref a_a, .ref a_fresh, .ref a_kept, .int v_keptMany, .int t1, .ref a_buffer, .int v_buffered, .int v_size, .int v_at, .int v_behind, .int v_kind, .int v_wrong, .int v_wrongAt, .int v_errorAt, .long v_number, .ref a_best, .ref a_rentBy, .ref a_bareBy, .ref a_aheadBy, .ref a_isEdge, .ref a_tried, .ref a_stands, .ref a_found, .ref a_foundOn, .ref a_moving, .int v_movingMany, .int v_foundIncome, .int v_foundMoves])), (a_a, .inl (cI, 180, .inl v_a)), (a_kept, .inl (cI, 1080, .inl v_kept))]) E.1 hw in_wsX60 tyX6 tyX6_ok nmX6 0 rfl rfl 4 (z_lt rfl) mw_594 rfl rfl rfl (z_lt rfl) rfl dX6_setRent_30 (fun H locs hw => ?_)
  refine lv_aload_n hx hb dX6_setRent_33 rfl (lv_at hl 0 rfl) ?_
  refine z_get E.1 hw in_wsX60 0 rfl rfl 4 (z_lt rfl) mw_594 (v := .int t1) rfl dX6_setRent_34 ?_
  refine lv_if_le (tgt := 42) hx hb dX6_setRent_37 (by decide) (fun hc => ?_) (fun hc => ?_)
  · have hf := oI_pos hc hf
    refine lv_aload_n hx hb dX6_setRent_42 rfl (lv_at hl 0 rfl) ?_
    obtain ⟨v_1, v_2, h_3, hf⟩ := oB2_elim hf
    refine z_callVv (ws' := [(a_this, .inr (6, [.ref a_a, .ref a_fresh, .ref a_kept, .int v_2, .int t1, .ref a_buffer, .int v_buffered, .int v_size, .int v_at, .int v_behind, .int v_kind, .int v_wrong, .int v_wrongAt, .int v_errorAt, .long v_number, .ref a_best, .ref a_rentBy, .ref a_bareBy, .ref a_aheadBy, .ref a_isEdge, .ref a_tried, .ref a_stands, .ref a_found, .ref a_foundOn, .ref a_moving, .int v_movingMany, .int v_foundIncome, .int v_foundMoves])), (a_a, .inl (cI, 180, .inl v_a)), (a_kept, .inl (cI, 1080, .inl v_1))]) (wr := []) (As := []) (rest := []) E.1 hl hw (c_X6_keeps h_3) (cwV 0 hts (z_gV mw_599 mw_600 mw_601 mw_597 mw_602) rfl rfl rfl (by decide +kernel) ⟨(Nat.le_of_ble_eq_true rfl), (Nat.le_of_ble_eq_true rfl)⟩) 3 [(0, 3)] [] rfl rfl rfl rfl rfl rfl (by decide +kernel) rfl (q0 := 0) rfl rfl rfl (Nat.le_of_ble_eq_true rfl) dX6_setRent_43 ⟨Nat.le_of_ble_eq_true rfl, Nat.le_of_ble_eq_true rfl⟩ (fun H locs hw => ?_)
    refine lv_aload_n hx hb dX6_setRent_46 rfl (lv_at hl 0 rfl) ?_
    refine z_get E.1 hw in_wsX60 0 rfl rfl 0 (z_lt rfl) mw_593 (v := .ref a_a) rfl dX6_setRent_47 ?_
    refine lv_iconst (v := 2) hx hb dX6_setRent_50 (by decide) ?_
    refine lv_iload_n hx hb dX6_setRent_51 rfl (lv_at hl 1 rfl) ?_
    refine lv_iadd hx hb dX6_setRent_52 ?_
    refine lv_iload_n hx hb dX6_setRent_53 rfl (lv_at hl 2 rfl) ?_
    obtain ⟨h_4, hf⟩ := oA_elim hf
    obtain ⟨v_5, e_v_5, hf⟩ := oL_elim hf
    refine z_iast (ws' := [(a_this, .inr (6, [.ref a_a, .ref a_fresh, .ref a_kept, .int v_2, .int t1, .ref a_buffer, .int v_buffered, .int v_size, .int v_at, .int v_behind, .int v_kind, .int v_wrong, .int v_wrongAt, .int v_errorAt, .long v_number, .ref a_best, .ref a_rentBy, .ref a_bareBy, .ref a_aheadBy, .ref a_isEdge, .ref a_tried, .ref a_stands, .ref a_found, .ref a_foundOn, .ref a_moving, .int v_movingMany, .int v_foundIncome, .int v_foundMoves])), (a_a, .inl (cI, 180, .inl v_5)), (a_kept, .inl (cI, 1080, .inl v_1))]) E.1 hw 1 0 rfl rfl h_4 (by subst e_v_5; rfl) dX6_setRent_54 (fun H locs hw => ?_)
    refine lv_aload_n hx hb dX6_setRent_55 rfl (lv_at hl 0 rfl) ?_
    refine lv_iload_n hx hb dX6_setRent_56 rfl (lv_at hl 1 rfl) ?_
    obtain ⟨r_6, h_7, hf⟩ := oB_elim hf
    refine z_callVi (ws' := [(a_this, .inr (6, [.ref a_a, .ref a_fresh, .ref a_kept, .int v_2, .int t1, .ref a_buffer, .int v_buffered, .int v_size, .int v_at, .int v_behind, .int v_kind, .int v_wrong, .int v_wrongAt, .int v_errorAt, .long v_number, .ref a_best, .ref a_rentBy, .ref a_bareBy, .ref a_aheadBy, .ref a_isEdge, .ref a_tried, .ref a_stands, .ref a_found, .ref a_foundOn, .ref a_moving, .int v_movingMany, .int v_foundIncome, .int v_foundMoves])), (a_a, .inl (cI, 180, .inl v_5)), (a_kept, .inl (cI, 1080, .inl v_1))]) (wr := [(a_kept, .inl (cI, 1080, .inl v_1))]) (As := [.int x1]) (rest := []) E.1 hl hw (c_X6_on h_7) (cwV 1 hts (z_gV mw_609 mw_610 mw_611 mw_597 mw_612) rfl rfl rfl (by decide +kernel) ⟨(Nat.le_of_ble_eq_true rfl), (Nat.le_of_ble_eq_true rfl)⟩) 3 [(0, 2)] [(2, 1)] rfl rfl rfl rfl rfl rfl (by decide +kernel) rfl (q0 := 0) rfl rfl rfl (Nat.le_of_ble_eq_true rfl) dX6_setRent_57 ⟨Nat.le_of_ble_eq_true rfl, Nat.le_of_ble_eq_true rfl⟩ (fun H locs hw => ?_)
    refine lv_istore_n (lv' := [(3, .int r_6), (0, .ref a_this), (1, .int x1), (2, .int x2)]) hx hb dX6_setRent_60 rfl hl (z_lt rfl) rfl (fun ls hl => ?_)
    refine lv_iload_n hx hb dX6_setRent_61 rfl (lv_at hl 0 rfl) ?_
    refine lv_iconst (v := -1) hx hb dX6_setRent_62 (by decide) ?_
    refine lv_icmp_eq (tgt := 92) hx hb dX6_setRent_63 (by decide) (fun hc => ?_) (fun hc => ?_)
    · have hf := oI_pos hc hf
      refine lv_iconst (v := -1) hx hb dX6_setRent_92 (by decide) ?_
      cases hf
      exact z_iret E rfl hw dX6_setRent_93
    · have hf := oI_neg hc hf
      refine lv_aload_n hx hb dX6_setRent_66 rfl (lv_at hl 1 rfl) ?_
      refine lv_iload_n hx hb dX6_setRent_67 rfl (lv_at hl 0 rfl) ?_
      refine lv_aload_n hx hb dX6_setRent_68 rfl (lv_at hl 1 rfl) ?_
      refine z_get E.1 hw in_wsX60 0 rfl rfl 0 (z_lt rfl) mw_593 (v := .ref a_a) rfl dX6_setRent_69 ?_
      refine lv_bipush (v := 107) hx hb dX6_setRent_72 (by decide) ?_
      refine lv_iload_n hx hb dX6_setRent_74 rfl (lv_at hl 0 rfl) ?_
      refine lv_iadd hx hb dX6_setRent_75 ?_
      obtain ⟨h_8, hf⟩ := oA_elim hf
      refine z_iald E.1 hw 1 0 rfl rfl h_8 dX6_setRent_76 ?_
      obtain ⟨r_9, h_10, hf⟩ := oB_elim hf
      refine z_callVi (ws' := [(a_this, .inr (6, [.ref a_a, .ref a_fresh, .ref a_kept, .int v_2, .int t1, .ref a_buffer, .int v_buffered, .int v_size, .int v_at, .int v_behind, .int v_kind, .int v_wrong, .int v_wrongAt, .int v_errorAt, .long v_number, .ref a_best, .ref a_rentBy, .ref a_bareBy, .ref a_aheadBy, .ref a_isEdge, .ref a_tried, .ref a_stands, .ref a_found, .ref a_foundOn, .ref a_moving, .int v_movingMany, .int v_foundIncome, .int v_foundMoves])), (a_a, .inl (cI, 180, .inl v_5)), (a_kept, .inl (cI, 1080, .inl v_1))]) (wr := [(a_kept, .inl (cI, 1080, .inl v_1))]) (As := [.int r_6, .int (v_5 (((107 : Int32) + r_6)).toNatClampNeg)]) (rest := []) E.1 hl hw (c_X6_rentOf h_10) (cwV 2 hts (z_gV mw_644 mw_645 mw_646 mw_597 mw_647) rfl rfl rfl (by decide +kernel) ⟨(Nat.le_of_ble_eq_true rfl), (Nat.le_of_ble_eq_true rfl)⟩) 3 [(0, 2)] [(2, 1)] rfl rfl rfl rfl rfl rfl (by decide +kernel) rfl (q0 := 0) rfl rfl rfl (Nat.le_of_ble_eq_true rfl) dX6_setRent_77 ⟨Nat.le_of_ble_eq_true rfl, Nat.le_of_ble_eq_true rfl⟩ (fun H locs hw => ?_)
      refine lv_aload_n hx hb dX6_setRent_80 rfl (lv_at hl 1 rfl) ?_
      refine z_get E.1 hw in_wsX60 0 rfl rfl 0 (z_lt rfl) mw_593 (v := .ref a_a) rfl dX6_setRent_81 ?_
      refine lv_bipush (v := 91) hx hb dX6_setRent_84 (by decide) ?_
      refine lv_iload_n hx hb dX6_setRent_86 rfl (lv_at hl 0 rfl) ?_
      refine lv_iadd hx hb dX6_setRent_87 ?_
      obtain ⟨h_11, hf⟩ := oA_elim hf
      refine z_iald E.1 hw 1 0 rfl rfl h_11 dX6_setRent_88 ?_
      refine lv_icmp_gt (tgt := 94) hx hb dX6_setRent_89 (by decide) (fun hc => ?_) (fun hc => ?_)
      · have hf := oI_pos hc hf
        refine lv_aload_n hx hb dX6_setRent_94 rfl (lv_at hl 1 rfl) ?_
        refine z_get E.1 hw in_wsX60 0 rfl rfl 0 (z_lt rfl) mw_593 (v := .ref a_a) rfl dX6_setRent_95 ?_
        refine lv_bipush (v := 107) hx hb dX6_setRent_98 (by decide) ?_
        refine lv_iload_n hx hb dX6_setRent_100 rfl (lv_at hl 0 rfl) ?_
        refine lv_iadd hx hb dX6_setRent_101 ?_
        refine lv_iconst (v := -1) hx hb dX6_setRent_102 (by decide) ?_
        obtain ⟨h_12, hf⟩ := oA_elim hf
        obtain ⟨v_13, e_v_13, hf⟩ := oL_elim hf
        refine z_iast (ws' := [(a_this, .inr (6, [.ref a_a, .ref a_fresh, .ref a_kept, .int v_2, .int t1, .ref a_buffer, .int v_buffered, .int v_size, .int v_at, .int v_behind, .int v_kind, .int v_wrong, .int v_wrongAt, .int v_errorAt, .long v_number, .ref a_best, .ref a_rentBy, .ref a_bareBy, .ref a_aheadBy, .ref a_isEdge, .ref a_tried, .ref a_stands, .ref a_found, .ref a_foundOn, .ref a_moving, .int v_movingMany, .int v_foundIncome, .int v_foundMoves])), (a_a, .inl (cI, 180, .inl v_13)), (a_kept, .inl (cI, 1080, .inl v_1))]) E.1 hw 1 0 rfl rfl h_12 (by subst e_v_13; rfl) dX6_setRent_103 (fun H locs hw => ?_)
        refine lv_iload_n hx hb dX6_setRent_104 rfl (lv_at hl 0 rfl) ?_
        cases hf
        exact z_iret E rfl hw dX6_setRent_105
      · have hf := oI_neg hc hf
        refine lv_iconst (v := -1) hx hb dX6_setRent_92 (by decide) ?_
        cases hf
        exact z_iret E rfl hw dX6_setRent_93
  · have hf := oI_neg hc hf
    refine lv_iconst (v := 0) hx hb dX6_setRent_40 (by decide) ?_
    cases hf
    exact z_iret E rfl hw dX6_setRent_41
set_option maxHeartbeats 4000000 in
set_option maxRecDepth 100000 in
theorem c_X6_setRent {l : Launch} {D : va_G} {cI cZ cM : ClassId} {a_this a_a a_fresh a_kept a_buffer a_best a_rentBy a_bareBy a_aheadBy a_isEdge a_tried a_stands a_found a_foundOn a_moving : Nat} {v_buffered : Int32} {v_size : Int32} {v_at : Int32} {v_behind : Int32} {v_kind : Int32} {v_wrong : Int32} {v_wrongAt : Int32} {v_errorAt : Int32} {v_number : Int64} {v_movingMany : Int32} {v_foundIncome : Int32} {v_foundMoves : Int32} {res : Int32 × (Nat → Int32) × (Nat → Int32) × Int32 × Int32} {sz : Nat} {n : Nat} {v_a : Nat → Int32} {v_kept : Nat → Int32} {v_keptMany : Int32} {v_thrown : Int32} {x1 : Int32} {x2 : Int32} (hf : f_X6_setRent n v_a v_kept v_keptMany v_thrown x1 x2 = some res) : Met l yX6_setRent zwX6_setRent rmX6_setRent (zPc D (zT cI cZ cM) [.ref a_this, .int x1, .int x2] [(a_this, .inr (6, [.ref a_a, .ref a_fresh, .ref a_kept, .int v_keptMany, .int v_thrown, .ref a_buffer, .int v_buffered, .int v_size, .int v_at, .int v_behind, .int v_kind, .int v_wrong, .int v_wrongAt, .int v_errorAt, .long v_number, .ref a_best, .ref a_rentBy, .ref a_bareBy, .ref a_aheadBy, .ref a_isEdge, .ref a_tried, .ref a_stands, .ref a_found, .ref a_foundOn, .ref a_moving, .int v_movingMany, .int v_foundIncome, .int v_foundMoves])), (a_a, .inl (cI, 180, .inl v_a)), (a_kept, .inl (cI, 1080, .inl v_kept))] sz) (zQi D (zT cI cZ cM) res.1 [(a_this, .inr (6, [.ref a_a, .ref a_fresh, .ref a_kept, .int res.2.2.2.1, .int res.2.2.2.2, .ref a_buffer, .int v_buffered, .int v_size, .int v_at, .int v_behind, .int v_kind, .int v_wrong, .int v_wrongAt, .int v_errorAt, .long v_number, .ref a_best, .ref a_rentBy, .ref a_bareBy, .ref a_aheadBy, .ref a_isEdge, .ref a_tried, .ref a_stands, .ref a_found, .ref a_foundOn, .ref a_moving, .int v_movingMany, .int v_foundIncome, .int v_foundMoves])), (a_a, .inl (cI, 180, .inl res.2.1)), (a_kept, .inl (cI, 1080, .inl res.2.2.1))] (va_A [(a_this, .inr (6, [.ref a_a, .ref a_fresh, .ref a_kept, .int v_keptMany, .int v_thrown, .ref a_buffer, .int v_buffered, .int v_size, .int v_at, .int v_behind, .int v_kind, .int v_wrong, .int v_wrongAt, .int v_errorAt, .long v_number, .ref a_best, .ref a_rentBy, .ref a_bareBy, .ref a_aheadBy, .ref a_isEdge, .ref a_tried, .ref a_stands, .ref a_found, .ref a_foundOn, .ref a_moving, .int v_movingMany, .int v_foundIncome, .int v_foundMoves])), (a_a, .inl (cI, 180, .inl v_a)), (a_kept, .inl (cI, 1080, .inl v_kept))] sz)) 0 0 (va_A [(a_this, .inr (6, [.ref a_a, .ref a_fresh, .ref a_kept, .int v_keptMany, .int v_thrown, .ref a_buffer, .int v_buffered, .int v_size, .int v_at, .int v_behind, .int v_kind, .int v_wrong, .int v_wrongAt, .int v_errorAt, .long v_number, .ref a_best, .ref a_rentBy, .ref a_bareBy, .ref a_aheadBy, .ref a_isEdge, .ref a_tried, .ref a_stands, .ref a_found, .ref a_foundOn, .ref a_moving, .int v_movingMany, .int v_foundIncome, .int v_foundMoves])), (a_a, .inl (cI, 180, .inl v_a)), (a_kept, .inl (cI, 1080, .inl v_kept))] sz) := by
  refine z_met (cc := cX6_setRent) (maxL := 4) (ret := (some .int)) (by decide) rfl (Nat.le_of_ble_eq_true rfl) ?_
  intro p e s m below meth c ls E hsz hw hl
  obtain ⟨⟨hx, hb, hml, hown, hts⟩, hr, hlocks⟩ := id E
  have hl : lv_has ls 4 [(0, .ref a_this), (1, .int x1), (2, .int x2)] := hl
  unfold f_X6_setRent at hf
  refine lv_aload_n hx hb dX6_setRent_0 rfl (lv_at hl 0 rfl) ?_
  refine lv_aload_n hx hb dX6_setRent_1 rfl (lv_at hl 0 rfl) ?_
  refine lv_iload_n hx hb dX6_setRent_2 rfl (lv_at hl 1 rfl) ?_
  obtain ⟨r_14, h_15, hf⟩ := oB_elim hf
  refine z_callVi (ws' := [(a_this, .inr (6, [.ref a_a, .ref a_fresh, .ref a_kept, .int v_keptMany, .int v_thrown, .ref a_buffer, .int v_buffered, .int v_size, .int v_at, .int v_behind, .int v_kind, .int v_wrong, .int v_wrongAt, .int v_errorAt, .long v_number, .ref a_best, .ref a_rentBy, .ref a_bareBy, .ref a_aheadBy, .ref a_isEdge, .ref a_tried, .ref a_stands, .ref a_found, .ref a_foundOn, .ref a_moving, .int v_movingMany, .int v_foundIncome, .int v_foundMoves])), (a_a, .inl (cI, 180, .inl v_a)), (a_kept, .inl (cI, 1080, .inl v_kept))]) (wr := [(a_kept, .inl (cI, 1080, .inl v_kept))]) (As := [.int x1]) (rest := [.ref a_this]) E.1 hl hw (c_X6_isPitch h_15) (cwV 1 hts (z_gV mw_664 mw_665 mw_666 mw_597 mw_667) rfl rfl rfl (by decide +kernel) ⟨(Nat.le_of_ble_eq_true rfl), (Nat.le_of_ble_eq_true rfl)⟩) 3 [(0, 2)] [(2, 1)] rfl rfl rfl rfl rfl rfl (by decide +kernel) rfl (q0 := 0) rfl rfl rfl (Nat.le_of_ble_eq_true rfl) dX6_setRent_3 ⟨Nat.le_of_ble_eq_true rfl, Nat.le_of_ble_eq_true rfl⟩ (fun H locs hw => ?_)
  refine lv_if_ne (tgt := 13) hx hb dX6_setRent_6 (by decide) (fun hc => ?_) (fun hc => ?_)
  · have hf := oI_neg hc hf
    refine lv_iload_n hx hb dX6_setRent_13 rfl (lv_at hl 2 rfl) ?_
    refine lv_i2l hx hb dX6_setRent_14 rfl ?_
    refine lv_lconst (v := 1) hx hb dX6_setRent_15 (by decide) ?_
    refine lv_ldc2 (v := 999) hx hb hown (hts _ mw_845) dX6_setRent_16 ?_
    obtain ⟨r_16, h_17, hf⟩ := oB_elim hf
    refine z_callSi (ws' := [(a_this, .inr (6, [.ref a_a, .ref a_fresh, .ref a_kept, .int v_keptMany, .int v_thrown, .ref a_buffer, .int v_buffered, .int v_size, .int v_at, .int v_behind, .int v_kind, .int v_wrong, .int v_wrongAt, .int v_errorAt, .long v_number, .ref a_best, .ref a_rentBy, .ref a_bareBy, .ref a_aheadBy, .ref a_isEdge, .ref a_tried, .ref a_stands, .ref a_found, .ref a_foundOn, .ref a_moving, .int v_movingMany, .int v_foundIncome, .int v_foundMoves])), (a_a, .inl (cI, 180, .inl v_a)), (a_kept, .inl (cI, 1080, .inl v_kept))]) (wr := [(a_this, .inr (6, [.ref a_a, .ref a_fresh, .ref a_kept, .int v_keptMany, .int v_thrown, .ref a_buffer, .int v_buffered, .int v_size, .int v_at, .int v_behind, .int v_kind, .int v_wrong, .int v_wrongAt, .int v_errorAt, .long v_number, .ref a_best, .ref a_rentBy, .ref a_bareBy, .ref a_aheadBy, .ref a_isEdge, .ref a_tried, .ref a_stands, .ref a_found, .ref a_foundOn, .ref a_moving, .int v_movingMany, .int v_foundIncome, .int v_foundMoves])), (a_a, .inl (cI, 180, .inl v_a)), (a_kept, .inl (cI, 1080, .inl v_kept))]) (As := [.long ((x2).toInt64), .long (1 : Int64), .long (999 : Int64)]) (rest := [.ref a_this]) E.1 hl hw (c_X6_isIn h_17) (va_cwS 3 hts (z_gS mw_595 mw_596 mw_597 mw_598) rfl rfl rfl (by decide +kernel) ⟨(Nat.le_of_ble_eq_true rfl), (Nat.le_of_ble_eq_true rfl)⟩) 3 [] [(0, 3)] rfl rfl rfl rfl rfl rfl (by decide +kernel) rfl rfl (Nat.le_of_ble_eq_true rfl) dX6_setRent_19 ⟨Nat.le_of_ble_eq_true rfl, Nat.le_of_ble_eq_true rfl⟩ (fun H locs hw => ?_)
    refine lv_if_ne (tgt := 29) hx hb dX6_setRent_22 (by decide) (fun hc => ?_) (fun hc => ?_)
    · have hf := oI_neg hc hf
      refine lv_iconst (v := 0) hx hb dX6_setRent_29 (by decide) ?_
      exact w_X6_setRent_30 E  _ _ _ _ _ _ _ hf _ _ _ hw (lv_sub hl [0, 1, 2] rfl)
    · have hf := oI_pos hc hf
      refine lv_iconst (v := 2) hx hb dX6_setRent_25 (by decide) ?_
      refine lv_goto (tgt := 30) hx hb dX6_setRent_26 (by decide) ?_
      exact w_X6_setRent_30 E  _ _ _ _ _ _ _ hf _ _ _ hw (lv_sub hl [0, 1, 2] rfl)
  · have hf := oI_pos hc hf
    refine lv_iconst (v := 1) hx hb dX6_setRent_9 (by decide) ?_
    refine lv_goto (tgt := 30) hx hb dX6_setRent_10 (by decide) ?_
    exact w_X6_setRent_30 E  _ _ _ _ _ _ _ hf _ _ _ hw (lv_sub hl [0, 1, 2] rfl)
end
/-! X6_start -/
section
variable {p : Program} {l : Launch} {e : Env} {s : State} {m : MethodId} {args : Array Value} {below : List Frame} {meth : Method} {c : Code} {D : va_G} {A : Nat → Prop} {cI cZ cM : ClassId} {a_this a_a a_fresh a_kept a_buffer a_best a_rentBy a_bareBy a_aheadBy a_isEdge a_tried a_stands a_found a_foundOn a_moving : Nat} {v_keptMany : Int32} {v_buffered : Int32} {v_size : Int32} {v_at : Int32} {v_behind : Int32} {v_kind : Int32} {v_wrong : Int32} {v_wrongAt : Int32} {v_errorAt : Int32} {v_number : Int64} {v_movingMany : Int32} {v_foundIncome : Int32} {v_foundMoves : Int32} {res : Int32 × Int32}
def rmX6_start : Room := { frames := 3, cells := 0, slots := 0, locals := 68 }
abbrev zwX6_start : List Cond := Cond.code yX6_start cX6_start 2 (some .int) :: wsAll
set_option maxHeartbeats 4000000 in
set_option maxRecDepth 100000 in
theorem c_X6_start {l : Launch} {D : va_G} {cI cZ cM : ClassId} {a_this a_a a_fresh a_kept a_buffer a_best a_rentBy a_bareBy a_aheadBy a_isEdge a_tried a_stands a_found a_foundOn a_moving : Nat} {v_keptMany : Int32} {v_buffered : Int32} {v_size : Int32} {v_at : Int32} {v_behind : Int32} {v_kind : Int32} {v_wrong : Int32} {v_wrongAt : Int32} {v_errorAt : Int32} {v_number : Int64} {v_movingMany : Int32} {v_foundIncome : Int32} {v_foundMoves : Int32} {res : Int32 × Int32} {sz : Nat} {v_a : Nat → Int32} {v_thrown : Int32} {x1 : Int32} (hf : f_X6_start v_a v_thrown x1 = some res) : Met l yX6_start zwX6_start rmX6_start (zPc D (zT cI cZ cM) [.ref a_this, .int x1] [(a_this, .inr (6, [.ref a_a, .ref a_fresh, .ref a_kept, .int v_keptMany, .int v_thrown, .ref a_buffer, .int v_buffered, .int v_size, .int v_at, .int v_behind, .int v_kind, .int v_wrong, .int v_wrongAt, .int v_errorAt, .long v_number, .ref a_best, .ref a_rentBy, .ref a_bareBy, .ref a_aheadBy, .ref a_isEdge, .ref a_tried, .ref a_stands, .ref a_found, .ref a_foundOn, .ref a_moving, .int v_movingMany, .int v_foundIncome, .int v_foundMoves])), (a_a, .inl (cI, 180, .inl v_a))] sz) (zQi D (zT cI cZ cM) res.1 [(a_this, .inr (6, [.ref a_a, .ref a_fresh, .ref a_kept, .int v_keptMany, .int res.2, .ref a_buffer, .int v_buffered, .int v_size, .int v_at, .int v_behind, .int v_kind, .int v_wrong, .int v_wrongAt, .int v_errorAt, .long v_number, .ref a_best, .ref a_rentBy, .ref a_bareBy, .ref a_aheadBy, .ref a_isEdge, .ref a_tried, .ref a_stands, .ref a_found, .ref a_foundOn, .ref a_moving, .int v_movingMany, .int v_foundIncome, .int v_foundMoves])), (a_a, .inl (cI, 180, .inl v_a))] (va_A [(a_this, .inr (6, [.ref a_a, .ref a_fresh, .ref a_kept, .int v_keptMany, .int v_thrown, .ref a_buffer, .int v_buffered, .int v_size, .int v_at, .int v_behind, .int v_kind, .int v_wrong, .int v_wrongAt, .int v_errorAt, .long v_number, .ref a_best, .ref a_rentBy, .ref a_bareBy, .ref a_aheadBy, .ref a_isEdge, .ref a_tried, .ref a_stands, .ref a_found, .ref a_foundOn, .ref a_moving, .int v_movingMany, .int v_foundIncome, .int v_foundMoves])), (a_a, .inl (cI, 180, .inl v_a))] sz)) 0 0 (va_A [(a_this, .inr (6, [.ref a_a, .ref a_fresh, .ref a_kept, .int v_keptMany, .int v_thrown, .ref a_buffer, .int v_buffered, .int v_size, .int v_at, .int v_behind, .int v_kind, .int v_wrong, .int v_wrongAt, .int v_errorAt, .long v_number, .ref a_best, .ref a_rentBy, .ref a_bareBy, .ref a_aheadBy, .ref a_isEdge, .ref a_tried, .ref a_stands, .ref a_found, .ref a_foundOn, .ref a_moving, .int v_movingMany, .int v_foundIncome, .int v_foundMoves])), (a_a, .inl (cI, 180, .inl v_a))] sz) := by
  refine z_met (cc := cX6_start) (maxL := 2) (ret := (some .int)) (by decide) rfl (Nat.le_of_ble_eq_true rfl) ?_
  intro p e s m below meth c ls E hsz hw hl
  obtain ⟨⟨hx, hb, hml, hown, hts⟩, hr, hlocks⟩ := id E
  have hl : lv_has ls 2 [(0, .ref a_this), (1, .int x1)] := hl
  unfold f_X6_start at hf
  refine lv_aload_n hx hb dX6_start_0 rfl (lv_at hl 0 rfl) ?_
  refine lv_bipush (v := 107) hx hb dX6_start_1 (by decide) ?_
  refine lv_iload_n hx hb dX6_start_3 rfl (lv_at hl 1 rfl) ?_
  obtain ⟨r_1, v_2, h_3, hf⟩ := oB2_elim hf
  refine z_callVi (ws' := [(a_this, .inr (6, [.ref a_a, .ref a_fresh, .ref a_kept, .int v_keptMany, .int v_2, .ref a_buffer, .int v_buffered, .int v_size, .int v_at, .int v_behind, .int v_kind, .int v_wrong, .int v_wrongAt, .int v_errorAt, .long v_number, .ref a_best, .ref a_rentBy, .ref a_bareBy, .ref a_aheadBy, .ref a_isEdge, .ref a_tried, .ref a_stands, .ref a_found, .ref a_foundOn, .ref a_moving, .int v_movingMany, .int v_foundIncome, .int v_foundMoves])), (a_a, .inl (cI, 180, .inl v_a))]) (wr := []) (As := [.int (107 : Int32), .int x1]) (rest := []) E.1 hl hw (c_X6_traderValue h_3) (cwV 2 hts (z_gV mw_796 mw_797 mw_798 mw_597 mw_799) rfl rfl rfl (by decide +kernel) ⟨(Nat.le_of_ble_eq_true rfl), (Nat.le_of_ble_eq_true rfl)⟩) 2 [(0, 2)] [] rfl rfl rfl rfl rfl rfl (by decide +kernel) rfl (q0 := 0) rfl rfl rfl (Nat.le_of_ble_eq_true rfl) dX6_start_4 ⟨Nat.le_of_ble_eq_true rfl, Nat.le_of_ble_eq_true rfl⟩ (fun H locs hw => ?_)
  cases hf
  exact z_iret E rfl hw dX6_start_7
end
/-! X6_swap -/
section
variable {p : Program} {l : Launch} {e : Env} {s : State} {m : MethodId} {args : Array Value} {below : List Frame} {meth : Method} {c : Code} {D : va_G} {A : Nat → Prop} {cI cZ cM : ClassId} {a_this a_a a_fresh a_kept a_buffer a_best a_rentBy a_bareBy a_aheadBy a_isEdge a_tried a_stands a_found a_foundOn a_moving : Nat} {v_buffered : Int32} {v_size : Int32} {v_at : Int32} {v_behind : Int32} {v_kind : Int32} {v_wrong : Int32} {v_wrongAt : Int32} {v_errorAt : Int32} {v_number : Int64} {v_movingMany : Int32} {v_foundIncome : Int32} {v_foundMoves : Int32} {res : Int32 × (Nat → Int32) × (Nat → Int32) × Int32 × Int32 × (Nat → Int32) × (Nat → Int32)}
def rmX6_swap : Room := { frames := 3, cells := 0, slots := 0, locals := 71 }
abbrev zwX6_swap : List Cond := Cond.code yX6_swap cX6_swap 4 (some .int) :: wsAll
set_option maxHeartbeats 4000000 in
set_option maxRecDepth 100000 in
theorem w_X6_swap_35 {n : Nat} (E : zE p s m args meth c cX6_swap 4 (some .int) zwX6_swap RX6) : ∀ (t1 : Int32) (x1 : Int32) (x2 : Int32) (v_a : Nat → Int32) (v_kept : Nat → Int32) (v_keptMany : Int32) (v_thrown : Int32) (v_tried : Nat → Int32) (v_stands : Nat → Int32), f_X6_swap_35 n t1 x1 x2 v_a v_kept v_keptMany v_thrown v_tried v_stands = some res → ∀ (H : Heap) (locs : List Loc) (ls : Array Slot), zW D (zT cI cZ cM) A s [(a_this, .inr (6, [.ref a_a, .ref a_fresh, .ref a_kept, .int v_keptMany, .int v_thrown, .ref a_buffer, .int v_buffered, .int v_size, .int v_at, .int v_behind, .int v_kind, .int v_wrong, .int v_wrongAt, .int v_errorAt, .long v_number, .ref a_best, .ref a_rentBy, .ref a_bareBy, .ref a_aheadBy, .ref a_isEdge, .ref a_tried, .ref a_stands, .ref a_found, .ref a_foundOn, .ref a_moving, .int v_movingMany, .int v_foundIncome, .int v_foundMoves])), (a_a, .inl (cI, 180, .inl v_a)), (a_kept, .inl (cI, 1080, .inl v_kept)), (a_tried, .inl (cI, 8, .inl v_tried)), (a_stands, .inl (cI, 24, .inl v_stands))] H locs → lv_has ls 4 [(0, .ref a_this), (1, .int x1), (2, .int x2)] → W p l e rmX6_swap s m args below meth c H locs 0 0 (MQ below (zQi D (zT cI cZ cM) res.1 [(a_this, .inr (6, [.ref a_a, .ref a_fresh, .ref a_kept, .int res.2.2.2.1, .int res.2.2.2.2.1, .ref a_buffer, .int v_buffered, .int v_size, .int v_at, .int v_behind, .int v_kind, .int v_wrong, .int v_wrongAt, .int v_errorAt, .long v_number, .ref a_best, .ref a_rentBy, .ref a_bareBy, .ref a_aheadBy, .ref a_isEdge, .ref a_tried, .ref a_stands, .ref a_found, .ref a_foundOn, .ref a_moving, .int v_movingMany, .int v_foundIncome, .int v_foundMoves])), (a_a, .inl (cI, 180, .inl res.2.1)), (a_kept, .inl (cI, 1080, .inl res.2.2.1)), (a_tried, .inl (cI, 8, .inl res.2.2.2.2.2.1)), (a_stands, .inl (cI, 24, .inl res.2.2.2.2.2.2))] A) args s 0 0 A) (F0 m 35 ls [.int t1, .ref a_this]) := by
  obtain ⟨⟨hx, hb, hml, hown, hts⟩, hr, hlocks⟩ := id E
  intro t1 x1 x2 v_a v_kept v_keptMany v_thrown v_tried v_stands hf H locs ls hw hl
  unfold f_X6_swap_35 at hf
  refine z_put (ws' := [(a_this, .inr (6, [.ref a_a, .ref a_fresh, .ref a_kept, .int v_keptMany, .int t1, .ref a_buffer, .int v_buffered, .int v_size, .int v_at, .int v_behind, .int v_kind, .int v_wrong, .int v_wrongAt, .int v_errorAt, .long v_number, .ref a_best, .ref a_rentBy, .ref a_bareBy, .ref a_aheadBy, .ref a_isEdge, .ref a_tried, .ref a_stands, .ref a_found, .ref a_foundOn, .ref a_moving, .int v_movingMany, .int v_foundIncome, .int v_foundMoves])), (a_a, .inl (cI, 180, .inl v_a)), (a_kept, .inl (cI, 1080, .inl v_kept)), (a_tried, .inl (cI, 8, .inl v_tried)), (a_stands, .inl (cI, 24, .inl v_stands))]) E.1 hw in_wsX60 tyX6 tyX6_ok nmX6 0 rfl rfl 4 (z_lt rfl) mw_594 rfl rfl rfl (z_lt rfl) rfl dX6_swap_35 (fun H locs hw => ?_)
  refine lv_aload_n hx hb dX6_swap_38 rfl (lv_at hl 0 rfl) ?_
  refine z_get E.1 hw in_wsX60 0 rfl rfl 4 (z_lt rfl) mw_594 (v := .int t1) rfl dX6_swap_39 ?_
  refine lv_if_le (tgt := 47) hx hb dX6_swap_42 (by decide) (fun hc => ?_) (fun hc => ?_)
  · have hf := oI_pos hc hf
    refine lv_aload_n hx hb dX6_swap_47 rfl (lv_at hl 0 rfl) ?_
    obtain ⟨v_1, v_2, h_3, hf⟩ := oB2_elim hf
    refine z_callVv (ws' := [(a_this, .inr (6, [.ref a_a, .ref a_fresh, .ref a_kept, .int v_2, .int t1, .ref a_buffer, .int v_buffered, .int v_size, .int v_at, .int v_behind, .int v_kind, .int v_wrong, .int v_wrongAt, .int v_errorAt, .long v_number, .ref a_best, .ref a_rentBy, .ref a_bareBy, .ref a_aheadBy, .ref a_isEdge, .ref a_tried, .ref a_stands, .ref a_found, .ref a_foundOn, .ref a_moving, .int v_movingMany, .int v_foundIncome, .int v_foundMoves])), (a_a, .inl (cI, 180, .inl v_a)), (a_kept, .inl (cI, 1080, .inl v_1)), (a_tried, .inl (cI, 8, .inl v_tried)), (a_stands, .inl (cI, 24, .inl v_stands))]) (wr := [(a_tried, .inl (cI, 8, .inl v_tried)), (a_stands, .inl (cI, 24, .inl v_stands))]) (As := []) (rest := []) E.1 hl hw (c_X6_keeps h_3) (cwV 0 hts (z_gV mw_599 mw_600 mw_601 mw_597 mw_602) rfl rfl rfl (by decide +kernel) ⟨(Nat.le_of_ble_eq_true rfl), (Nat.le_of_ble_eq_true rfl)⟩) 5 [(0, 3)] [(3, 2)] rfl rfl rfl rfl rfl rfl (by decide +kernel) rfl (q0 := 0) rfl rfl rfl (Nat.le_of_ble_eq_true rfl) dX6_swap_48 ⟨Nat.le_of_ble_eq_true rfl, Nat.le_of_ble_eq_true rfl⟩ (fun H locs hw => ?_)
    refine lv_aload_n hx hb dX6_swap_51 rfl (lv_at hl 0 rfl) ?_
    refine z_get E.1 hw in_wsX60 0 rfl rfl 0 (z_lt rfl) mw_593 (v := .ref a_a) rfl dX6_swap_52 ?_
    refine lv_bipush (v := 107) hx hb dX6_swap_55 (by decide) ?_
    refine lv_iload_n hx hb dX6_swap_57 rfl (lv_at hl 1 rfl) ?_
    refine lv_iadd hx hb dX6_swap_58 ?_
    obtain ⟨h_4, hf⟩ := oA_elim hf
    refine z_iald E.1 hw 1 0 rfl rfl h_4 dX6_swap_59 ?_
    obtain ⟨y_5, e_y_5, hf⟩ := oL_elim hf
    refine z_top e_y_5 ?_
    refine lv_istore_n (lv' := [(3, .int y_5), (0, .ref a_this), (1, .int x1), (2, .int x2)]) hx hb dX6_swap_60 rfl hl (z_lt rfl) rfl (fun ls hl => ?_)
    refine lv_aload_n hx hb dX6_swap_61 rfl (lv_at hl 1 rfl) ?_
    refine z_get E.1 hw in_wsX60 0 rfl rfl 0 (z_lt rfl) mw_593 (v := .ref a_a) rfl dX6_swap_62 ?_
    refine lv_bipush (v := 107) hx hb dX6_swap_65 (by decide) ?_
    refine lv_iload_n hx hb dX6_swap_67 rfl (lv_at hl 2 rfl) ?_
    refine lv_iadd hx hb dX6_swap_68 ?_
    refine lv_aload_n hx hb dX6_swap_69 rfl (lv_at hl 1 rfl) ?_
    refine z_get E.1 hw in_wsX60 0 rfl rfl 0 (z_lt rfl) mw_593 (v := .ref a_a) rfl dX6_swap_70 ?_
    refine lv_bipush (v := 107) hx hb dX6_swap_73 (by decide) ?_
    refine lv_iload_n hx hb dX6_swap_75 rfl (lv_at hl 3 rfl) ?_
    refine lv_iadd hx hb dX6_swap_76 ?_
    obtain ⟨h_6, hf⟩ := oA_elim hf
    refine z_iald E.1 hw 1 0 rfl rfl h_6 dX6_swap_77 ?_
    obtain ⟨h_7, hf⟩ := oA_elim hf
    obtain ⟨v_8, e_v_8, hf⟩ := oL_elim hf
    refine z_iast (ws' := [(a_this, .inr (6, [.ref a_a, .ref a_fresh, .ref a_kept, .int v_2, .int t1, .ref a_buffer, .int v_buffered, .int v_size, .int v_at, .int v_behind, .int v_kind, .int v_wrong, .int v_wrongAt, .int v_errorAt, .long v_number, .ref a_best, .ref a_rentBy, .ref a_bareBy, .ref a_aheadBy, .ref a_isEdge, .ref a_tried, .ref a_stands, .ref a_found, .ref a_foundOn, .ref a_moving, .int v_movingMany, .int v_foundIncome, .int v_foundMoves])), (a_a, .inl (cI, 180, .inl v_8)), (a_kept, .inl (cI, 1080, .inl v_1)), (a_tried, .inl (cI, 8, .inl v_tried)), (a_stands, .inl (cI, 24, .inl v_stands))]) E.1 hw 1 0 rfl rfl h_7 (by subst e_v_8; rfl) dX6_swap_78 (fun H locs hw => ?_)
    refine lv_aload_n hx hb dX6_swap_79 rfl (lv_at hl 1 rfl) ?_
    refine z_get E.1 hw in_wsX60 0 rfl rfl 0 (z_lt rfl) mw_593 (v := .ref a_a) rfl dX6_swap_80 ?_
    refine lv_bipush (v := 107) hx hb dX6_swap_83 (by decide) ?_
    refine lv_iload_n hx hb dX6_swap_85 rfl (lv_at hl 3 rfl) ?_
    refine lv_iadd hx hb dX6_swap_86 ?_
    refine lv_iload_n hx hb dX6_swap_87 rfl (lv_at hl 0 rfl) ?_
    obtain ⟨h_9, hf⟩ := oA_elim hf
    obtain ⟨v_10, e_v_10, hf⟩ := oL_elim hf
    refine z_iast (ws' := [(a_this, .inr (6, [.ref a_a, .ref a_fresh, .ref a_kept, .int v_2, .int t1, .ref a_buffer, .int v_buffered, .int v_size, .int v_at, .int v_behind, .int v_kind, .int v_wrong, .int v_wrongAt, .int v_errorAt, .long v_number, .ref a_best, .ref a_rentBy, .ref a_bareBy, .ref a_aheadBy, .ref a_isEdge, .ref a_tried, .ref a_stands, .ref a_found, .ref a_foundOn, .ref a_moving, .int v_movingMany, .int v_foundIncome, .int v_foundMoves])), (a_a, .inl (cI, 180, .inl v_10)), (a_kept, .inl (cI, 1080, .inl v_1)), (a_tried, .inl (cI, 8, .inl v_tried)), (a_stands, .inl (cI, 24, .inl v_stands))]) E.1 hw 1 0 rfl rfl h_9 (by subst e_v_10; rfl) dX6_swap_88 (fun H locs hw => ?_)
    refine lv_aload_n hx hb dX6_swap_89 rfl (lv_at hl 1 rfl) ?_
    obtain ⟨r_11, h_12, hf⟩ := oB_elim hf
    refine z_callVi (ws' := [(a_this, .inr (6, [.ref a_a, .ref a_fresh, .ref a_kept, .int v_2, .int t1, .ref a_buffer, .int v_buffered, .int v_size, .int v_at, .int v_behind, .int v_kind, .int v_wrong, .int v_wrongAt, .int v_errorAt, .long v_number, .ref a_best, .ref a_rentBy, .ref a_bareBy, .ref a_aheadBy, .ref a_isEdge, .ref a_tried, .ref a_stands, .ref a_found, .ref a_foundOn, .ref a_moving, .int v_movingMany, .int v_foundIncome, .int v_foundMoves])), (a_a, .inl (cI, 180, .inl v_10)), (a_kept, .inl (cI, 1080, .inl v_1)), (a_tried, .inl (cI, 8, .inl v_tried)), (a_stands, .inl (cI, 24, .inl v_stands))]) (wr := [(a_kept, .inl (cI, 1080, .inl v_1)), (a_tried, .inl (cI, 8, .inl v_tried)), (a_stands, .inl (cI, 24, .inl v_stands))]) (As := []) (rest := []) E.1 hl hw (c_X6_incomeNow h_12) (cwV 0 hts (z_gV mw_791 mw_792 mw_793 mw_597 mw_794) rfl rfl rfl (by decide +kernel) ⟨(Nat.le_of_ble_eq_true rfl), (Nat.le_of_ble_eq_true rfl)⟩) 5 [(0, 2)] [(2, 3)] rfl rfl rfl rfl rfl rfl (by decide +kernel) rfl (q0 := 0) rfl rfl rfl (Nat.le_of_ble_eq_true rfl) dX6_swap_90 ⟨Nat.le_of_ble_eq_true rfl, Nat.le_of_ble_eq_true rfl⟩ (fun H locs hw => ?_)
    cases hf
    exact z_iret E rfl hw dX6_swap_93
  · have hf := oI_neg hc hf
    refine lv_iconst (v := 0) hx hb dX6_swap_45 (by decide) ?_
    cases hf
    exact z_iret E rfl hw dX6_swap_46
set_option maxHeartbeats 4000000 in
set_option maxRecDepth 100000 in
theorem w_X6_swap_17 {n : Nat} (E : zE p s m args meth c cX6_swap 4 (some .int) zwX6_swap RX6) : ∀ (x1 : Int32) (x2 : Int32) (v_a : Nat → Int32) (v_kept : Nat → Int32) (v_keptMany : Int32) (v_thrown : Int32) (v_tried : Nat → Int32) (v_stands : Nat → Int32), f_X6_swap_17 n x1 x2 v_a v_kept v_keptMany v_thrown v_tried v_stands = some res → ∀ (H : Heap) (locs : List Loc) (ls : Array Slot), zW D (zT cI cZ cM) A s [(a_this, .inr (6, [.ref a_a, .ref a_fresh, .ref a_kept, .int v_keptMany, .int v_thrown, .ref a_buffer, .int v_buffered, .int v_size, .int v_at, .int v_behind, .int v_kind, .int v_wrong, .int v_wrongAt, .int v_errorAt, .long v_number, .ref a_best, .ref a_rentBy, .ref a_bareBy, .ref a_aheadBy, .ref a_isEdge, .ref a_tried, .ref a_stands, .ref a_found, .ref a_foundOn, .ref a_moving, .int v_movingMany, .int v_foundIncome, .int v_foundMoves])), (a_a, .inl (cI, 180, .inl v_a)), (a_kept, .inl (cI, 1080, .inl v_kept)), (a_tried, .inl (cI, 8, .inl v_tried)), (a_stands, .inl (cI, 24, .inl v_stands))] H locs → lv_has ls 4 [(0, .ref a_this), (1, .int x1), (2, .int x2)] → W p l e rmX6_swap s m args below meth c H locs 0 0 (MQ below (zQi D (zT cI cZ cM) res.1 [(a_this, .inr (6, [.ref a_a, .ref a_fresh, .ref a_kept, .int res.2.2.2.1, .int res.2.2.2.2.1, .ref a_buffer, .int v_buffered, .int v_size, .int v_at, .int v_behind, .int v_kind, .int v_wrong, .int v_wrongAt, .int v_errorAt, .long v_number, .ref a_best, .ref a_rentBy, .ref a_bareBy, .ref a_aheadBy, .ref a_isEdge, .ref a_tried, .ref a_stands, .ref a_found, .ref a_foundOn, .ref a_moving, .int v_movingMany, .int v_foundIncome, .int v_foundMoves])), (a_a, .inl (cI, 180, .inl res.2.1)), (a_kept, .inl (cI, 1080, .inl res.2.2.1)), (a_tried, .inl (cI, 8, .inl res.2.2.2.2.2.1)), (a_stands, .inl (cI, 24, .inl res.2.2.2.2.2.2))] A) args s 0 0 A) (F0 m 17 ls [.ref a_this]) := by
  obtain ⟨⟨hx, hb, hml, hown, hts⟩, hr, hlocks⟩ := id E
  intro x1 x2 v_a v_kept v_keptMany v_thrown v_tried v_stands hf H locs ls hw hl
  unfold f_X6_swap_17 at hf
  refine lv_iconst (v := 1) hx hb dX6_swap_17 (by decide) ?_
  refine lv_goto (tgt := 35) hx hb dX6_swap_18 (by decide) ?_
  exact w_X6_swap_35 E  _ _ _ _ _ _ _ _ _ hf _ _ _ hw (lv_sub hl [0, 1, 2] rfl)
set_option maxHeartbeats 4000000 in
set_option maxRecDepth 100000 in
theorem c_X6_swap {l : Launch} {D : va_G} {cI cZ cM : ClassId} {a_this a_a a_fresh a_kept a_buffer a_best a_rentBy a_bareBy a_aheadBy a_isEdge a_tried a_stands a_found a_foundOn a_moving : Nat} {v_buffered : Int32} {v_size : Int32} {v_at : Int32} {v_behind : Int32} {v_kind : Int32} {v_wrong : Int32} {v_wrongAt : Int32} {v_errorAt : Int32} {v_number : Int64} {v_movingMany : Int32} {v_foundIncome : Int32} {v_foundMoves : Int32} {res : Int32 × (Nat → Int32) × (Nat → Int32) × Int32 × Int32 × (Nat → Int32) × (Nat → Int32)} {sz : Nat} {n : Nat} {v_a : Nat → Int32} {v_kept : Nat → Int32} {v_keptMany : Int32} {v_thrown : Int32} {v_tried : Nat → Int32} {v_stands : Nat → Int32} {x1 : Int32} {x2 : Int32} (hf : f_X6_swap n v_a v_kept v_keptMany v_thrown v_tried v_stands x1 x2 = some res) : Met l yX6_swap zwX6_swap rmX6_swap (zPc D (zT cI cZ cM) [.ref a_this, .int x1, .int x2] [(a_this, .inr (6, [.ref a_a, .ref a_fresh, .ref a_kept, .int v_keptMany, .int v_thrown, .ref a_buffer, .int v_buffered, .int v_size, .int v_at, .int v_behind, .int v_kind, .int v_wrong, .int v_wrongAt, .int v_errorAt, .long v_number, .ref a_best, .ref a_rentBy, .ref a_bareBy, .ref a_aheadBy, .ref a_isEdge, .ref a_tried, .ref a_stands, .ref a_found, .ref a_foundOn, .ref a_moving, .int v_movingMany, .int v_foundIncome, .int v_foundMoves])), (a_a, .inl (cI, 180, .inl v_a)), (a_kept, .inl (cI, 1080, .inl v_kept)), (a_tried, .inl (cI, 8, .inl v_tried)), (a_stands, .inl (cI, 24, .inl v_stands))] sz) (zQi D (zT cI cZ cM) res.1 [(a_this, .inr (6, [.ref a_a, .ref a_fresh, .ref a_kept, .int res.2.2.2.1, .int res.2.2.2.2.1, .ref a_buffer, .int v_buffered, .int v_size, .int v_at, .int v_behind, .int v_kind, .int v_wrong, .int v_wrongAt, .int v_errorAt, .long v_number, .ref a_best, .ref a_rentBy, .ref a_bareBy, .ref a_aheadBy, .ref a_isEdge, .ref a_tried, .ref a_stands, .ref a_found, .ref a_foundOn, .ref a_moving, .int v_movingMany, .int v_foundIncome, .int v_foundMoves])), (a_a, .inl (cI, 180, .inl res.2.1)), (a_kept, .inl (cI, 1080, .inl res.2.2.1)), (a_tried, .inl (cI, 8, .inl res.2.2.2.2.2.1)), (a_stands, .inl (cI, 24, .inl res.2.2.2.2.2.2))] (va_A [(a_this, .inr (6, [.ref a_a, .ref a_fresh, .ref a_kept, .int v_keptMany, .int v_thrown, .ref a_buffer, .int v_buffered, .int v_size, .int v_at, .int v_behind, .int v_kind, .int v_wrong, .int v_wrongAt, .int v_errorAt, .long v_number, .ref a_best, .ref a_rentBy, .ref a_bareBy, .ref a_aheadBy, .ref a_isEdge, .ref a_tried, .ref a_stands, .ref a_found, .ref a_foundOn, .ref a_moving, .int v_movingMany, .int v_foundIncome, .int v_foundMoves])), (a_a, .inl (cI, 180, .inl v_a)), (a_kept, .inl (cI, 1080, .inl v_kept)), (a_tried, .inl (cI, 8, .inl v_tried)), (a_stands, .inl (cI, 24, .inl v_stands))] sz)) 0 0 (va_A [(a_this, .inr (6, [.ref a_a, .ref a_fresh, .ref a_kept, .int v_keptMany, .int v_thrown, .ref a_buffer, .int v_buffered, .int v_size, .int v_at, .int v_behind, .int v_kind, .int v_wrong, .int v_wrongAt, .int v_errorAt, .long v_number, .ref a_best, .ref a_rentBy, .ref a_bareBy, .ref a_aheadBy, .ref a_isEdge, .ref a_tried, .ref a_stands, .ref a_found, .ref a_foundOn, .ref a_moving, .int v_movingMany, .int v_foundIncome, .int v_foundMoves])), (a_a, .inl (cI, 180, .inl v_a)), (a_kept, .inl (cI, 1080, .inl v_kept)), (a_tried, .inl (cI, 8, .inl v_tried)), (a_stands, .inl (cI, 24, .inl v_stands))] sz) := by
  refine z_met (cc := cX6_swap) (maxL := 4) (ret := (some .int)) (by decide) rfl (Nat.le_of_ble_eq_true rfl) ?_
  intro p e s m below meth c ls E hsz hw hl
  obtain ⟨⟨hx, hb, hml, hown, hts⟩, hr, hlocks⟩ := id E
  have hl : lv_has ls 4 [(0, .ref a_this), (1, .int x1), (2, .int x2)] := hl
  unfold f_X6_swap at hf
  refine lv_aload_n hx hb dX6_swap_0 rfl (lv_at hl 0 rfl) ?_
  refine lv_aload_n hx hb dX6_swap_1 rfl (lv_at hl 0 rfl) ?_
  refine lv_iload_n hx hb dX6_swap_2 rfl (lv_at hl 1 rfl) ?_
  obtain ⟨r_13, h_14, hf⟩ := oB_elim hf
  refine z_callVi (ws' := [(a_this, .inr (6, [.ref a_a, .ref a_fresh, .ref a_kept, .int v_keptMany, .int v_thrown, .ref a_buffer, .int v_buffered, .int v_size, .int v_at, .int v_behind, .int v_kind, .int v_wrong, .int v_wrongAt, .int v_errorAt, .long v_number, .ref a_best, .ref a_rentBy, .ref a_bareBy, .ref a_aheadBy, .ref a_isEdge, .ref a_tried, .ref a_stands, .ref a_found, .ref a_foundOn, .ref a_moving, .int v_movingMany, .int v_foundIncome, .int v_foundMoves])), (a_a, .inl (cI, 180, .inl v_a)), (a_kept, .inl (cI, 1080, .inl v_kept)), (a_tried, .inl (cI, 8, .inl v_tried)), (a_stands, .inl (cI, 24, .inl v_stands))]) (wr := [(a_kept, .inl (cI, 1080, .inl v_kept)), (a_tried, .inl (cI, 8, .inl v_tried)), (a_stands, .inl (cI, 24, .inl v_stands))]) (As := [.int x1]) (rest := [.ref a_this]) E.1 hl hw (c_X6_isTrader h_14) (cwV 1 hts (z_gV mw_714 mw_715 mw_716 mw_597 mw_717) rfl rfl rfl (by decide +kernel) ⟨(Nat.le_of_ble_eq_true rfl), (Nat.le_of_ble_eq_true rfl)⟩) 5 [(0, 2)] [(2, 3)] rfl rfl rfl rfl rfl rfl (by decide +kernel) rfl (q0 := 0) rfl rfl rfl (Nat.le_of_ble_eq_true rfl) dX6_swap_3 ⟨Nat.le_of_ble_eq_true rfl, Nat.le_of_ble_eq_true rfl⟩ (fun H locs hw => ?_)
  refine lv_if_eq (tgt := 17) hx hb dX6_swap_6 (by decide) (fun hc => ?_) (fun hc => ?_)
  · have hf := oI_pos hc hf
    exact w_X6_swap_17 E  _ _ _ _ _ _ _ _ hf _ _ _ hw (lv_sub hl [0, 1, 2] rfl)
  · have hf := oI_neg hc hf
    refine lv_aload_n hx hb dX6_swap_9 rfl (lv_at hl 0 rfl) ?_
    refine lv_iload_n hx hb dX6_swap_10 rfl (lv_at hl 2 rfl) ?_
    obtain ⟨r_15, h_16, hf⟩ := oB_elim hf
    refine z_callVi (ws' := [(a_this, .inr (6, [.ref a_a, .ref a_fresh, .ref a_kept, .int v_keptMany, .int v_thrown, .ref a_buffer, .int v_buffered, .int v_size, .int v_at, .int v_behind, .int v_kind, .int v_wrong, .int v_wrongAt, .int v_errorAt, .long v_number, .ref a_best, .ref a_rentBy, .ref a_bareBy, .ref a_aheadBy, .ref a_isEdge, .ref a_tried, .ref a_stands, .ref a_found, .ref a_foundOn, .ref a_moving, .int v_movingMany, .int v_foundIncome, .int v_foundMoves])), (a_a, .inl (cI, 180, .inl v_a)), (a_kept, .inl (cI, 1080, .inl v_kept)), (a_tried, .inl (cI, 8, .inl v_tried)), (a_stands, .inl (cI, 24, .inl v_stands))]) (wr := [(a_kept, .inl (cI, 1080, .inl v_kept)), (a_tried, .inl (cI, 8, .inl v_tried)), (a_stands, .inl (cI, 24, .inl v_stands))]) (As := [.int x2]) (rest := [.ref a_this]) E.1 hl hw (c_X6_isTrader h_16) (cwV 1 hts (z_gV mw_714 mw_715 mw_716 mw_597 mw_717) rfl rfl rfl (by decide +kernel) ⟨(Nat.le_of_ble_eq_true rfl), (Nat.le_of_ble_eq_true rfl)⟩) 5 [(0, 2)] [(2, 3)] rfl rfl rfl rfl rfl rfl (by decide +kernel) rfl (q0 := 0) rfl rfl rfl (Nat.le_of_ble_eq_true rfl) dX6_swap_11 ⟨Nat.le_of_ble_eq_true rfl, Nat.le_of_ble_eq_true rfl⟩ (fun H locs hw => ?_)
    refine lv_if_ne (tgt := 21) hx hb dX6_swap_14 (by decide) (fun hc => ?_) (fun hc => ?_)
    · have hf := oI_neg hc hf
      refine lv_aload_n hx hb dX6_swap_21 rfl (lv_at hl 0 rfl) ?_
      refine lv_iload_n hx hb dX6_swap_22 rfl (lv_at hl 1 rfl) ?_
      refine lv_iload_n hx hb dX6_swap_23 rfl (lv_at hl 2 rfl) ?_
      obtain ⟨r_17, v_18, v_19, h_20, hf⟩ := oB3_elim hf
      refine z_callVi (ws' := [(a_this, .inr (6, [.ref a_a, .ref a_fresh, .ref a_kept, .int v_keptMany, .int v_thrown, .ref a_buffer, .int v_buffered, .int v_size, .int v_at, .int v_behind, .int v_kind, .int v_wrong, .int v_wrongAt, .int v_errorAt, .long v_number, .ref a_best, .ref a_rentBy, .ref a_bareBy, .ref a_aheadBy, .ref a_isEdge, .ref a_tried, .ref a_stands, .ref a_found, .ref a_foundOn, .ref a_moving, .int v_movingMany, .int v_foundIncome, .int v_foundMoves])), (a_a, .inl (cI, 180, .inl v_a)), (a_kept, .inl (cI, 1080, .inl v_kept)), (a_tried, .inl (cI, 8, .inl v_18)), (a_stands, .inl (cI, 24, .inl v_19))]) (wr := [(a_kept, .inl (cI, 1080, .inl v_kept))]) (As := [.int x1, .int x2]) (rest := [.ref a_this]) E.1 hl hw (c_X6_canSwap h_20) (cwV 2 hts (z_gV mw_880 mw_881 mw_882 mw_597 mw_672) rfl rfl rfl (by decide +kernel) ⟨(Nat.le_of_ble_eq_true rfl), (Nat.le_of_ble_eq_true rfl)⟩) 5 [(0, 2), (3, 2)] [(2, 1)] rfl rfl rfl rfl rfl rfl (by decide +kernel) rfl (q0 := 0) rfl rfl rfl (Nat.le_of_ble_eq_true rfl) dX6_swap_24 ⟨Nat.le_of_ble_eq_true rfl, Nat.le_of_ble_eq_true rfl⟩ (fun H locs hw => ?_)
      refine lv_if_ne (tgt := 34) hx hb dX6_swap_27 (by decide) (fun hc => ?_) (fun hc => ?_)
      · have hf := oI_neg hc hf
        refine lv_iconst (v := 0) hx hb dX6_swap_34 (by decide) ?_
        exact w_X6_swap_35 E  _ _ _ _ _ _ _ _ _ hf _ _ _ hw (lv_sub hl [0, 1, 2] rfl)
      · have hf := oI_pos hc hf
        refine lv_iconst (v := 2) hx hb dX6_swap_30 (by decide) ?_
        refine lv_goto (tgt := 35) hx hb dX6_swap_31 (by decide) ?_
        exact w_X6_swap_35 E  _ _ _ _ _ _ _ _ _ hf _ _ _ hw (lv_sub hl [0, 1, 2] rfl)
    · have hf := oI_pos hc hf
      exact w_X6_swap_17 E  _ _ _ _ _ _ _ _ hf _ _ _ hw (lv_sub hl [0, 1, 2] rfl)
end
/-! X6_thrown -/
section
variable {p : Program} {l : Launch} {e : Env} {s : State} {m : MethodId} {args : Array Value} {below : List Frame} {meth : Method} {c : Code} {D : va_G} {A : Nat → Prop} {cI cZ cM : ClassId} {a_this a_a a_fresh a_kept a_buffer a_best a_rentBy a_bareBy a_aheadBy a_isEdge a_tried a_stands a_found a_foundOn a_moving : Nat} {v_keptMany : Int32} {v_buffered : Int32} {v_size : Int32} {v_at : Int32} {v_behind : Int32} {v_kind : Int32} {v_wrong : Int32} {v_wrongAt : Int32} {v_errorAt : Int32} {v_number : Int64} {v_movingMany : Int32} {v_foundIncome : Int32} {v_foundMoves : Int32} {res : Int32}
def rmX6_thrown : Room := { frames := 0, cells := 0, slots := 0, locals := 0 }
abbrev zwX6_thrown : List Cond := Cond.code yX6_thrown cX6_thrown 1 (some .int) :: wsAll
set_option maxHeartbeats 4000000 in
set_option maxRecDepth 100000 in
theorem c_X6_thrown {l : Launch} {D : va_G} {cI cZ cM : ClassId} {a_this a_a a_fresh a_kept a_buffer a_best a_rentBy a_bareBy a_aheadBy a_isEdge a_tried a_stands a_found a_foundOn a_moving : Nat} {v_keptMany : Int32} {v_buffered : Int32} {v_size : Int32} {v_at : Int32} {v_behind : Int32} {v_kind : Int32} {v_wrong : Int32} {v_wrongAt : Int32} {v_errorAt : Int32} {v_number : Int64} {v_movingMany : Int32} {v_foundIncome : Int32} {v_foundMoves : Int32} {res : Int32} {sz : Nat} {v_thrown : Int32} (hf : f_X6_thrown v_thrown = some res) : Met l yX6_thrown zwX6_thrown rmX6_thrown (zPc D (zT cI cZ cM) [.ref a_this] [(a_this, .inr (6, [.ref a_a, .ref a_fresh, .ref a_kept, .int v_keptMany, .int v_thrown, .ref a_buffer, .int v_buffered, .int v_size, .int v_at, .int v_behind, .int v_kind, .int v_wrong, .int v_wrongAt, .int v_errorAt, .long v_number, .ref a_best, .ref a_rentBy, .ref a_bareBy, .ref a_aheadBy, .ref a_isEdge, .ref a_tried, .ref a_stands, .ref a_found, .ref a_foundOn, .ref a_moving, .int v_movingMany, .int v_foundIncome, .int v_foundMoves]))] sz) (zQi D (zT cI cZ cM) res [(a_this, .inr (6, [.ref a_a, .ref a_fresh, .ref a_kept, .int v_keptMany, .int v_thrown, .ref a_buffer, .int v_buffered, .int v_size, .int v_at, .int v_behind, .int v_kind, .int v_wrong, .int v_wrongAt, .int v_errorAt, .long v_number, .ref a_best, .ref a_rentBy, .ref a_bareBy, .ref a_aheadBy, .ref a_isEdge, .ref a_tried, .ref a_stands, .ref a_found, .ref a_foundOn, .ref a_moving, .int v_movingMany, .int v_foundIncome, .int v_foundMoves]))] (va_A [(a_this, .inr (6, [.ref a_a, .ref a_fresh, .ref a_kept, .int v_keptMany, .int v_thrown, .ref a_buffer, .int v_buffered, .int v_size, .int v_at, .int v_behind, .int v_kind, .int v_wrong, .int v_wrongAt, .int v_errorAt, .long v_number, .ref a_best, .ref a_rentBy, .ref a_bareBy, .ref a_aheadBy, .ref a_isEdge, .ref a_tried, .ref a_stands, .ref a_found, .ref a_foundOn, .ref a_moving, .int v_movingMany, .int v_foundIncome, .int v_foundMoves]))] sz)) 0 0 (va_A [(a_this, .inr (6, [.ref a_a, .ref a_fresh, .ref a_kept, .int v_keptMany, .int v_thrown, .ref a_buffer, .int v_buffered, .int v_size, .int v_at, .int v_behind, .int v_kind, .int v_wrong, .int v_wrongAt, .int v_errorAt, .long v_number, .ref a_best, .ref a_rentBy, .ref a_bareBy, .ref a_aheadBy, .ref a_isEdge, .ref a_tried, .ref a_stands, .ref a_found, .ref a_foundOn, .ref a_moving, .int v_movingMany, .int v_foundIncome, .int v_foundMoves]))] sz) := by
  refine z_met (cc := cX6_thrown) (maxL := 1) (ret := (some .int)) (by decide) rfl (Nat.le_of_ble_eq_true rfl) ?_
  intro p e s m below meth c ls E hsz hw hl
  obtain ⟨⟨hx, hb, hml, hown, hts⟩, hr, hlocks⟩ := id E
  have hl : lv_has ls 1 [(0, .ref a_this)] := hl
  unfold f_X6_thrown at hf
  refine lv_aload_n hx hb dX6_thrown_0 rfl (lv_at hl 0 rfl) ?_
  refine z_get E.1 hw in_wsX60 0 rfl rfl 4 (z_lt rfl) mw_594 (v := .int v_thrown) rfl dX6_thrown_1 ?_
  cases hf
  exact z_iret E rfl hw dX6_thrown_4
end
/-! X6_trade -/
section
variable {p : Program} {l : Launch} {e : Env} {s : State} {m : MethodId} {args : Array Value} {below : List Frame} {meth : Method} {c : Code} {D : va_G} {A : Nat → Prop} {cI cZ cM : ClassId} {a_this a_a a_fresh a_kept a_buffer a_best a_rentBy a_bareBy a_aheadBy a_isEdge a_tried a_stands a_found a_foundOn a_moving : Nat} {v_keptMany : Int32} {v_buffered : Int32} {v_size : Int32} {v_at : Int32} {v_behind : Int32} {v_kind : Int32} {v_wrong : Int32} {v_wrongAt : Int32} {v_errorAt : Int32} {v_number : Int64} {v_movingMany : Int32} {v_foundIncome : Int32} {v_foundMoves : Int32} {res : Int32 × Int32}
def rmX6_trade : Room := { frames := 3, cells := 0, slots := 0, locals := 68 }
abbrev zwX6_trade : List Cond := Cond.code yX6_trade cX6_trade 2 (some .int) :: wsAll
set_option maxHeartbeats 4000000 in
set_option maxRecDepth 100000 in
theorem c_X6_trade {l : Launch} {D : va_G} {cI cZ cM : ClassId} {a_this a_a a_fresh a_kept a_buffer a_best a_rentBy a_bareBy a_aheadBy a_isEdge a_tried a_stands a_found a_foundOn a_moving : Nat} {v_keptMany : Int32} {v_buffered : Int32} {v_size : Int32} {v_at : Int32} {v_behind : Int32} {v_kind : Int32} {v_wrong : Int32} {v_wrongAt : Int32} {v_errorAt : Int32} {v_number : Int64} {v_movingMany : Int32} {v_foundIncome : Int32} {v_foundMoves : Int32} {res : Int32 × Int32} {sz : Nat} {v_a : Nat → Int32} {v_thrown : Int32} {x1 : Int32} (hf : f_X6_trade v_a v_thrown x1 = some res) : Met l yX6_trade zwX6_trade rmX6_trade (zPc D (zT cI cZ cM) [.ref a_this, .int x1] [(a_this, .inr (6, [.ref a_a, .ref a_fresh, .ref a_kept, .int v_keptMany, .int v_thrown, .ref a_buffer, .int v_buffered, .int v_size, .int v_at, .int v_behind, .int v_kind, .int v_wrong, .int v_wrongAt, .int v_errorAt, .long v_number, .ref a_best, .ref a_rentBy, .ref a_bareBy, .ref a_aheadBy, .ref a_isEdge, .ref a_tried, .ref a_stands, .ref a_found, .ref a_foundOn, .ref a_moving, .int v_movingMany, .int v_foundIncome, .int v_foundMoves])), (a_a, .inl (cI, 180, .inl v_a))] sz) (zQi D (zT cI cZ cM) res.1 [(a_this, .inr (6, [.ref a_a, .ref a_fresh, .ref a_kept, .int v_keptMany, .int res.2, .ref a_buffer, .int v_buffered, .int v_size, .int v_at, .int v_behind, .int v_kind, .int v_wrong, .int v_wrongAt, .int v_errorAt, .long v_number, .ref a_best, .ref a_rentBy, .ref a_bareBy, .ref a_aheadBy, .ref a_isEdge, .ref a_tried, .ref a_stands, .ref a_found, .ref a_foundOn, .ref a_moving, .int v_movingMany, .int v_foundIncome, .int v_foundMoves])), (a_a, .inl (cI, 180, .inl v_a))] (va_A [(a_this, .inr (6, [.ref a_a, .ref a_fresh, .ref a_kept, .int v_keptMany, .int v_thrown, .ref a_buffer, .int v_buffered, .int v_size, .int v_at, .int v_behind, .int v_kind, .int v_wrong, .int v_wrongAt, .int v_errorAt, .long v_number, .ref a_best, .ref a_rentBy, .ref a_bareBy, .ref a_aheadBy, .ref a_isEdge, .ref a_tried, .ref a_stands, .ref a_found, .ref a_foundOn, .ref a_moving, .int v_movingMany, .int v_foundIncome, .int v_foundMoves])), (a_a, .inl (cI, 180, .inl v_a))] sz)) 0 0 (va_A [(a_this, .inr (6, [.ref a_a, .ref a_fresh, .ref a_kept, .int v_keptMany, .int v_thrown, .ref a_buffer, .int v_buffered, .int v_size, .int v_at, .int v_behind, .int v_kind, .int v_wrong, .int v_wrongAt, .int v_errorAt, .long v_number, .ref a_best, .ref a_rentBy, .ref a_bareBy, .ref a_aheadBy, .ref a_isEdge, .ref a_tried, .ref a_stands, .ref a_found, .ref a_foundOn, .ref a_moving, .int v_movingMany, .int v_foundIncome, .int v_foundMoves])), (a_a, .inl (cI, 180, .inl v_a))] sz) := by
  refine z_met (cc := cX6_trade) (maxL := 2) (ret := (some .int)) (by decide) rfl (Nat.le_of_ble_eq_true rfl) ?_
  intro p e s m below meth c ls E hsz hw hl
  obtain ⟨⟨hx, hb, hml, hown, hts⟩, hr, hlocks⟩ := id E
  have hl : lv_has ls 2 [(0, .ref a_this), (1, .int x1)] := hl
  unfold f_X6_trade at hf
  refine lv_aload_n hx hb dX6_trade_0 rfl (lv_at hl 0 rfl) ?_
  refine lv_bipush (v := 75) hx hb dX6_trade_1 (by decide) ?_
  refine lv_iload_n hx hb dX6_trade_3 rfl (lv_at hl 1 rfl) ?_
  obtain ⟨r_1, v_2, h_3, hf⟩ := oB2_elim hf
  refine z_callVi (ws' := [(a_this, .inr (6, [.ref a_a, .ref a_fresh, .ref a_kept, .int v_keptMany, .int v_2, .ref a_buffer, .int v_buffered, .int v_size, .int v_at, .int v_behind, .int v_kind, .int v_wrong, .int v_wrongAt, .int v_errorAt, .long v_number, .ref a_best, .ref a_rentBy, .ref a_bareBy, .ref a_aheadBy, .ref a_isEdge, .ref a_tried, .ref a_stands, .ref a_found, .ref a_foundOn, .ref a_moving, .int v_movingMany, .int v_foundIncome, .int v_foundMoves])), (a_a, .inl (cI, 180, .inl v_a))]) (wr := []) (As := [.int (75 : Int32), .int x1]) (rest := []) E.1 hl hw (c_X6_traderValue h_3) (cwV 2 hts (z_gV mw_796 mw_797 mw_798 mw_597 mw_799) rfl rfl rfl (by decide +kernel) ⟨(Nat.le_of_ble_eq_true rfl), (Nat.le_of_ble_eq_true rfl)⟩) 2 [(0, 2)] [] rfl rfl rfl rfl rfl rfl (by decide +kernel) rfl (q0 := 0) rfl rfl rfl (Nat.le_of_ble_eq_true rfl) dX6_trade_4 ⟨Nat.le_of_ble_eq_true rfl, Nat.le_of_ble_eq_true rfl⟩ (fun H locs hw => ?_)
  cases hf
  exact z_iret E rfl hw dX6_trade_7
end
/-! X6_traderAt -/
section
variable {p : Program} {l : Launch} {e : Env} {s : State} {m : MethodId} {args : Array Value} {below : List Frame} {meth : Method} {c : Code} {D : va_G} {A : Nat → Prop} {cI cZ cM : ClassId} {a_this a_a a_fresh a_kept a_buffer a_best a_rentBy a_bareBy a_aheadBy a_isEdge a_tried a_stands a_found a_foundOn a_moving : Nat} {v_keptMany : Int32} {v_buffered : Int32} {v_size : Int32} {v_at : Int32} {v_behind : Int32} {v_kind : Int32} {v_wrong : Int32} {v_wrongAt : Int32} {v_errorAt : Int32} {v_number : Int64} {v_movingMany : Int32} {v_foundIncome : Int32} {v_foundMoves : Int32} {res : Int32 × Int32}
def rmX6_traderAt : Room := { frames := 3, cells := 0, slots := 0, locals := 69 }
abbrev zwX6_traderAt : List Cond := Cond.code yX6_traderAt cX6_traderAt 2 (some .int) :: wsAll
set_option maxHeartbeats 4000000 in
set_option maxRecDepth 100000 in
theorem w_X6_traderAt_14 {n : Nat} (E : zE p s m args meth c cX6_traderAt 2 (some .int) zwX6_traderAt RX6) : ∀ (t1 : Int32) (x1 : Int32) (v_a : Nat → Int32) (v_thrown : Int32), f_X6_traderAt_14 n t1 x1 v_a v_thrown = some res → ∀ (H : Heap) (locs : List Loc) (ls : Array Slot), zW D (zT cI cZ cM) A s [(a_this, .inr (6, [.ref a_a, .ref a_fresh, .ref a_kept, .int v_keptMany, .int v_thrown, .ref a_buffer, .int v_buffered, .int v_size, .int v_at, .int v_behind, .int v_kind, .int v_wrong, .int v_wrongAt, .int v_errorAt, .long v_number, .ref a_best, .ref a_rentBy, .ref a_bareBy, .ref a_aheadBy, .ref a_isEdge, .ref a_tried, .ref a_stands, .ref a_found, .ref a_foundOn, .ref a_moving, .int v_movingMany, .int v_foundIncome, .int v_foundMoves])), (a_a, .inl (cI, 180, .inl v_a))] H locs → lv_has ls 2 [(0, .ref a_this), (1, .int x1)] → W p l e rmX6_traderAt s m args below meth c H locs 0 0 (MQ below (zQi D (zT cI cZ cM) res.1 [(a_this, .inr (6, [.ref a_a, .ref a_fresh, .ref a_kept, .int v_keptMany, .int res.2, .ref a_buffer, .int v_buffered, .int v_size, .int v_at, .int v_behind, .int v_kind, .int v_wrong, .int v_wrongAt, .int v_errorAt, .long v_number, .ref a_best, .ref a_rentBy, .ref a_bareBy, .ref a_aheadBy, .ref a_isEdge, .ref a_tried, .ref a_stands, .ref a_found, .ref a_foundOn, .ref a_moving, .int v_movingMany, .int v_foundIncome, .int v_foundMoves])), (a_a, .inl (cI, 180, .inl v_a))] A) args s 0 0 A) (F0 m 14 ls [.int t1, .ref a_this]) := by
  obtain ⟨⟨hx, hb, hml, hown, hts⟩, hr, hlocks⟩ := id E
  intro t1 x1 v_a v_thrown hf H locs ls hw hl
  unfold f_X6_traderAt_14 at hf
  refine z_put (ws' := [(a_this, .inr (6, [.ref a_a, .ref a_fresh, .ref a_kept, .int v_keptMany, .int t1, .ref a_buffer, .int v_buffered, .int v_size, .int v_at, .int v_behind, .int v_kind, .int v_wrong, .int v_wrongAt, .int v_errorAt, .long v_number, .ref a_best, .ref a_rentBy, .ref a_bareBy, .ref a_aheadBy, .ref a_isEdge, .ref a_tried, .ref a_stands, .ref a_found, .ref a_foundOn, .ref a_moving, .int v_movingMany, .int v_foundIncome, .int v_foundMoves])), (a_a, .inl (cI, 180, .inl v_a))]) E.1 hw in_wsX60 tyX6 tyX6_ok nmX6 0 rfl rfl 4 (z_lt rfl) mw_594 rfl rfl rfl (z_lt rfl) rfl dX6_traderAt_14 (fun H locs hw => ?_)
  refine lv_aload_n hx hb dX6_traderAt_17 rfl (lv_at hl 0 rfl) ?_
  refine z_get E.1 hw in_wsX60 0 rfl rfl 4 (z_lt rfl) mw_594 (v := .int t1) rfl dX6_traderAt_18 ?_
  refine lv_if_le (tgt := 28) hx hb dX6_traderAt_21 (by decide) (fun hc => ?_) (fun hc => ?_)
  · have hf := oI_pos hc hf
    refine lv_aload_n hx hb dX6_traderAt_28 rfl (lv_at hl 0 rfl) ?_
    refine lv_iload_n hx hb dX6_traderAt_29 rfl (lv_at hl 1 rfl) ?_
    obtain ⟨r_1, h_2, hf⟩ := oB_elim hf
    refine z_callVi (ws' := [(a_this, .inr (6, [.ref a_a, .ref a_fresh, .ref a_kept, .int v_keptMany, .int t1, .ref a_buffer, .int v_buffered, .int v_size, .int v_at, .int v_behind, .int v_kind, .int v_wrong, .int v_wrongAt, .int v_errorAt, .long v_number, .ref a_best, .ref a_rentBy, .ref a_bareBy, .ref a_aheadBy, .ref a_isEdge, .ref a_tried, .ref a_stands, .ref a_found, .ref a_foundOn, .ref a_moving, .int v_movingMany, .int v_foundIncome, .int v_foundMoves])), (a_a, .inl (cI, 180, .inl v_a))]) (wr := []) (As := [.int x1]) (rest := []) E.1 hl hw (c_X6_on h_2) (cwV 1 hts (z_gV mw_609 mw_610 mw_611 mw_597 mw_612) rfl rfl rfl (by decide +kernel) ⟨(Nat.le_of_ble_eq_true rfl), (Nat.le_of_ble_eq_true rfl)⟩) 2 [(0, 2)] [] rfl rfl rfl rfl rfl rfl (by decide +kernel) rfl (q0 := 0) rfl rfl rfl (Nat.le_of_ble_eq_true rfl) dX6_traderAt_30 ⟨Nat.le_of_ble_eq_true rfl, Nat.le_of_ble_eq_true rfl⟩ (fun H locs hw => ?_)
    cases hf
    exact z_iret E rfl hw dX6_traderAt_33
  · have hf := oI_neg hc hf
    refine lv_iconst (v := 0) hx hb dX6_traderAt_24 (by decide) ?_
    refine lv_goto (tgt := 33) hx hb dX6_traderAt_25 (by decide) ?_
    cases hf
    exact z_iret E rfl hw dX6_traderAt_33
set_option maxHeartbeats 4000000 in
set_option maxRecDepth 100000 in
theorem c_X6_traderAt {l : Launch} {D : va_G} {cI cZ cM : ClassId} {a_this a_a a_fresh a_kept a_buffer a_best a_rentBy a_bareBy a_aheadBy a_isEdge a_tried a_stands a_found a_foundOn a_moving : Nat} {v_keptMany : Int32} {v_buffered : Int32} {v_size : Int32} {v_at : Int32} {v_behind : Int32} {v_kind : Int32} {v_wrong : Int32} {v_wrongAt : Int32} {v_errorAt : Int32} {v_number : Int64} {v_movingMany : Int32} {v_foundIncome : Int32} {v_foundMoves : Int32} {res : Int32 × Int32} {sz : Nat} {n : Nat} {v_a : Nat → Int32} {v_thrown : Int32} {x1 : Int32} (hf : f_X6_traderAt n v_a v_thrown x1 = some res) : Met l yX6_traderAt zwX6_traderAt rmX6_traderAt (zPc D (zT cI cZ cM) [.ref a_this, .int x1] [(a_this, .inr (6, [.ref a_a, .ref a_fresh, .ref a_kept, .int v_keptMany, .int v_thrown, .ref a_buffer, .int v_buffered, .int v_size, .int v_at, .int v_behind, .int v_kind, .int v_wrong, .int v_wrongAt, .int v_errorAt, .long v_number, .ref a_best, .ref a_rentBy, .ref a_bareBy, .ref a_aheadBy, .ref a_isEdge, .ref a_tried, .ref a_stands, .ref a_found, .ref a_foundOn, .ref a_moving, .int v_movingMany, .int v_foundIncome, .int v_foundMoves])), (a_a, .inl (cI, 180, .inl v_a))] sz) (zQi D (zT cI cZ cM) res.1 [(a_this, .inr (6, [.ref a_a, .ref a_fresh, .ref a_kept, .int v_keptMany, .int res.2, .ref a_buffer, .int v_buffered, .int v_size, .int v_at, .int v_behind, .int v_kind, .int v_wrong, .int v_wrongAt, .int v_errorAt, .long v_number, .ref a_best, .ref a_rentBy, .ref a_bareBy, .ref a_aheadBy, .ref a_isEdge, .ref a_tried, .ref a_stands, .ref a_found, .ref a_foundOn, .ref a_moving, .int v_movingMany, .int v_foundIncome, .int v_foundMoves])), (a_a, .inl (cI, 180, .inl v_a))] (va_A [(a_this, .inr (6, [.ref a_a, .ref a_fresh, .ref a_kept, .int v_keptMany, .int v_thrown, .ref a_buffer, .int v_buffered, .int v_size, .int v_at, .int v_behind, .int v_kind, .int v_wrong, .int v_wrongAt, .int v_errorAt, .long v_number, .ref a_best, .ref a_rentBy, .ref a_bareBy, .ref a_aheadBy, .ref a_isEdge, .ref a_tried, .ref a_stands, .ref a_found, .ref a_foundOn, .ref a_moving, .int v_movingMany, .int v_foundIncome, .int v_foundMoves])), (a_a, .inl (cI, 180, .inl v_a))] sz)) 0 0 (va_A [(a_this, .inr (6, [.ref a_a, .ref a_fresh, .ref a_kept, .int v_keptMany, .int v_thrown, .ref a_buffer, .int v_buffered, .int v_size, .int v_at, .int v_behind, .int v_kind, .int v_wrong, .int v_wrongAt, .int v_errorAt, .long v_number, .ref a_best, .ref a_rentBy, .ref a_bareBy, .ref a_aheadBy, .ref a_isEdge, .ref a_tried, .ref a_stands, .ref a_found, .ref a_foundOn, .ref a_moving, .int v_movingMany, .int v_foundIncome, .int v_foundMoves])), (a_a, .inl (cI, 180, .inl v_a))] sz) := by
  refine z_met (cc := cX6_traderAt) (maxL := 2) (ret := (some .int)) (by decide) rfl (Nat.le_of_ble_eq_true rfl) ?_
  intro p e s m below meth c ls E hsz hw hl
  obtain ⟨⟨hx, hb, hml, hown, hts⟩, hr, hlocks⟩ := id E
  have hl : lv_has ls 2 [(0, .ref a_this), (1, .int x1)] := hl
  unfold f_X6_traderAt at hf
  refine lv_aload_n hx hb dX6_traderAt_0 rfl (lv_at hl 0 rfl) ?_
  refine lv_aload_n hx hb dX6_traderAt_1 rfl (lv_at hl 0 rfl) ?_
  refine lv_iload_n hx hb dX6_traderAt_2 rfl (lv_at hl 1 rfl) ?_
  obtain ⟨r_3, h_4, hf⟩ := oB_elim hf
  refine z_callVi (ws' := [(a_this, .inr (6, [.ref a_a, .ref a_fresh, .ref a_kept, .int v_keptMany, .int v_thrown, .ref a_buffer, .int v_buffered, .int v_size, .int v_at, .int v_behind, .int v_kind, .int v_wrong, .int v_wrongAt, .int v_errorAt, .long v_number, .ref a_best, .ref a_rentBy, .ref a_bareBy, .ref a_aheadBy, .ref a_isEdge, .ref a_tried, .ref a_stands, .ref a_found, .ref a_foundOn, .ref a_moving, .int v_movingMany, .int v_foundIncome, .int v_foundMoves])), (a_a, .inl (cI, 180, .inl v_a))]) (wr := []) (As := [.int x1]) (rest := [.ref a_this]) E.1 hl hw (c_X6_isPitch h_4) (cwV 1 hts (z_gV mw_664 mw_665 mw_666 mw_597 mw_667) rfl rfl rfl (by decide +kernel) ⟨(Nat.le_of_ble_eq_true rfl), (Nat.le_of_ble_eq_true rfl)⟩) 2 [(0, 2)] [] rfl rfl rfl rfl rfl rfl (by decide +kernel) rfl (q0 := 0) rfl rfl rfl (Nat.le_of_ble_eq_true rfl) dX6_traderAt_3 ⟨Nat.le_of_ble_eq_true rfl, Nat.le_of_ble_eq_true rfl⟩ (fun H locs hw => ?_)
  refine lv_if_eq (tgt := 13) hx hb dX6_traderAt_6 (by decide) (fun hc => ?_) (fun hc => ?_)
  · have hf := oI_pos hc hf
    refine lv_iconst (v := 1) hx hb dX6_traderAt_13 (by decide) ?_
    exact w_X6_traderAt_14 E  _ _ _ _ hf _ _ _ hw (lv_sub hl [0, 1] rfl)
  · have hf := oI_neg hc hf
    refine lv_iconst (v := 0) hx hb dX6_traderAt_9 (by decide) ?_
    refine lv_goto (tgt := 14) hx hb dX6_traderAt_10 (by decide) ?_
    exact w_X6_traderAt_14 E  _ _ _ _ hf _ _ _ hw (lv_sub hl [0, 1] rfl)
end
/-! X6_traderCount -/
section
variable {p : Program} {l : Launch} {e : Env} {s : State} {m : MethodId} {args : Array Value} {below : List Frame} {meth : Method} {c : Code} {D : va_G} {A : Nat → Prop} {cI cZ cM : ClassId} {a_this a_a a_fresh a_kept a_buffer a_best a_rentBy a_bareBy a_aheadBy a_isEdge a_tried a_stands a_found a_foundOn a_moving : Nat} {v_keptMany : Int32} {v_buffered : Int32} {v_size : Int32} {v_at : Int32} {v_behind : Int32} {v_kind : Int32} {v_wrong : Int32} {v_wrongAt : Int32} {v_errorAt : Int32} {v_number : Int64} {v_movingMany : Int32} {v_foundIncome : Int32} {v_foundMoves : Int32} {res : Int32 × Int32}
def rmX6_traderCount : Room := { frames := 0, cells := 0, slots := 0, locals := 0 }
abbrev zwX6_traderCount : List Cond := Cond.code yX6_traderCount cX6_traderCount 1 (some .int) :: wsAll
set_option maxHeartbeats 4000000 in
set_option maxRecDepth 100000 in
theorem c_X6_traderCount {l : Launch} {D : va_G} {cI cZ cM : ClassId} {a_this a_a a_fresh a_kept a_buffer a_best a_rentBy a_bareBy a_aheadBy a_isEdge a_tried a_stands a_found a_foundOn a_moving : Nat} {v_keptMany : Int32} {v_buffered : Int32} {v_size : Int32} {v_at : Int32} {v_behind : Int32} {v_kind : Int32} {v_wrong : Int32} {v_wrongAt : Int32} {v_errorAt : Int32} {v_number : Int64} {v_movingMany : Int32} {v_foundIncome : Int32} {v_foundMoves : Int32} {res : Int32 × Int32} {sz : Nat} {v_a : Nat → Int32} {v_thrown : Int32} (hf : f_X6_traderCount v_a v_thrown = some res) : Met l yX6_traderCount zwX6_traderCount rmX6_traderCount (zPc D (zT cI cZ cM) [.ref a_this] [(a_this, .inr (6, [.ref a_a, .ref a_fresh, .ref a_kept, .int v_keptMany, .int v_thrown, .ref a_buffer, .int v_buffered, .int v_size, .int v_at, .int v_behind, .int v_kind, .int v_wrong, .int v_wrongAt, .int v_errorAt, .long v_number, .ref a_best, .ref a_rentBy, .ref a_bareBy, .ref a_aheadBy, .ref a_isEdge, .ref a_tried, .ref a_stands, .ref a_found, .ref a_foundOn, .ref a_moving, .int v_movingMany, .int v_foundIncome, .int v_foundMoves])), (a_a, .inl (cI, 180, .inl v_a))] sz) (zQi D (zT cI cZ cM) res.1 [(a_this, .inr (6, [.ref a_a, .ref a_fresh, .ref a_kept, .int v_keptMany, .int res.2, .ref a_buffer, .int v_buffered, .int v_size, .int v_at, .int v_behind, .int v_kind, .int v_wrong, .int v_wrongAt, .int v_errorAt, .long v_number, .ref a_best, .ref a_rentBy, .ref a_bareBy, .ref a_aheadBy, .ref a_isEdge, .ref a_tried, .ref a_stands, .ref a_found, .ref a_foundOn, .ref a_moving, .int v_movingMany, .int v_foundIncome, .int v_foundMoves])), (a_a, .inl (cI, 180, .inl v_a))] (va_A [(a_this, .inr (6, [.ref a_a, .ref a_fresh, .ref a_kept, .int v_keptMany, .int v_thrown, .ref a_buffer, .int v_buffered, .int v_size, .int v_at, .int v_behind, .int v_kind, .int v_wrong, .int v_wrongAt, .int v_errorAt, .long v_number, .ref a_best, .ref a_rentBy, .ref a_bareBy, .ref a_aheadBy, .ref a_isEdge, .ref a_tried, .ref a_stands, .ref a_found, .ref a_foundOn, .ref a_moving, .int v_movingMany, .int v_foundIncome, .int v_foundMoves])), (a_a, .inl (cI, 180, .inl v_a))] sz)) 0 0 (va_A [(a_this, .inr (6, [.ref a_a, .ref a_fresh, .ref a_kept, .int v_keptMany, .int v_thrown, .ref a_buffer, .int v_buffered, .int v_size, .int v_at, .int v_behind, .int v_kind, .int v_wrong, .int v_wrongAt, .int v_errorAt, .long v_number, .ref a_best, .ref a_rentBy, .ref a_bareBy, .ref a_aheadBy, .ref a_isEdge, .ref a_tried, .ref a_stands, .ref a_found, .ref a_foundOn, .ref a_moving, .int v_movingMany, .int v_foundIncome, .int v_foundMoves])), (a_a, .inl (cI, 180, .inl v_a))] sz) := by
  refine z_met (cc := cX6_traderCount) (maxL := 1) (ret := (some .int)) (by decide) rfl (Nat.le_of_ble_eq_true rfl) ?_
  intro p e s m below meth c ls E hsz hw hl
  obtain ⟨⟨hx, hb, hml, hown, hts⟩, hr, hlocks⟩ := id E
  have hl : lv_has ls 1 [(0, .ref a_this)] := hl
  unfold f_X6_traderCount at hf
  refine lv_aload_n hx hb dX6_traderCount_0 rfl (lv_at hl 0 rfl) ?_
  refine lv_iconst (v := 0) hx hb dX6_traderCount_1 (by decide) ?_
  refine z_put (ws' := [(a_this, .inr (6, [.ref a_a, .ref a_fresh, .ref a_kept, .int v_keptMany, .int (0 : Int32), .ref a_buffer, .int v_buffered, .int v_size, .int v_at, .int v_behind, .int v_kind, .int v_wrong, .int v_wrongAt, .int v_errorAt, .long v_number, .ref a_best, .ref a_rentBy, .ref a_bareBy, .ref a_aheadBy, .ref a_isEdge, .ref a_tried, .ref a_stands, .ref a_found, .ref a_foundOn, .ref a_moving, .int v_movingMany, .int v_foundIncome, .int v_foundMoves])), (a_a, .inl (cI, 180, .inl v_a))]) E.1 hw in_wsX60 tyX6 tyX6_ok nmX6 0 rfl rfl 4 (z_lt rfl) mw_594 rfl rfl rfl (z_lt rfl) rfl dX6_traderCount_2 (fun H locs hw => ?_)
  refine lv_aload_n hx hb dX6_traderCount_5 rfl (lv_at hl 0 rfl) ?_
  refine z_get E.1 hw in_wsX60 0 rfl rfl 0 (z_lt rfl) mw_593 (v := .ref a_a) rfl dX6_traderCount_6 ?_
  refine lv_bipush (v := 74) hx hb dX6_traderCount_9 (by decide) ?_
  obtain ⟨h_1, hf⟩ := oA_elim hf
  refine z_iald E.1 hw 1 0 rfl rfl h_1 dX6_traderCount_11 ?_
  cases hf
  exact z_iret E rfl hw dX6_traderCount_12
end
/-! X6_undo -/
section
variable {p : Program} {l : Launch} {e : Env} {s : State} {m : MethodId} {args : Array Value} {below : List Frame} {meth : Method} {c : Code} {D : va_G} {A : Nat → Prop} {cI cZ cM : ClassId} {a_this a_a a_fresh a_kept a_buffer a_best a_rentBy a_bareBy a_aheadBy a_isEdge a_tried a_stands a_found a_foundOn a_moving : Nat} {v_buffered : Int32} {v_size : Int32} {v_at : Int32} {v_behind : Int32} {v_kind : Int32} {v_wrong : Int32} {v_wrongAt : Int32} {v_errorAt : Int32} {v_number : Int64} {v_movingMany : Int32} {v_foundIncome : Int32} {v_foundMoves : Int32} {res : Int32 × (Nat → Int32) × Int32 × Int32}
def rmX6_undo : Room := { frames := 0, cells := 0, slots := 0, locals := 0 }
abbrev zwX6_undo : List Cond := Cond.code yX6_undo cX6_undo 2 (some .int) :: wsAll
set_option maxHeartbeats 4000000 in
set_option maxRecDepth 100000 in
theorem w_X6_undo_37 {n : Nat} (E : zE p s m args meth c cX6_undo 2 (some .int) zwX6_undo RX6) : ∀ (fu : Nat), ∀ (x1 : Int32) (v_a : Nat → Int32) (v_kept : Nat → Int32) (v_keptMany : Int32) (v_thrown : Int32), f_X6_undo_37 n fu x1 v_a v_kept v_keptMany v_thrown = some res → ∀ (H : Heap) (locs : List Loc) (ls : Array Slot), zW D (zT cI cZ cM) A s [(a_this, .inr (6, [.ref a_a, .ref a_fresh, .ref a_kept, .int v_keptMany, .int v_thrown, .ref a_buffer, .int v_buffered, .int v_size, .int v_at, .int v_behind, .int v_kind, .int v_wrong, .int v_wrongAt, .int v_errorAt, .long v_number, .ref a_best, .ref a_rentBy, .ref a_bareBy, .ref a_aheadBy, .ref a_isEdge, .ref a_tried, .ref a_stands, .ref a_found, .ref a_foundOn, .ref a_moving, .int v_movingMany, .int v_foundIncome, .int v_foundMoves])), (a_a, .inl (cI, 180, .inl v_a)), (a_kept, .inl (cI, 1080, .inl v_kept))] H locs → lv_has ls 2 [(0, .ref a_this), (1, .int x1)] → W p l e rmX6_undo s m args below meth c H locs 0 0 (MQ below (zQi D (zT cI cZ cM) res.1 [(a_this, .inr (6, [.ref a_a, .ref a_fresh, .ref a_kept, .int res.2.2.1, .int res.2.2.2, .ref a_buffer, .int v_buffered, .int v_size, .int v_at, .int v_behind, .int v_kind, .int v_wrong, .int v_wrongAt, .int v_errorAt, .long v_number, .ref a_best, .ref a_rentBy, .ref a_bareBy, .ref a_aheadBy, .ref a_isEdge, .ref a_tried, .ref a_stands, .ref a_found, .ref a_foundOn, .ref a_moving, .int v_movingMany, .int v_foundIncome, .int v_foundMoves])), (a_a, .inl (cI, 180, .inl res.2.1)), (a_kept, .inl (cI, 1080, .inl v_kept))] A) args s 0 0 A) (F0 m 37 ls []) := by
  obtain ⟨⟨hx, hb, hml, hown, hts⟩, hr, hlocks⟩ := id E
  intro fu
  induction fu with
  | zero => intro x1 v_a v_kept v_keptMany v_thrown hf; rw [f_X6_undo_37.eq_1] at hf; cases hf
  | succ fu ih =>
    intro x1 v_a v_kept v_keptMany v_thrown hf H locs ls hw hl
    rw [f_X6_undo_37.eq_2] at hf
    refine lv_iload_n hx hb dX6_undo_37 rfl (lv_at hl 1 rfl) ?_
    refine lv_sipush (v := 180) hx hb dX6_undo_38 (by decide) ?_
    refine lv_icmp_ge (tgt := 71) hx hb dX6_undo_41 (by decide) (fun hc => ?_) (fun hc => ?_)
    · have hf := oI_pos hc hf
      refine lv_aload_n hx hb dX6_undo_71 rfl (lv_at hl 0 rfl) ?_
      refine z_get E.1 hw in_wsX60 0 rfl rfl 3 (z_lt rfl) mw_603 (v := .int v_keptMany) rfl dX6_undo_72 ?_
      cases hf
      exact z_iret E rfl hw dX6_undo_75
    · have hf := oI_neg hc hf
      refine lv_aload_n hx hb dX6_undo_44 rfl (lv_at hl 0 rfl) ?_
      refine z_get E.1 hw in_wsX60 0 rfl rfl 0 (z_lt rfl) mw_593 (v := .ref a_a) rfl dX6_undo_45 ?_
      refine lv_iload_n hx hb dX6_undo_48 rfl (lv_at hl 1 rfl) ?_
      refine lv_aload_n hx hb dX6_undo_49 rfl (lv_at hl 0 rfl) ?_
      refine z_get E.1 hw in_wsX60 0 rfl rfl 2 (z_lt rfl) mw_604 (v := .ref a_kept) rfl dX6_undo_50 ?_
      refine lv_sipush (v := 180) hx hb dX6_undo_53 (by decide) ?_
      refine lv_aload_n hx hb dX6_undo_56 rfl (lv_at hl 0 rfl) ?_
      refine z_get E.1 hw in_wsX60 0 rfl rfl 3 (z_lt rfl) mw_603 (v := .int v_keptMany) rfl dX6_undo_57 ?_
      refine lv_imul hx hb dX6_undo_60 ?_
      refine lv_iload_n hx hb dX6_undo_61 rfl (lv_at hl 1 rfl) ?_
      refine lv_iadd hx hb dX6_undo_62 ?_
      obtain ⟨h_1, hf⟩ := oA_elim hf
      refine z_iald E.1 hw 2 0 rfl rfl h_1 dX6_undo_63 ?_
      obtain ⟨h_2, hf⟩ := oA_elim hf
      obtain ⟨v_3, e_v_3, hf⟩ := oL_elim hf
      refine z_iast (ws' := [(a_this, .inr (6, [.ref a_a, .ref a_fresh, .ref a_kept, .int v_keptMany, .int v_thrown, .ref a_buffer, .int v_buffered, .int v_size, .int v_at, .int v_behind, .int v_kind, .int v_wrong, .int v_wrongAt, .int v_errorAt, .long v_number, .ref a_best, .ref a_rentBy, .ref a_bareBy, .ref a_aheadBy, .ref a_isEdge, .ref a_tried, .ref a_stands, .ref a_found, .ref a_foundOn, .ref a_moving, .int v_movingMany, .int v_foundIncome, .int v_foundMoves])), (a_a, .inl (cI, 180, .inl v_3)), (a_kept, .inl (cI, 1080, .inl v_kept))]) E.1 hw 1 0 rfl rfl h_2 (by subst e_v_3; rfl) dX6_undo_64 (fun H locs hw => ?_)
      refine lv_iinc (v := (x1 + (1 : Int32))) (lv' := [(1, .int (x1 + (1 : Int32))), (0, .ref a_this)]) hx hb dX6_undo_65 hl (k := 1) rfl rfl (z_lt rfl) rfl (fun ls hl => ?_)
      refine lv_goto (tgt := 37) hx hb dX6_undo_68 (by decide) ?_
      exact ih _ _ _ _ _ hf _ _ _ hw (lv_sub hl [1, 0] rfl)
set_option maxHeartbeats 4000000 in
set_option maxRecDepth 100000 in
theorem w_X6_undo_13 {n : Nat} (E : zE p s m args meth c cX6_undo 2 (some .int) zwX6_undo RX6) : ∀ (t1 : Int32) (v_a : Nat → Int32) (v_kept : Nat → Int32) (v_keptMany : Int32) (v_thrown : Int32), f_X6_undo_13 n t1 v_a v_kept v_keptMany v_thrown = some res → ∀ (H : Heap) (locs : List Loc) (ls : Array Slot), zW D (zT cI cZ cM) A s [(a_this, .inr (6, [.ref a_a, .ref a_fresh, .ref a_kept, .int v_keptMany, .int v_thrown, .ref a_buffer, .int v_buffered, .int v_size, .int v_at, .int v_behind, .int v_kind, .int v_wrong, .int v_wrongAt, .int v_errorAt, .long v_number, .ref a_best, .ref a_rentBy, .ref a_bareBy, .ref a_aheadBy, .ref a_isEdge, .ref a_tried, .ref a_stands, .ref a_found, .ref a_foundOn, .ref a_moving, .int v_movingMany, .int v_foundIncome, .int v_foundMoves])), (a_a, .inl (cI, 180, .inl v_a)), (a_kept, .inl (cI, 1080, .inl v_kept))] H locs → lv_has ls 2 [(0, .ref a_this)] → W p l e rmX6_undo s m args below meth c H locs 0 0 (MQ below (zQi D (zT cI cZ cM) res.1 [(a_this, .inr (6, [.ref a_a, .ref a_fresh, .ref a_kept, .int res.2.2.1, .int res.2.2.2, .ref a_buffer, .int v_buffered, .int v_size, .int v_at, .int v_behind, .int v_kind, .int v_wrong, .int v_wrongAt, .int v_errorAt, .long v_number, .ref a_best, .ref a_rentBy, .ref a_bareBy, .ref a_aheadBy, .ref a_isEdge, .ref a_tried, .ref a_stands, .ref a_found, .ref a_foundOn, .ref a_moving, .int v_movingMany, .int v_foundIncome, .int v_foundMoves])), (a_a, .inl (cI, 180, .inl res.2.1)), (a_kept, .inl (cI, 1080, .inl v_kept))] A) args s 0 0 A) (F0 m 13 ls [.int t1, .ref a_this]) := by
  obtain ⟨⟨hx, hb, hml, hown, hts⟩, hr, hlocks⟩ := id E
  intro t1 v_a v_kept v_keptMany v_thrown hf H locs ls hw hl
  unfold f_X6_undo_13 at hf
  refine z_put (ws' := [(a_this, .inr (6, [.ref a_a, .ref a_fresh, .ref a_kept, .int v_keptMany, .int t1, .ref a_buffer, .int v_buffered, .int v_size, .int v_at, .int v_behind, .int v_kind, .int v_wrong, .int v_wrongAt, .int v_errorAt, .long v_number, .ref a_best, .ref a_rentBy, .ref a_bareBy, .ref a_aheadBy, .ref a_isEdge, .ref a_tried, .ref a_stands, .ref a_found, .ref a_foundOn, .ref a_moving, .int v_movingMany, .int v_foundIncome, .int v_foundMoves])), (a_a, .inl (cI, 180, .inl v_a)), (a_kept, .inl (cI, 1080, .inl v_kept))]) E.1 hw in_wsX60 tyX6 tyX6_ok nmX6 0 rfl rfl 4 (z_lt rfl) mw_594 rfl rfl rfl (z_lt rfl) rfl dX6_undo_13 (fun H locs hw => ?_)
  refine lv_aload_n hx hb dX6_undo_16 rfl (lv_at hl 0 rfl) ?_
  refine z_get E.1 hw in_wsX60 0 rfl rfl 4 (z_lt rfl) mw_594 (v := .int t1) rfl dX6_undo_17 ?_
  refine lv_if_le (tgt := 25) hx hb dX6_undo_20 (by decide) (fun hc => ?_) (fun hc => ?_)
  · have hf := oI_pos hc hf
    refine lv_aload_n hx hb dX6_undo_25 rfl (lv_at hl 0 rfl) ?_
    refine lv_dup hx hb dX6_undo_26 rfl ?_
    refine z_get E.1 hw in_wsX60 0 rfl rfl 3 (z_lt rfl) mw_603 (v := .int v_keptMany) rfl dX6_undo_27 ?_
    refine lv_iconst (v := 1) hx hb dX6_undo_30 (by decide) ?_
    refine lv_isub hx hb dX6_undo_31 ?_
    obtain ⟨y_4, e_y_4, hf⟩ := oL_elim hf
    refine z_top e_y_4 ?_
    refine z_put (ws' := [(a_this, .inr (6, [.ref a_a, .ref a_fresh, .ref a_kept, .int y_4, .int t1, .ref a_buffer, .int v_buffered, .int v_size, .int v_at, .int v_behind, .int v_kind, .int v_wrong, .int v_wrongAt, .int v_errorAt, .long v_number, .ref a_best, .ref a_rentBy, .ref a_bareBy, .ref a_aheadBy, .ref a_isEdge, .ref a_tried, .ref a_stands, .ref a_found, .ref a_foundOn, .ref a_moving, .int v_movingMany, .int v_foundIncome, .int v_foundMoves])), (a_a, .inl (cI, 180, .inl v_a)), (a_kept, .inl (cI, 1080, .inl v_kept))]) E.1 hw in_wsX60 tyX6 tyX6_ok nmX6 0 rfl rfl 3 (z_lt rfl) mw_603 rfl rfl rfl (z_lt rfl) rfl dX6_undo_32 (fun H locs hw => ?_)
    refine lv_iconst (v := 0) hx hb dX6_undo_35 (by decide) ?_
    refine lv_istore_n (lv' := [(1, .int (0 : Int32)), (0, .ref a_this)]) hx hb dX6_undo_36 rfl hl (z_lt rfl) rfl (fun ls hl => ?_)
    exact w_X6_undo_37 E  n _ _ _ _ _ hf _ _ _ hw (lv_sub hl [1, 0] rfl)
  · have hf := oI_neg hc hf
    refine lv_iconst (v := 0) hx hb dX6_undo_23 (by decide) ?_
    cases hf
    exact z_iret E rfl hw dX6_undo_24
set_option maxHeartbeats 4000000 in
set_option maxRecDepth 100000 in
theorem c_X6_undo {l : Launch} {D : va_G} {cI cZ cM : ClassId} {a_this a_a a_fresh a_kept a_buffer a_best a_rentBy a_bareBy a_aheadBy a_isEdge a_tried a_stands a_found a_foundOn a_moving : Nat} {v_buffered : Int32} {v_size : Int32} {v_at : Int32} {v_behind : Int32} {v_kind : Int32} {v_wrong : Int32} {v_wrongAt : Int32} {v_errorAt : Int32} {v_number : Int64} {v_movingMany : Int32} {v_foundIncome : Int32} {v_foundMoves : Int32} {res : Int32 × (Nat → Int32) × Int32 × Int32} {sz : Nat} {n : Nat} {v_a : Nat → Int32} {v_kept : Nat → Int32} {v_keptMany : Int32} {v_thrown : Int32} (hf : f_X6_undo n v_a v_kept v_keptMany v_thrown = some res) : Met l yX6_undo zwX6_undo rmX6_undo (zPc D (zT cI cZ cM) [.ref a_this] [(a_this, .inr (6, [.ref a_a, .ref a_fresh, .ref a_kept, .int v_keptMany, .int v_thrown, .ref a_buffer, .int v_buffered, .int v_size, .int v_at, .int v_behind, .int v_kind, .int v_wrong, .int v_wrongAt, .int v_errorAt, .long v_number, .ref a_best, .ref a_rentBy, .ref a_bareBy, .ref a_aheadBy, .ref a_isEdge, .ref a_tried, .ref a_stands, .ref a_found, .ref a_foundOn, .ref a_moving, .int v_movingMany, .int v_foundIncome, .int v_foundMoves])), (a_a, .inl (cI, 180, .inl v_a)), (a_kept, .inl (cI, 1080, .inl v_kept))] sz) (zQi D (zT cI cZ cM) res.1 [(a_this, .inr (6, [.ref a_a, .ref a_fresh, .ref a_kept, .int res.2.2.1, .int res.2.2.2, .ref a_buffer, .int v_buffered, .int v_size, .int v_at, .int v_behind, .int v_kind, .int v_wrong, .int v_wrongAt, .int v_errorAt, .long v_number, .ref a_best, .ref a_rentBy, .ref a_bareBy, .ref a_aheadBy, .ref a_isEdge, .ref a_tried, .ref a_stands, .ref a_found, .ref a_foundOn, .ref a_moving, .int v_movingMany, .int v_foundIncome, .int v_foundMoves])), (a_a, .inl (cI, 180, .inl res.2.1)), (a_kept, .inl (cI, 1080, .inl v_kept))] (va_A [(a_this, .inr (6, [.ref a_a, .ref a_fresh, .ref a_kept, .int v_keptMany, .int v_thrown, .ref a_buffer, .int v_buffered, .int v_size, .int v_at, .int v_behind, .int v_kind, .int v_wrong, .int v_wrongAt, .int v_errorAt, .long v_number, .ref a_best, .ref a_rentBy, .ref a_bareBy, .ref a_aheadBy, .ref a_isEdge, .ref a_tried, .ref a_stands, .ref a_found, .ref a_foundOn, .ref a_moving, .int v_movingMany, .int v_foundIncome, .int v_foundMoves])), (a_a, .inl (cI, 180, .inl v_a)), (a_kept, .inl (cI, 1080, .inl v_kept))] sz)) 0 0 (va_A [(a_this, .inr (6, [.ref a_a, .ref a_fresh, .ref a_kept, .int v_keptMany, .int v_thrown, .ref a_buffer, .int v_buffered, .int v_size, .int v_at, .int v_behind, .int v_kind, .int v_wrong, .int v_wrongAt, .int v_errorAt, .long v_number, .ref a_best, .ref a_rentBy, .ref a_bareBy, .ref a_aheadBy, .ref a_isEdge, .ref a_tried, .ref a_stands, .ref a_found, .ref a_foundOn, .ref a_moving, .int v_movingMany, .int v_foundIncome, .int v_foundMoves])), (a_a, .inl (cI, 180, .inl v_a)), (a_kept, .inl (cI, 1080, .inl v_kept))] sz) := by
  refine z_met (cc := cX6_undo) (maxL := 2) (ret := (some .int)) (by decide) rfl (Nat.le_of_ble_eq_true rfl) ?_
  intro p e s m below meth c ls E hsz hw hl
  obtain ⟨⟨hx, hb, hml, hown, hts⟩, hr, hlocks⟩ := id E
  have hl : lv_has ls 2 [(0, .ref a_this)] := hl
  unfold f_X6_undo at hf
  refine lv_aload_n hx hb dX6_undo_0 rfl (lv_at hl 0 rfl) ?_
  refine lv_aload_n hx hb dX6_undo_1 rfl (lv_at hl 0 rfl) ?_
  refine z_get E.1 hw in_wsX60 0 rfl rfl 3 (z_lt rfl) mw_603 (v := .int v_keptMany) rfl dX6_undo_2 ?_
  refine lv_if_ne (tgt := 12) hx hb dX6_undo_5 (by decide) (fun hc => ?_) (fun hc => ?_)
  · have hf := oI_neg hc hf
    refine lv_iconst (v := 0) hx hb dX6_undo_12 (by decide) ?_
    exact w_X6_undo_13 E  _ _ _ _ _ hf _ _ _ hw (lv_sub hl [0] rfl)
  · have hf := oI_pos hc hf
    refine lv_iconst (v := 1) hx hb dX6_undo_8 (by decide) ?_
    refine lv_goto (tgt := 13) hx hb dX6_undo_9 (by decide) ?_
    exact w_X6_undo_13 E  _ _ _ _ _ hf _ _ _ hw (lv_sub hl [0] rfl)
end
