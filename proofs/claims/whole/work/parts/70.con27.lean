/-! X6_insert -/
section
variable {p : Program} {l : Launch} {e : Env} {s : State} {m : MethodId} {args : Array Value} {below : List Frame} {meth : Method} {c : Code} {D : va_G} {A : Nat → Prop} {cI cZ cM : ClassId} {a_this a_a a_fresh a_kept a_buffer a_best a_rentBy a_bareBy a_aheadBy a_isEdge a_tried a_stands a_found a_foundOn a_moving : Nat} {v_buffered : Int32} {v_size : Int32} {v_at : Int32} {v_behind : Int32} {v_kind : Int32} {v_wrong : Int32} {v_wrongAt : Int32} {v_errorAt : Int32} {v_number : Int64} {res : Int32 × (Nat → Int32) × (Nat → Int32) × Int32 × Int32 × (Nat → Int32) × (Nat → Int32) × (Nat → Int32) × (Nat → Int32) × (Nat → Int32) × Int32 × Int32 × Int32}
def rmX6_insert : Room := { frames := 11, cells := 0, slots := 0, locals := 257 }
abbrev zwX6_insert : List Cond := Cond.code yX6_insert cX6_insert 4 (some .int) :: wsAll
set_option maxHeartbeats 4000000 in
set_option maxRecDepth 100000 in
theorem w_X6_insert_57 {n : Nat} (E : zE p s m args meth c cX6_insert 4 (some .int) zwX6_insert RX6) : ∀ (fu : Nat), ∀ (x3 : Int32) (v_a : Nat → Int32) (v_kept : Nat → Int32) (v_keptMany : Int32) (v_thrown : Int32) (v_tried : Nat → Int32) (v_stands : Nat → Int32) (v_found : Nat → Int32) (v_foundOn : Nat → Int32) (v_moving : Nat → Int32) (v_movingMany : Int32) (v_foundIncome : Int32) (v_foundMoves : Int32), f_X6_insert_57 n fu x3 v_a v_kept v_keptMany v_thrown v_tried v_stands v_found v_foundOn v_moving v_movingMany v_foundIncome v_foundMoves = some res → ∀ (H : Heap) (locs : List Loc) (ls : Array Slot), zW D (zT cI cZ cM) A s [(a_this, .inr (6, [.ref a_a, .ref a_fresh, .ref a_kept, .int v_keptMany, .int v_thrown, .ref a_buffer, .int v_buffered, .int v_size, .int v_at, .int v_behind, .int v_kind, .int v_wrong, .int v_wrongAt, .int v_errorAt, .long v_number, .ref a_best, .ref a_rentBy, .ref a_bareBy, .ref a_aheadBy, .ref a_isEdge, .ref a_tried, .ref a_stands, .ref a_found, .ref a_foundOn, .ref a_moving, .int v_movingMany, .int v_foundIncome, .int v_foundMoves])), (a_a, .inl (cI, 180, .inl v_a)), (a_kept, .inl (cI, 1080, .inl v_kept)), (a_tried, .inl (cI, 8, .inl v_tried)), (a_stands, .inl (cI, 24, .inl v_stands)), (a_found, .inl (cI, 8, .inl v_found)), (a_foundOn, .inl (cI, 24, .inl v_foundOn)), (a_moving, .inl (cI, 3, .inl v_moving))] H locs → lv_has ls 4 [(0, .ref a_this), (3, .int x3)] → W p l e rmX6_insert s m args below meth c H locs 0 0 (MQ below (zQi D (zT cI cZ cM) res.1 [(a_this, .inr (6, [.ref a_a, .ref a_fresh, .ref a_kept, .int res.2.2.2.1, .int res.2.2.2.2.1, .ref a_buffer, .int v_buffered, .int v_size, .int v_at, .int v_behind, .int v_kind, .int v_wrong, .int v_wrongAt, .int v_errorAt, .long v_number, .ref a_best, .ref a_rentBy, .ref a_bareBy, .ref a_aheadBy, .ref a_isEdge, .ref a_tried, .ref a_stands, .ref a_found, .ref a_foundOn, .ref a_moving, .int res.2.2.2.2.2.2.2.2.2.2.1, .int res.2.2.2.2.2.2.2.2.2.2.2.1, .int res.2.2.2.2.2.2.2.2.2.2.2.2])), (a_a, .inl (cI, 180, .inl res.2.1)), (a_kept, .inl (cI, 1080, .inl res.2.2.1)), (a_tried, .inl (cI, 8, .inl res.2.2.2.2.2.1)), (a_stands, .inl (cI, 24, .inl res.2.2.2.2.2.2.1)), (a_found, .inl (cI, 8, .inl res.2.2.2.2.2.2.2.1)), (a_foundOn, .inl (cI, 24, .inl res.2.2.2.2.2.2.2.2.1)), (a_moving, .inl (cI, 3, .inl res.2.2.2.2.2.2.2.2.2.1))] A) args s 0 0 A) (F0 m 57 ls []) := by
  obtain ⟨⟨hx, hb, hml, hown, hts⟩, hr, hlocks⟩ := id E
  intro fu
  induction fu with
  | zero => intro x3 v_a v_kept v_keptMany v_thrown v_tried v_stands v_found v_foundOn v_moving v_movingMany v_foundIncome v_foundMoves hf; rw [f_X6_insert_57.eq_1] at hf; cases hf
  | succ fu ih =>
    intro x3 v_a v_kept v_keptMany v_thrown v_tried v_stands v_found v_foundOn v_moving v_movingMany v_foundIncome v_foundMoves hf H locs ls hw hl
    rw [f_X6_insert_57.eq_2] at hf
    refine lv_iload_n hx hb dX6_insert_57 rfl (lv_at hl 1 rfl) ?_
    refine lv_bipush (v := 8) hx hb dX6_insert_58 (by decide) ?_
    refine lv_icmp_ge (tgt := 84) hx hb dX6_insert_60 (by decide) (fun hc => ?_) (fun hc => ?_)
    · have hf := oI_pos hc hf
      refine lv_aload_n hx hb dX6_insert_84 rfl (lv_at hl 0 rfl) ?_
      refine z_get E.1 hw in_wsX60 0 rfl rfl 27 (z_lt rfl) mw_707 (v := .int v_foundMoves) rfl dX6_insert_85 ?_
      cases hf
      exact z_iret E rfl hw dX6_insert_88
    · have hf := oI_neg hc hf
      refine lv_aload_n hx hb dX6_insert_63 rfl (lv_at hl 0 rfl) ?_
      refine z_get E.1 hw in_wsX60 0 rfl rfl 0 (z_lt rfl) mw_594 (v := .ref a_a) rfl dX6_insert_64 ?_
      refine lv_bipush (v := 107) hx hb dX6_insert_67 (by decide) ?_
      refine lv_iload_n hx hb dX6_insert_69 rfl (lv_at hl 1 rfl) ?_
      refine lv_iadd hx hb dX6_insert_70 ?_
      refine lv_aload_n hx hb dX6_insert_71 rfl (lv_at hl 0 rfl) ?_
      refine z_get E.1 hw in_wsX60 0 rfl rfl 22 (z_lt rfl) mw_708 (v := .ref a_found) rfl dX6_insert_72 ?_
      refine lv_iload_n hx hb dX6_insert_75 rfl (lv_at hl 1 rfl) ?_
      obtain ⟨h_1, hf⟩ := oA_elim hf
      refine z_iald E.1 hw 5 0 rfl rfl h_1 dX6_insert_76 ?_
      obtain ⟨h_2, hf⟩ := oA_elim hf
      obtain ⟨v_3, e_v_3, hf⟩ := oL_elim hf
      refine z_iast (ws' := [(a_this, .inr (6, [.ref a_a, .ref a_fresh, .ref a_kept, .int v_keptMany, .int v_thrown, .ref a_buffer, .int v_buffered, .int v_size, .int v_at, .int v_behind, .int v_kind, .int v_wrong, .int v_wrongAt, .int v_errorAt, .long v_number, .ref a_best, .ref a_rentBy, .ref a_bareBy, .ref a_aheadBy, .ref a_isEdge, .ref a_tried, .ref a_stands, .ref a_found, .ref a_foundOn, .ref a_moving, .int v_movingMany, .int v_foundIncome, .int v_foundMoves])), (a_a, .inl (cI, 180, .inl v_3)), (a_kept, .inl (cI, 1080, .inl v_kept)), (a_tried, .inl (cI, 8, .inl v_tried)), (a_stands, .inl (cI, 24, .inl v_stands)), (a_found, .inl (cI, 8, .inl v_found)), (a_foundOn, .inl (cI, 24, .inl v_foundOn)), (a_moving, .inl (cI, 3, .inl v_moving))]) E.1 hw 1 0 rfl rfl h_2 (by subst e_v_3; rfl) dX6_insert_77 (fun H locs hw => ?_)
      refine lv_iinc (v := (x3 + (1 : Int32))) (lv' := [(3, .int (x3 + (1 : Int32))), (0, .ref a_this)]) hx hb dX6_insert_78 hl (k := 1) rfl rfl (z_lt rfl) rfl (fun ls hl => ?_)
      refine lv_goto (tgt := 57) hx hb dX6_insert_81 (by decide) ?_
      exact ih _ _ _ _ _ _ _ _ _ _ _ _ _ hf _ _ _ hw (lv_sub hl [1, 0] rfl)
set_option maxHeartbeats 4000000 in
set_option maxRecDepth 100000 in
theorem w_X6_insert_39 {n : Nat} (E : zE p s m args meth c cX6_insert 4 (some .int) zwX6_insert RX6) : ∀ (t1 : Int32) (v_a : Nat → Int32) (v_kept : Nat → Int32) (v_keptMany : Int32) (v_thrown : Int32) (v_tried : Nat → Int32) (v_stands : Nat → Int32) (v_found : Nat → Int32) (v_foundOn : Nat → Int32) (v_moving : Nat → Int32) (v_movingMany : Int32) (v_foundIncome : Int32) (v_foundMoves : Int32), f_X6_insert_39 n t1 v_a v_kept v_keptMany v_thrown v_tried v_stands v_found v_foundOn v_moving v_movingMany v_foundIncome v_foundMoves = some res → ∀ (H : Heap) (locs : List Loc) (ls : Array Slot), zW D (zT cI cZ cM) A s [(a_this, .inr (6, [.ref a_a, .ref a_fresh, .ref a_kept, .int v_keptMany, .int v_thrown, .ref a_buffer, .int v_buffered, .int v_size, .int v_at, .int v_behind, .int v_kind, .int v_wrong, .int v_wrongAt, .int v_errorAt, .long v_number, .ref a_best, .ref a_rentBy, .ref a_bareBy, .ref a_aheadBy, .ref a_isEdge, .ref a_tried, .ref a_stands, .ref a_found, .ref a_foundOn, .ref a_moving, .int v_movingMany, .int v_foundIncome, .int v_foundMoves])), (a_a, .inl (cI, 180, .inl v_a)), (a_kept, .inl (cI, 1080, .inl v_kept)), (a_tried, .inl (cI, 8, .inl v_tried)), (a_stands, .inl (cI, 24, .inl v_stands)), (a_found, .inl (cI, 8, .inl v_found)), (a_foundOn, .inl (cI, 24, .inl v_foundOn)), (a_moving, .inl (cI, 3, .inl v_moving))] H locs → lv_has ls 4 [(0, .ref a_this)] → W p l e rmX6_insert s m args below meth c H locs 0 0 (MQ below (zQi D (zT cI cZ cM) res.1 [(a_this, .inr (6, [.ref a_a, .ref a_fresh, .ref a_kept, .int res.2.2.2.1, .int res.2.2.2.2.1, .ref a_buffer, .int v_buffered, .int v_size, .int v_at, .int v_behind, .int v_kind, .int v_wrong, .int v_wrongAt, .int v_errorAt, .long v_number, .ref a_best, .ref a_rentBy, .ref a_bareBy, .ref a_aheadBy, .ref a_isEdge, .ref a_tried, .ref a_stands, .ref a_found, .ref a_foundOn, .ref a_moving, .int res.2.2.2.2.2.2.2.2.2.2.1, .int res.2.2.2.2.2.2.2.2.2.2.2.1, .int res.2.2.2.2.2.2.2.2.2.2.2.2])), (a_a, .inl (cI, 180, .inl res.2.1)), (a_kept, .inl (cI, 1080, .inl res.2.2.1)), (a_tried, .inl (cI, 8, .inl res.2.2.2.2.2.1)), (a_stands, .inl (cI, 24, .inl res.2.2.2.2.2.2.1)), (a_found, .inl (cI, 8, .inl res.2.2.2.2.2.2.2.1)), (a_foundOn, .inl (cI, 24, .inl res.2.2.2.2.2.2.2.2.1)), (a_moving, .inl (cI, 3, .inl res.2.2.2.2.2.2.2.2.2.1))] A) args s 0 0 A) (F0 m 39 ls [.int t1, .ref a_this]) := by
  obtain ⟨⟨hx, hb, hml, hown, hts⟩, hr, hlocks⟩ := id E
  intro t1 v_a v_kept v_keptMany v_thrown v_tried v_stands v_found v_foundOn v_moving v_movingMany v_foundIncome v_foundMoves hf H locs ls hw hl
  unfold f_X6_insert_39 at hf
  refine z_put (ws' := [(a_this, .inr (6, [.ref a_a, .ref a_fresh, .ref a_kept, .int v_keptMany, .int t1, .ref a_buffer, .int v_buffered, .int v_size, .int v_at, .int v_behind, .int v_kind, .int v_wrong, .int v_wrongAt, .int v_errorAt, .long v_number, .ref a_best, .ref a_rentBy, .ref a_bareBy, .ref a_aheadBy, .ref a_isEdge, .ref a_tried, .ref a_stands, .ref a_found, .ref a_foundOn, .ref a_moving, .int v_movingMany, .int v_foundIncome, .int v_foundMoves])), (a_a, .inl (cI, 180, .inl v_a)), (a_kept, .inl (cI, 1080, .inl v_kept)), (a_tried, .inl (cI, 8, .inl v_tried)), (a_stands, .inl (cI, 24, .inl v_stands)), (a_found, .inl (cI, 8, .inl v_found)), (a_foundOn, .inl (cI, 24, .inl v_foundOn)), (a_moving, .inl (cI, 3, .inl v_moving))]) E.1 hw in_wsX60 tyX6 tyX6_ok nmX6 0 rfl rfl 4 (z_lt rfl) mw_595 rfl rfl rfl (z_lt rfl) rfl dX6_insert_39 (fun H locs hw => ?_)
  refine lv_aload_n hx hb dX6_insert_42 rfl (lv_at hl 0 rfl) ?_
  refine z_get E.1 hw in_wsX60 0 rfl rfl 4 (z_lt rfl) mw_595 (v := .int t1) rfl dX6_insert_43 ?_
  refine lv_if_le (tgt := 51) hx hb dX6_insert_46 (by decide) (fun hc => ?_) (fun hc => ?_)
  · have hf := oI_pos hc hf
    refine lv_aload_n hx hb dX6_insert_51 rfl (lv_at hl 0 rfl) ?_
    obtain ⟨v_4, v_5, h_6, hf⟩ := oB2_elim hf
    refine z_callVv (ws' := [(a_this, .inr (6, [.ref a_a, .ref a_fresh, .ref a_kept, .int v_5, .int t1, .ref a_buffer, .int v_buffered, .int v_size, .int v_at, .int v_behind, .int v_kind, .int v_wrong, .int v_wrongAt, .int v_errorAt, .long v_number, .ref a_best, .ref a_rentBy, .ref a_bareBy, .ref a_aheadBy, .ref a_isEdge, .ref a_tried, .ref a_stands, .ref a_found, .ref a_foundOn, .ref a_moving, .int v_movingMany, .int v_foundIncome, .int v_foundMoves])), (a_a, .inl (cI, 180, .inl v_a)), (a_kept, .inl (cI, 1080, .inl v_4)), (a_tried, .inl (cI, 8, .inl v_tried)), (a_stands, .inl (cI, 24, .inl v_stands)), (a_found, .inl (cI, 8, .inl v_found)), (a_foundOn, .inl (cI, 24, .inl v_foundOn)), (a_moving, .inl (cI, 3, .inl v_moving))]) (wr := [(a_tried, .inl (cI, 8, .inl v_tried)), (a_stands, .inl (cI, 24, .inl v_stands)), (a_found, .inl (cI, 8, .inl v_found)), (a_foundOn, .inl (cI, 24, .inl v_foundOn)), (a_moving, .inl (cI, 3, .inl v_moving))]) (As := []) (rest := []) E.1 hl hw (c_X6_keeps h_6) (cwV 0 hts (z_gV mw_600 mw_601 mw_602 mw_598 mw_603) rfl rfl rfl (by decide +kernel) ⟨(Nat.le_of_ble_eq_true rfl), (Nat.le_of_ble_eq_true rfl)⟩) 8 [(0, 3)] [(3, 5)] rfl rfl rfl rfl rfl rfl (by decide +kernel) rfl (q0 := 0) rfl rfl rfl (Nat.le_of_ble_eq_true rfl) dX6_insert_52 ⟨Nat.le_of_ble_eq_true rfl, Nat.le_of_ble_eq_true rfl⟩ (fun H locs hw => ?_)
    refine lv_iconst (v := 0) hx hb dX6_insert_55 (by decide) ?_
    refine lv_istore_n (lv' := [(3, .int (0 : Int32)), (0, .ref a_this)]) hx hb dX6_insert_56 rfl hl (z_lt rfl) rfl (fun ls hl => ?_)
    exact w_X6_insert_57 E  n _ _ _ _ _ _ _ _ _ _ _ _ _ hf _ _ _ hw (lv_sub hl [1, 0] rfl)
  · have hf := oI_neg hc hf
    refine lv_iconst (v := 0) hx hb dX6_insert_49 (by decide) ?_
    cases hf
    exact z_iret E rfl hw dX6_insert_50
set_option maxHeartbeats 4000000 in
set_option maxRecDepth 100000 in
theorem c_X6_insert {l : Launch} {D : va_G} {cI cZ cM : ClassId} {a_this a_a a_fresh a_kept a_buffer a_best a_rentBy a_bareBy a_aheadBy a_isEdge a_tried a_stands a_found a_foundOn a_moving : Nat} {v_buffered : Int32} {v_size : Int32} {v_at : Int32} {v_behind : Int32} {v_kind : Int32} {v_wrong : Int32} {v_wrongAt : Int32} {v_errorAt : Int32} {v_number : Int64} {res : Int32 × (Nat → Int32) × (Nat → Int32) × Int32 × Int32 × (Nat → Int32) × (Nat → Int32) × (Nat → Int32) × (Nat → Int32) × (Nat → Int32) × Int32 × Int32 × Int32} {sz : Nat} {n : Nat} {v_a : Nat → Int32} {v_kept : Nat → Int32} {v_keptMany : Int32} {v_thrown : Int32} {v_tried : Nat → Int32} {v_stands : Nat → Int32} {v_found : Nat → Int32} {v_foundOn : Nat → Int32} {v_moving : Nat → Int32} {v_movingMany : Int32} {v_foundIncome : Int32} {v_foundMoves : Int32} {x1 : Int32} {x2 : Int32} (hf : f_X6_insert n v_a v_kept v_keptMany v_thrown v_tried v_stands v_found v_foundOn v_moving v_movingMany v_foundIncome v_foundMoves x1 x2 = some res) : Met l yX6_insert zwX6_insert rmX6_insert (zPc D (zT cI cZ cM) [.ref a_this, .int x1, .int x2] [(a_this, .inr (6, [.ref a_a, .ref a_fresh, .ref a_kept, .int v_keptMany, .int v_thrown, .ref a_buffer, .int v_buffered, .int v_size, .int v_at, .int v_behind, .int v_kind, .int v_wrong, .int v_wrongAt, .int v_errorAt, .long v_number, .ref a_best, .ref a_rentBy, .ref a_bareBy, .ref a_aheadBy, .ref a_isEdge, .ref a_tried, .ref a_stands, .ref a_found, .ref a_foundOn, .ref a_moving, .int v_movingMany, .int v_foundIncome, .int v_foundMoves])), (a_a, .inl (cI, 180, .inl v_a)), (a_kept, .inl (cI, 1080, .inl v_kept)), (a_tried, .inl (cI, 8, .inl v_tried)), (a_stands, .inl (cI, 24, .inl v_stands)), (a_found, .inl (cI, 8, .inl v_found)), (a_foundOn, .inl (cI, 24, .inl v_foundOn)), (a_moving, .inl (cI, 3, .inl v_moving))] sz) (zQi D (zT cI cZ cM) res.1 [(a_this, .inr (6, [.ref a_a, .ref a_fresh, .ref a_kept, .int res.2.2.2.1, .int res.2.2.2.2.1, .ref a_buffer, .int v_buffered, .int v_size, .int v_at, .int v_behind, .int v_kind, .int v_wrong, .int v_wrongAt, .int v_errorAt, .long v_number, .ref a_best, .ref a_rentBy, .ref a_bareBy, .ref a_aheadBy, .ref a_isEdge, .ref a_tried, .ref a_stands, .ref a_found, .ref a_foundOn, .ref a_moving, .int res.2.2.2.2.2.2.2.2.2.2.1, .int res.2.2.2.2.2.2.2.2.2.2.2.1, .int res.2.2.2.2.2.2.2.2.2.2.2.2])), (a_a, .inl (cI, 180, .inl res.2.1)), (a_kept, .inl (cI, 1080, .inl res.2.2.1)), (a_tried, .inl (cI, 8, .inl res.2.2.2.2.2.1)), (a_stands, .inl (cI, 24, .inl res.2.2.2.2.2.2.1)), (a_found, .inl (cI, 8, .inl res.2.2.2.2.2.2.2.1)), (a_foundOn, .inl (cI, 24, .inl res.2.2.2.2.2.2.2.2.1)), (a_moving, .inl (cI, 3, .inl res.2.2.2.2.2.2.2.2.2.1))] (va_A [(a_this, .inr (6, [.ref a_a, .ref a_fresh, .ref a_kept, .int v_keptMany, .int v_thrown, .ref a_buffer, .int v_buffered, .int v_size, .int v_at, .int v_behind, .int v_kind, .int v_wrong, .int v_wrongAt, .int v_errorAt, .long v_number, .ref a_best, .ref a_rentBy, .ref a_bareBy, .ref a_aheadBy, .ref a_isEdge, .ref a_tried, .ref a_stands, .ref a_found, .ref a_foundOn, .ref a_moving, .int v_movingMany, .int v_foundIncome, .int v_foundMoves])), (a_a, .inl (cI, 180, .inl v_a)), (a_kept, .inl (cI, 1080, .inl v_kept)), (a_tried, .inl (cI, 8, .inl v_tried)), (a_stands, .inl (cI, 24, .inl v_stands)), (a_found, .inl (cI, 8, .inl v_found)), (a_foundOn, .inl (cI, 24, .inl v_foundOn)), (a_moving, .inl (cI, 3, .inl v_moving))] sz)) 0 0 (va_A [(a_this, .inr (6, [.ref a_a, .ref a_fresh, .ref a_kept, .int v_keptMany, .int v_thrown, .ref a_buffer, .int v_buffered, .int v_size, .int v_at, .int v_behind, .int v_kind, .int v_wrong, .int v_wrongAt, .int v_errorAt, .long v_number, .ref a_best, .ref a_rentBy, .ref a_bareBy, .ref a_aheadBy, .ref a_isEdge, .ref a_tried, .ref a_stands, .ref a_found, .ref a_foundOn, .ref a_moving, .int v_movingMany, .int v_foundIncome, .int v_foundMoves])), (a_a, .inl (cI, 180, .inl v_a)), (a_kept, .inl (cI, 1080, .inl v_kept)), (a_tried, .inl (cI, 8, .inl v_tried)), (a_stands, .inl (cI, 24, .inl v_stands)), (a_found, .inl (cI, 8, .inl v_found)), (a_foundOn, .inl (cI, 24, .inl v_foundOn)), (a_moving, .inl (cI, 3, .inl v_moving))] sz) := by
  refine z_met (cc := cX6_insert) (maxL := 4) (ret := (some .int)) (by decide) rfl (Nat.le_of_ble_eq_true rfl) ?_
  intro p e s m below meth c ls E hsz hw hl
  obtain ⟨⟨hx, hb, hml, hown, hts⟩, hr, hlocks⟩ := id E
  have hl : lv_has ls 4 [(0, .ref a_this), (1, .int x1), (2, .int x2)] := hl
  unfold f_X6_insert at hf
  refine lv_aload_n hx hb dX6_insert_0 rfl (lv_at hl 0 rfl) ?_
  refine lv_aload_n hx hb dX6_insert_1 rfl (lv_at hl 0 rfl) ?_
  refine lv_iload_n hx hb dX6_insert_2 rfl (lv_at hl 1 rfl) ?_
  refine lv_iload_n hx hb dX6_insert_3 rfl (lv_at hl 2 rfl) ?_
  obtain ⟨r_7, h_8, hf⟩ := oB_elim hf
  refine z_callVi (ws' := [(a_this, .inr (6, [.ref a_a, .ref a_fresh, .ref a_kept, .int v_keptMany, .int v_thrown, .ref a_buffer, .int v_buffered, .int v_size, .int v_at, .int v_behind, .int v_kind, .int v_wrong, .int v_wrongAt, .int v_errorAt, .long v_number, .ref a_best, .ref a_rentBy, .ref a_bareBy, .ref a_aheadBy, .ref a_isEdge, .ref a_tried, .ref a_stands, .ref a_found, .ref a_foundOn, .ref a_moving, .int v_movingMany, .int v_foundIncome, .int v_foundMoves])), (a_a, .inl (cI, 180, .inl v_a)), (a_kept, .inl (cI, 1080, .inl v_kept)), (a_tried, .inl (cI, 8, .inl v_tried)), (a_stands, .inl (cI, 24, .inl v_stands)), (a_found, .inl (cI, 8, .inl v_found)), (a_foundOn, .inl (cI, 24, .inl v_foundOn)), (a_moving, .inl (cI, 3, .inl v_moving))]) (wr := [(a_kept, .inl (cI, 1080, .inl v_kept)), (a_tried, .inl (cI, 8, .inl v_tried)), (a_stands, .inl (cI, 24, .inl v_stands)), (a_found, .inl (cI, 8, .inl v_found)), (a_foundOn, .inl (cI, 24, .inl v_foundOn)), (a_moving, .inl (cI, 3, .inl v_moving))]) (As := [.int x1, .int x2]) (rest := [.ref a_this]) E.1 hl hw (c_X6_refusesInsertion h_8) (cwV 2 hts (z_gV mw_808 mw_809 mw_810 mw_598 mw_811) rfl rfl rfl (by decide +kernel) ⟨(Nat.le_of_ble_eq_true rfl), (Nat.le_of_ble_eq_true rfl)⟩) 8 [(0, 2)] [(2, 6)] rfl rfl rfl rfl rfl rfl (by decide +kernel) rfl (q0 := 0) rfl rfl rfl (Nat.le_of_ble_eq_true rfl) dX6_insert_4 ⟨Nat.le_of_ble_eq_true rfl, Nat.le_of_ble_eq_true rfl⟩ (fun H locs hw => ?_)
  refine z_put (ws' := [(a_this, .inr (6, [.ref a_a, .ref a_fresh, .ref a_kept, .int v_keptMany, .int r_7, .ref a_buffer, .int v_buffered, .int v_size, .int v_at, .int v_behind, .int v_kind, .int v_wrong, .int v_wrongAt, .int v_errorAt, .long v_number, .ref a_best, .ref a_rentBy, .ref a_bareBy, .ref a_aheadBy, .ref a_isEdge, .ref a_tried, .ref a_stands, .ref a_found, .ref a_foundOn, .ref a_moving, .int v_movingMany, .int v_foundIncome, .int v_foundMoves])), (a_a, .inl (cI, 180, .inl v_a)), (a_kept, .inl (cI, 1080, .inl v_kept)), (a_tried, .inl (cI, 8, .inl v_tried)), (a_stands, .inl (cI, 24, .inl v_stands)), (a_found, .inl (cI, 8, .inl v_found)), (a_foundOn, .inl (cI, 24, .inl v_foundOn)), (a_moving, .inl (cI, 3, .inl v_moving))]) E.1 hw in_wsX60 tyX6 tyX6_ok nmX6 0 rfl rfl 4 (z_lt rfl) mw_595 rfl rfl rfl (z_lt rfl) rfl dX6_insert_7 (fun H locs hw => ?_)
  refine lv_aload_n hx hb dX6_insert_10 rfl (lv_at hl 0 rfl) ?_
  refine z_get E.1 hw in_wsX60 0 rfl rfl 4 (z_lt rfl) mw_595 (v := .int r_7) rfl dX6_insert_11 ?_
  refine lv_if_le (tgt := 19) hx hb dX6_insert_14 (by decide) (fun hc => ?_) (fun hc => ?_)
  · have hf := oI_pos hc hf
    refine lv_aload_n hx hb dX6_insert_19 rfl (lv_at hl 0 rfl) ?_
    refine lv_iload_n hx hb dX6_insert_20 rfl (lv_at hl 1 rfl) ?_
    refine lv_iload_n hx hb dX6_insert_21 rfl (lv_at hl 2 rfl) ?_
    obtain ⟨v_9, v_10, v_11, v_12, v_13, v_14, v_15, v_16, h_17, hf⟩ := oB8_elim hf
    refine z_callVv (ws' := [(a_this, .inr (6, [.ref a_a, .ref a_fresh, .ref a_kept, .int v_keptMany, .int r_7, .ref a_buffer, .int v_buffered, .int v_size, .int v_at, .int v_behind, .int v_kind, .int v_wrong, .int v_wrongAt, .int v_errorAt, .long v_number, .ref a_best, .ref a_rentBy, .ref a_bareBy, .ref a_aheadBy, .ref a_isEdge, .ref a_tried, .ref a_stands, .ref a_found, .ref a_foundOn, .ref a_moving, .int v_14, .int v_15, .int v_16])), (a_a, .inl (cI, 180, .inl v_a)), (a_kept, .inl (cI, 1080, .inl v_kept)), (a_tried, .inl (cI, 8, .inl v_9)), (a_stands, .inl (cI, 24, .inl v_10)), (a_found, .inl (cI, 8, .inl v_11)), (a_foundOn, .inl (cI, 24, .inl v_12)), (a_moving, .inl (cI, 3, .inl v_13))]) (wr := [(a_kept, .inl (cI, 1080, .inl v_kept))]) (As := [.int x1, .int x2]) (rest := []) E.1 hl hw (c_X6_seeksInsertion h_17) (cwV 2 hts (z_gV mw_813 mw_814 mw_815 mw_598 mw_816) rfl rfl rfl (by decide +kernel) ⟨(Nat.le_of_ble_eq_true rfl), (Nat.le_of_ble_eq_true rfl)⟩) 8 [(0, 2), (3, 5)] [(2, 1)] rfl rfl rfl rfl rfl rfl (by decide +kernel) rfl (q0 := 0) rfl rfl rfl (Nat.le_of_ble_eq_true rfl) dX6_insert_22 ⟨Nat.le_of_ble_eq_true rfl, Nat.le_of_ble_eq_true rfl⟩ (fun H locs hw => ?_)
    refine lv_aload_n hx hb dX6_insert_25 rfl (lv_at hl 0 rfl) ?_
    refine lv_aload_n hx hb dX6_insert_26 rfl (lv_at hl 0 rfl) ?_
    refine z_get E.1 hw in_wsX60 0 rfl rfl 26 (z_lt rfl) mw_706 (v := .int v_15) rfl dX6_insert_27 ?_
    refine lv_iconst (v := -1) hx hb dX6_insert_30 (by decide) ?_
    refine lv_icmp_ne (tgt := 38) hx hb dX6_insert_31 (by decide) (fun hc => ?_) (fun hc => ?_)
    · have hf := oI_neg hc hf
      refine lv_iconst (v := 0) hx hb dX6_insert_38 (by decide) ?_
      exact w_X6_insert_39 E  _ _ _ _ _ _ _ _ _ _ _ _ _ hf _ _ _ hw (lv_sub hl [0] rfl)
    · have hf := oI_pos hc hf
      refine lv_iconst (v := 3) hx hb dX6_insert_34 (by decide) ?_
      refine lv_goto (tgt := 39) hx hb dX6_insert_35 (by decide) ?_
      exact w_X6_insert_39 E  _ _ _ _ _ _ _ _ _ _ _ _ _ hf _ _ _ hw (lv_sub hl [0] rfl)
  · have hf := oI_neg hc hf
    refine lv_iconst (v := 0) hx hb dX6_insert_17 (by decide) ?_
    cases hf
    exact z_iret E rfl hw dX6_insert_18
end
/-! X6_insertionIncome -/
section
variable {p : Program} {l : Launch} {e : Env} {s : State} {m : MethodId} {args : Array Value} {below : List Frame} {meth : Method} {c : Code} {D : va_G} {A : Nat → Prop} {cI cZ cM : ClassId} {a_this a_a a_fresh a_kept a_buffer a_best a_rentBy a_bareBy a_aheadBy a_isEdge a_tried a_stands a_found a_foundOn a_moving : Nat} {v_keptMany : Int32} {v_buffered : Int32} {v_size : Int32} {v_at : Int32} {v_behind : Int32} {v_kind : Int32} {v_wrong : Int32} {v_wrongAt : Int32} {v_errorAt : Int32} {v_number : Int64} {res : Int32 × Int32 × (Nat → Int32) × (Nat → Int32) × (Nat → Int32) × (Nat → Int32) × (Nat → Int32) × Int32 × Int32 × Int32}
def rmX6_insertionIncome : Room := { frames := 11, cells := 0, slots := 0, locals := 257 }
abbrev zwX6_insertionIncome : List Cond := Cond.code yX6_insertionIncome cX6_insertionIncome 3 (some .int) :: wsAll
set_option maxHeartbeats 4000000 in
set_option maxRecDepth 100000 in
theorem c_X6_insertionIncome {l : Launch} {D : va_G} {cI cZ cM : ClassId} {a_this a_a a_fresh a_kept a_buffer a_best a_rentBy a_bareBy a_aheadBy a_isEdge a_tried a_stands a_found a_foundOn a_moving : Nat} {v_keptMany : Int32} {v_buffered : Int32} {v_size : Int32} {v_at : Int32} {v_behind : Int32} {v_kind : Int32} {v_wrong : Int32} {v_wrongAt : Int32} {v_errorAt : Int32} {v_number : Int64} {res : Int32 × Int32 × (Nat → Int32) × (Nat → Int32) × (Nat → Int32) × (Nat → Int32) × (Nat → Int32) × Int32 × Int32 × Int32} {sz : Nat} {n : Nat} {v_a : Nat → Int32} {v_thrown : Int32} {v_tried : Nat → Int32} {v_stands : Nat → Int32} {v_found : Nat → Int32} {v_foundOn : Nat → Int32} {v_moving : Nat → Int32} {v_movingMany : Int32} {v_foundIncome : Int32} {v_foundMoves : Int32} {x1 : Int32} {x2 : Int32} (hf : f_X6_insertionIncome n v_a v_thrown v_tried v_stands v_found v_foundOn v_moving v_movingMany v_foundIncome v_foundMoves x1 x2 = some res) : Met l yX6_insertionIncome zwX6_insertionIncome rmX6_insertionIncome (zPc D (zT cI cZ cM) [.ref a_this, .int x1, .int x2] [(a_this, .inr (6, [.ref a_a, .ref a_fresh, .ref a_kept, .int v_keptMany, .int v_thrown, .ref a_buffer, .int v_buffered, .int v_size, .int v_at, .int v_behind, .int v_kind, .int v_wrong, .int v_wrongAt, .int v_errorAt, .long v_number, .ref a_best, .ref a_rentBy, .ref a_bareBy, .ref a_aheadBy, .ref a_isEdge, .ref a_tried, .ref a_stands, .ref a_found, .ref a_foundOn, .ref a_moving, .int v_movingMany, .int v_foundIncome, .int v_foundMoves])), (a_a, .inl (cI, 180, .inl v_a)), (a_tried, .inl (cI, 8, .inl v_tried)), (a_stands, .inl (cI, 24, .inl v_stands)), (a_found, .inl (cI, 8, .inl v_found)), (a_foundOn, .inl (cI, 24, .inl v_foundOn)), (a_moving, .inl (cI, 3, .inl v_moving))] sz) (zQi D (zT cI cZ cM) res.1 [(a_this, .inr (6, [.ref a_a, .ref a_fresh, .ref a_kept, .int v_keptMany, .int res.2.1, .ref a_buffer, .int v_buffered, .int v_size, .int v_at, .int v_behind, .int v_kind, .int v_wrong, .int v_wrongAt, .int v_errorAt, .long v_number, .ref a_best, .ref a_rentBy, .ref a_bareBy, .ref a_aheadBy, .ref a_isEdge, .ref a_tried, .ref a_stands, .ref a_found, .ref a_foundOn, .ref a_moving, .int res.2.2.2.2.2.2.2.1, .int res.2.2.2.2.2.2.2.2.1, .int res.2.2.2.2.2.2.2.2.2])), (a_a, .inl (cI, 180, .inl v_a)), (a_tried, .inl (cI, 8, .inl res.2.2.1)), (a_stands, .inl (cI, 24, .inl res.2.2.2.1)), (a_found, .inl (cI, 8, .inl res.2.2.2.2.1)), (a_foundOn, .inl (cI, 24, .inl res.2.2.2.2.2.1)), (a_moving, .inl (cI, 3, .inl res.2.2.2.2.2.2.1))] (va_A [(a_this, .inr (6, [.ref a_a, .ref a_fresh, .ref a_kept, .int v_keptMany, .int v_thrown, .ref a_buffer, .int v_buffered, .int v_size, .int v_at, .int v_behind, .int v_kind, .int v_wrong, .int v_wrongAt, .int v_errorAt, .long v_number, .ref a_best, .ref a_rentBy, .ref a_bareBy, .ref a_aheadBy, .ref a_isEdge, .ref a_tried, .ref a_stands, .ref a_found, .ref a_foundOn, .ref a_moving, .int v_movingMany, .int v_foundIncome, .int v_foundMoves])), (a_a, .inl (cI, 180, .inl v_a)), (a_tried, .inl (cI, 8, .inl v_tried)), (a_stands, .inl (cI, 24, .inl v_stands)), (a_found, .inl (cI, 8, .inl v_found)), (a_foundOn, .inl (cI, 24, .inl v_foundOn)), (a_moving, .inl (cI, 3, .inl v_moving))] sz)) 0 0 (va_A [(a_this, .inr (6, [.ref a_a, .ref a_fresh, .ref a_kept, .int v_keptMany, .int v_thrown, .ref a_buffer, .int v_buffered, .int v_size, .int v_at, .int v_behind, .int v_kind, .int v_wrong, .int v_wrongAt, .int v_errorAt, .long v_number, .ref a_best, .ref a_rentBy, .ref a_bareBy, .ref a_aheadBy, .ref a_isEdge, .ref a_tried, .ref a_stands, .ref a_found, .ref a_foundOn, .ref a_moving, .int v_movingMany, .int v_foundIncome, .int v_foundMoves])), (a_a, .inl (cI, 180, .inl v_a)), (a_tried, .inl (cI, 8, .inl v_tried)), (a_stands, .inl (cI, 24, .inl v_stands)), (a_found, .inl (cI, 8, .inl v_found)), (a_foundOn, .inl (cI, 24, .inl v_foundOn)), (a_moving, .inl (cI, 3, .inl v_moving))] sz) := by
  refine z_met (cc := cX6_insertionIncome) (maxL := 3) (ret := (some .int)) (by decide) rfl (Nat.le_of_ble_eq_true rfl) ?_
  intro p e s m below meth c ls E hsz hw hl
  obtain ⟨⟨hx, hb, hml, hown, hts⟩, hr, hlocks⟩ := id E
  have hl : lv_has ls 3 [(0, .ref a_this), (1, .int x1), (2, .int x2)] := hl
  unfold f_X6_insertionIncome at hf
  refine lv_aload_n hx hb dX6_insertionIncome_0 rfl (lv_at hl 0 rfl) ?_
  refine lv_aload_n hx hb dX6_insertionIncome_1 rfl (lv_at hl 0 rfl) ?_
  refine lv_iload_n hx hb dX6_insertionIncome_2 rfl (lv_at hl 1 rfl) ?_
  refine lv_iload_n hx hb dX6_insertionIncome_3 rfl (lv_at hl 2 rfl) ?_
  obtain ⟨r_1, h_2, hf⟩ := oB_elim hf
  refine z_callVi (ws' := [(a_this, .inr (6, [.ref a_a, .ref a_fresh, .ref a_kept, .int v_keptMany, .int v_thrown, .ref a_buffer, .int v_buffered, .int v_size, .int v_at, .int v_behind, .int v_kind, .int v_wrong, .int v_wrongAt, .int v_errorAt, .long v_number, .ref a_best, .ref a_rentBy, .ref a_bareBy, .ref a_aheadBy, .ref a_isEdge, .ref a_tried, .ref a_stands, .ref a_found, .ref a_foundOn, .ref a_moving, .int v_movingMany, .int v_foundIncome, .int v_foundMoves])), (a_a, .inl (cI, 180, .inl v_a)), (a_tried, .inl (cI, 8, .inl v_tried)), (a_stands, .inl (cI, 24, .inl v_stands)), (a_found, .inl (cI, 8, .inl v_found)), (a_foundOn, .inl (cI, 24, .inl v_foundOn)), (a_moving, .inl (cI, 3, .inl v_moving))]) (wr := [(a_tried, .inl (cI, 8, .inl v_tried)), (a_stands, .inl (cI, 24, .inl v_stands)), (a_found, .inl (cI, 8, .inl v_found)), (a_foundOn, .inl (cI, 24, .inl v_foundOn)), (a_moving, .inl (cI, 3, .inl v_moving))]) (As := [.int x1, .int x2]) (rest := [.ref a_this]) E.1 hl hw (c_X6_refusesInsertion h_2) (cwV 2 hts (z_gV mw_808 mw_809 mw_810 mw_598 mw_811) rfl rfl rfl (by decide +kernel) ⟨(Nat.le_of_ble_eq_true rfl), (Nat.le_of_ble_eq_true rfl)⟩) 7 [(0, 2)] [(2, 5)] rfl rfl rfl rfl rfl rfl (by decide +kernel) rfl (q0 := 0) rfl rfl rfl (Nat.le_of_ble_eq_true rfl) dX6_insertionIncome_4 ⟨Nat.le_of_ble_eq_true rfl, Nat.le_of_ble_eq_true rfl⟩ (fun H locs hw => ?_)
  refine z_put (ws' := [(a_this, .inr (6, [.ref a_a, .ref a_fresh, .ref a_kept, .int v_keptMany, .int r_1, .ref a_buffer, .int v_buffered, .int v_size, .int v_at, .int v_behind, .int v_kind, .int v_wrong, .int v_wrongAt, .int v_errorAt, .long v_number, .ref a_best, .ref a_rentBy, .ref a_bareBy, .ref a_aheadBy, .ref a_isEdge, .ref a_tried, .ref a_stands, .ref a_found, .ref a_foundOn, .ref a_moving, .int v_movingMany, .int v_foundIncome, .int v_foundMoves])), (a_a, .inl (cI, 180, .inl v_a)), (a_tried, .inl (cI, 8, .inl v_tried)), (a_stands, .inl (cI, 24, .inl v_stands)), (a_found, .inl (cI, 8, .inl v_found)), (a_foundOn, .inl (cI, 24, .inl v_foundOn)), (a_moving, .inl (cI, 3, .inl v_moving))]) E.1 hw in_wsX60 tyX6 tyX6_ok nmX6 0 rfl rfl 4 (z_lt rfl) mw_595 rfl rfl rfl (z_lt rfl) rfl dX6_insertionIncome_7 (fun H locs hw => ?_)
  refine lv_aload_n hx hb dX6_insertionIncome_10 rfl (lv_at hl 0 rfl) ?_
  refine z_get E.1 hw in_wsX60 0 rfl rfl 4 (z_lt rfl) mw_595 (v := .int r_1) rfl dX6_insertionIncome_11 ?_
  refine lv_if_le (tgt := 19) hx hb dX6_insertionIncome_14 (by decide) (fun hc => ?_) (fun hc => ?_)
  · have hf := oI_pos hc hf
    refine lv_aload_n hx hb dX6_insertionIncome_19 rfl (lv_at hl 0 rfl) ?_
    refine lv_iload_n hx hb dX6_insertionIncome_20 rfl (lv_at hl 1 rfl) ?_
    refine lv_iload_n hx hb dX6_insertionIncome_21 rfl (lv_at hl 2 rfl) ?_
    obtain ⟨v_3, v_4, v_5, v_6, v_7, v_8, v_9, v_10, h_11, hf⟩ := oB8_elim hf
    refine z_callVv (ws' := [(a_this, .inr (6, [.ref a_a, .ref a_fresh, .ref a_kept, .int v_keptMany, .int r_1, .ref a_buffer, .int v_buffered, .int v_size, .int v_at, .int v_behind, .int v_kind, .int v_wrong, .int v_wrongAt, .int v_errorAt, .long v_number, .ref a_best, .ref a_rentBy, .ref a_bareBy, .ref a_aheadBy, .ref a_isEdge, .ref a_tried, .ref a_stands, .ref a_found, .ref a_foundOn, .ref a_moving, .int v_8, .int v_9, .int v_10])), (a_a, .inl (cI, 180, .inl v_a)), (a_tried, .inl (cI, 8, .inl v_3)), (a_stands, .inl (cI, 24, .inl v_4)), (a_found, .inl (cI, 8, .inl v_5)), (a_foundOn, .inl (cI, 24, .inl v_6)), (a_moving, .inl (cI, 3, .inl v_7))]) (wr := []) (As := [.int x1, .int x2]) (rest := []) E.1 hl hw (c_X6_seeksInsertion h_11) (cwV 2 hts (z_gV mw_813 mw_814 mw_815 mw_598 mw_816) rfl rfl rfl (by decide +kernel) ⟨(Nat.le_of_ble_eq_true rfl), (Nat.le_of_ble_eq_true rfl)⟩) 7 [(0, 7)] [] rfl rfl rfl rfl rfl rfl (by decide +kernel) rfl (q0 := 0) rfl rfl rfl (Nat.le_of_ble_eq_true rfl) dX6_insertionIncome_22 ⟨Nat.le_of_ble_eq_true rfl, Nat.le_of_ble_eq_true rfl⟩ (fun H locs hw => ?_)
    refine lv_aload_n hx hb dX6_insertionIncome_25 rfl (lv_at hl 0 rfl) ?_
    refine z_get E.1 hw in_wsX60 0 rfl rfl 26 (z_lt rfl) mw_706 (v := .int v_9) rfl dX6_insertionIncome_26 ?_
    cases hf
    exact z_iret E rfl hw dX6_insertionIncome_29
  · have hf := oI_neg hc hf
    refine lv_iconst (v := 0) hx hb dX6_insertionIncome_17 (by decide) ?_
    cases hf
    exact z_iret E rfl hw dX6_insertionIncome_18
end
/-! X6_pitchValue -/
section
variable {p : Program} {l : Launch} {e : Env} {s : State} {m : MethodId} {args : Array Value} {below : List Frame} {meth : Method} {c : Code} {D : va_G} {A : Nat → Prop} {cI cZ cM : ClassId} {a_this a_a a_fresh a_kept a_buffer a_best a_rentBy a_bareBy a_aheadBy a_isEdge a_tried a_stands a_found a_foundOn a_moving : Nat} {v_keptMany : Int32} {v_buffered : Int32} {v_size : Int32} {v_at : Int32} {v_behind : Int32} {v_kind : Int32} {v_wrong : Int32} {v_wrongAt : Int32} {v_errorAt : Int32} {v_number : Int64} {v_movingMany : Int32} {v_foundIncome : Int32} {v_foundMoves : Int32} {res : Int32 × Int32}
def rmX6_pitchValue : Room := { frames := 2, cells := 0, slots := 0, locals := 46 }
abbrev zwX6_pitchValue : List Cond := Cond.code yX6_pitchValue cX6_pitchValue 3 (some .int) :: wsAll
set_option maxHeartbeats 4000000 in
set_option maxRecDepth 100000 in
theorem w_X6_pitchValue_14 (E : zE p s m args meth c cX6_pitchValue 3 (some .int) zwX6_pitchValue RX6) : ∀ (t1 : Int32) (x1 : Int32) (x2 : Int32) (v_a : Nat → Int32) (v_thrown : Int32), f_X6_pitchValue_14 t1 x1 x2 v_a v_thrown = some res → ∀ (H : Heap) (locs : List Loc) (ls : Array Slot), zW D (zT cI cZ cM) A s [(a_this, .inr (6, [.ref a_a, .ref a_fresh, .ref a_kept, .int v_keptMany, .int v_thrown, .ref a_buffer, .int v_buffered, .int v_size, .int v_at, .int v_behind, .int v_kind, .int v_wrong, .int v_wrongAt, .int v_errorAt, .long v_number, .ref a_best, .ref a_rentBy, .ref a_bareBy, .ref a_aheadBy, .ref a_isEdge, .ref a_tried, .ref a_stands, .ref a_found, .ref a_foundOn, .ref a_moving, .int v_movingMany, .int v_foundIncome, .int v_foundMoves])), (a_a, .inl (cI, 180, .inl v_a))] H locs → lv_has ls 3 [(0, .ref a_this), (1, .int x1), (2, .int x2)] → W p l e rmX6_pitchValue s m args below meth c H locs 0 0 (MQ below (zQi D (zT cI cZ cM) res.1 [(a_this, .inr (6, [.ref a_a, .ref a_fresh, .ref a_kept, .int v_keptMany, .int res.2, .ref a_buffer, .int v_buffered, .int v_size, .int v_at, .int v_behind, .int v_kind, .int v_wrong, .int v_wrongAt, .int v_errorAt, .long v_number, .ref a_best, .ref a_rentBy, .ref a_bareBy, .ref a_aheadBy, .ref a_isEdge, .ref a_tried, .ref a_stands, .ref a_found, .ref a_foundOn, .ref a_moving, .int v_movingMany, .int v_foundIncome, .int v_foundMoves])), (a_a, .inl (cI, 180, .inl v_a))] A) args s 0 0 A) (F0 m 14 ls [.int t1, .ref a_this]) := by
  obtain ⟨⟨hx, hb, hml, hown, hts⟩, hr, hlocks⟩ := id E
  intro t1 x1 x2 v_a v_thrown hf H locs ls hw hl
  unfold f_X6_pitchValue_14 at hf
  refine z_put (ws' := [(a_this, .inr (6, [.ref a_a, .ref a_fresh, .ref a_kept, .int v_keptMany, .int t1, .ref a_buffer, .int v_buffered, .int v_size, .int v_at, .int v_behind, .int v_kind, .int v_wrong, .int v_wrongAt, .int v_errorAt, .long v_number, .ref a_best, .ref a_rentBy, .ref a_bareBy, .ref a_aheadBy, .ref a_isEdge, .ref a_tried, .ref a_stands, .ref a_found, .ref a_foundOn, .ref a_moving, .int v_movingMany, .int v_foundIncome, .int v_foundMoves])), (a_a, .inl (cI, 180, .inl v_a))]) E.1 hw in_wsX60 tyX6 tyX6_ok nmX6 0 rfl rfl 4 (z_lt rfl) mw_595 rfl rfl rfl (z_lt rfl) rfl dX6_pitchValue_14 (fun H locs hw => ?_)
  refine lv_aload_n hx hb dX6_pitchValue_17 rfl (lv_at hl 0 rfl) ?_
  refine z_get E.1 hw in_wsX60 0 rfl rfl 4 (z_lt rfl) mw_595 (v := .int t1) rfl dX6_pitchValue_18 ?_
  refine lv_if_le (tgt := 28) hx hb dX6_pitchValue_21 (by decide) (fun hc => ?_) (fun hc => ?_)
  · have hf := oI_pos hc hf
    refine lv_aload_n hx hb dX6_pitchValue_28 rfl (lv_at hl 0 rfl) ?_
    refine z_get E.1 hw in_wsX60 0 rfl rfl 0 (z_lt rfl) mw_594 (v := .ref a_a) rfl dX6_pitchValue_29 ?_
    refine lv_iload_n hx hb dX6_pitchValue_32 rfl (lv_at hl 1 rfl) ?_
    refine lv_iload_n hx hb dX6_pitchValue_33 rfl (lv_at hl 2 rfl) ?_
    refine lv_iadd hx hb dX6_pitchValue_34 ?_
    obtain ⟨h_1, hf⟩ := oA_elim hf
    refine z_iald E.1 hw 1 0 rfl rfl h_1 dX6_pitchValue_35 ?_
    cases hf
    exact z_iret E rfl hw dX6_pitchValue_36
  · have hf := oI_neg hc hf
    refine lv_iconst (v := 0) hx hb dX6_pitchValue_24 (by decide) ?_
    refine lv_goto (tgt := 36) hx hb dX6_pitchValue_25 (by decide) ?_
    cases hf
    exact z_iret E rfl hw dX6_pitchValue_36
set_option maxHeartbeats 4000000 in
set_option maxRecDepth 100000 in
theorem c_X6_pitchValue {l : Launch} {D : va_G} {cI cZ cM : ClassId} {a_this a_a a_fresh a_kept a_buffer a_best a_rentBy a_bareBy a_aheadBy a_isEdge a_tried a_stands a_found a_foundOn a_moving : Nat} {v_keptMany : Int32} {v_buffered : Int32} {v_size : Int32} {v_at : Int32} {v_behind : Int32} {v_kind : Int32} {v_wrong : Int32} {v_wrongAt : Int32} {v_errorAt : Int32} {v_number : Int64} {v_movingMany : Int32} {v_foundIncome : Int32} {v_foundMoves : Int32} {res : Int32 × Int32} {sz : Nat} {v_a : Nat → Int32} {v_thrown : Int32} {x1 : Int32} {x2 : Int32} (hf : f_X6_pitchValue v_a v_thrown x1 x2 = some res) : Met l yX6_pitchValue zwX6_pitchValue rmX6_pitchValue (zPc D (zT cI cZ cM) [.ref a_this, .int x1, .int x2] [(a_this, .inr (6, [.ref a_a, .ref a_fresh, .ref a_kept, .int v_keptMany, .int v_thrown, .ref a_buffer, .int v_buffered, .int v_size, .int v_at, .int v_behind, .int v_kind, .int v_wrong, .int v_wrongAt, .int v_errorAt, .long v_number, .ref a_best, .ref a_rentBy, .ref a_bareBy, .ref a_aheadBy, .ref a_isEdge, .ref a_tried, .ref a_stands, .ref a_found, .ref a_foundOn, .ref a_moving, .int v_movingMany, .int v_foundIncome, .int v_foundMoves])), (a_a, .inl (cI, 180, .inl v_a))] sz) (zQi D (zT cI cZ cM) res.1 [(a_this, .inr (6, [.ref a_a, .ref a_fresh, .ref a_kept, .int v_keptMany, .int res.2, .ref a_buffer, .int v_buffered, .int v_size, .int v_at, .int v_behind, .int v_kind, .int v_wrong, .int v_wrongAt, .int v_errorAt, .long v_number, .ref a_best, .ref a_rentBy, .ref a_bareBy, .ref a_aheadBy, .ref a_isEdge, .ref a_tried, .ref a_stands, .ref a_found, .ref a_foundOn, .ref a_moving, .int v_movingMany, .int v_foundIncome, .int v_foundMoves])), (a_a, .inl (cI, 180, .inl v_a))] (va_A [(a_this, .inr (6, [.ref a_a, .ref a_fresh, .ref a_kept, .int v_keptMany, .int v_thrown, .ref a_buffer, .int v_buffered, .int v_size, .int v_at, .int v_behind, .int v_kind, .int v_wrong, .int v_wrongAt, .int v_errorAt, .long v_number, .ref a_best, .ref a_rentBy, .ref a_bareBy, .ref a_aheadBy, .ref a_isEdge, .ref a_tried, .ref a_stands, .ref a_found, .ref a_foundOn, .ref a_moving, .int v_movingMany, .int v_foundIncome, .int v_foundMoves])), (a_a, .inl (cI, 180, .inl v_a))] sz)) 0 0 (va_A [(a_this, .inr (6, [.ref a_a, .ref a_fresh, .ref a_kept, .int v_keptMany, .int v_thrown, .ref a_buffer, .int v_buffered, .int v_size, .int v_at, .int v_behind, .int v_kind, .int v_wrong, .int v_wrongAt, .int v_errorAt, .long v_number, .ref a_best, .ref a_rentBy, .ref a_bareBy, .ref a_aheadBy, .ref a_isEdge, .ref a_tried, .ref a_stands, .ref a_found, .ref a_foundOn, .ref a_moving, .int v_movingMany, .int v_foundIncome, .int v_foundMoves])), (a_a, .inl (cI, 180, .inl v_a))] sz) := by
  refine z_met (cc := cX6_pitchValue) (maxL := 3) (ret := (some .int)) (by decide) rfl (Nat.le_of_ble_eq_true rfl) ?_
  intro p e s m below meth c ls E hsz hw hl
  obtain ⟨⟨hx, hb, hml, hown, hts⟩, hr, hlocks⟩ := id E
  have hl : lv_has ls 3 [(0, .ref a_this), (1, .int x1), (2, .int x2)] := hl
  unfold f_X6_pitchValue at hf
  refine lv_aload_n hx hb dX6_pitchValue_0 rfl (lv_at hl 0 rfl) ?_
  refine lv_aload_n hx hb dX6_pitchValue_1 rfl (lv_at hl 0 rfl) ?_
  refine lv_iload_n hx hb dX6_pitchValue_2 rfl (lv_at hl 2 rfl) ?_
  obtain ⟨r_2, h_3, hf⟩ := oB_elim hf
  refine z_callVi (ws' := [(a_this, .inr (6, [.ref a_a, .ref a_fresh, .ref a_kept, .int v_keptMany, .int v_thrown, .ref a_buffer, .int v_buffered, .int v_size, .int v_at, .int v_behind, .int v_kind, .int v_wrong, .int v_wrongAt, .int v_errorAt, .long v_number, .ref a_best, .ref a_rentBy, .ref a_bareBy, .ref a_aheadBy, .ref a_isEdge, .ref a_tried, .ref a_stands, .ref a_found, .ref a_foundOn, .ref a_moving, .int v_movingMany, .int v_foundIncome, .int v_foundMoves])), (a_a, .inl (cI, 180, .inl v_a))]) (wr := []) (As := [.int x2]) (rest := [.ref a_this]) E.1 hl hw (c_X6_isPitch h_3) (cwV 1 hts (z_gV mw_665 mw_666 mw_667 mw_598 mw_668) rfl rfl rfl (by decide +kernel) ⟨(Nat.le_of_ble_eq_true rfl), (Nat.le_of_ble_eq_true rfl)⟩) 2 [(0, 2)] [] rfl rfl rfl rfl rfl rfl (by decide +kernel) rfl (q0 := 0) rfl rfl rfl (Nat.le_of_ble_eq_true rfl) dX6_pitchValue_3 ⟨Nat.le_of_ble_eq_true rfl, Nat.le_of_ble_eq_true rfl⟩ (fun H locs hw => ?_)
  refine lv_if_eq (tgt := 13) hx hb dX6_pitchValue_6 (by decide) (fun hc => ?_) (fun hc => ?_)
  · have hf := oI_pos hc hf
    refine lv_iconst (v := 1) hx hb dX6_pitchValue_13 (by decide) ?_
    exact w_X6_pitchValue_14 E  _ _ _ _ _ hf _ _ _ hw (lv_sub hl [0, 1, 2] rfl)
  · have hf := oI_neg hc hf
    refine lv_iconst (v := 0) hx hb dX6_pitchValue_9 (by decide) ?_
    refine lv_goto (tgt := 14) hx hb dX6_pitchValue_10 (by decide) ?_
    exact w_X6_pitchValue_14 E  _ _ _ _ _ hf _ _ _ hw (lv_sub hl [0, 1, 2] rfl)
end
/-! X6_isRoofed -/
section
variable {p : Program} {l : Launch} {e : Env} {s : State} {m : MethodId} {args : Array Value} {below : List Frame} {meth : Method} {c : Code} {D : va_G} {A : Nat → Prop} {cI cZ cM : ClassId} {a_this a_a a_fresh a_kept a_buffer a_best a_rentBy a_bareBy a_aheadBy a_isEdge a_tried a_stands a_found a_foundOn a_moving : Nat} {v_keptMany : Int32} {v_buffered : Int32} {v_size : Int32} {v_at : Int32} {v_behind : Int32} {v_kind : Int32} {v_wrong : Int32} {v_wrongAt : Int32} {v_errorAt : Int32} {v_number : Int64} {v_movingMany : Int32} {v_foundIncome : Int32} {v_foundMoves : Int32} {res : Int32 × Int32}
def rmX6_isRoofed : Room := { frames := 3, cells := 0, slots := 0, locals := 68 }
abbrev zwX6_isRoofed : List Cond := Cond.code yX6_isRoofed cX6_isRoofed 2 (some .boolean) :: wsAll
set_option maxHeartbeats 4000000 in
set_option maxRecDepth 100000 in
theorem c_X6_isRoofed {l : Launch} {D : va_G} {cI cZ cM : ClassId} {a_this a_a a_fresh a_kept a_buffer a_best a_rentBy a_bareBy a_aheadBy a_isEdge a_tried a_stands a_found a_foundOn a_moving : Nat} {v_keptMany : Int32} {v_buffered : Int32} {v_size : Int32} {v_at : Int32} {v_behind : Int32} {v_kind : Int32} {v_wrong : Int32} {v_wrongAt : Int32} {v_errorAt : Int32} {v_number : Int64} {v_movingMany : Int32} {v_foundIncome : Int32} {v_foundMoves : Int32} {res : Int32 × Int32} {sz : Nat} {v_a : Nat → Int32} {v_thrown : Int32} {x1 : Int32} (hf : f_X6_isRoofed v_a v_thrown x1 = some res) : Met l yX6_isRoofed zwX6_isRoofed rmX6_isRoofed (zPc D (zT cI cZ cM) [.ref a_this, .int x1] [(a_this, .inr (6, [.ref a_a, .ref a_fresh, .ref a_kept, .int v_keptMany, .int v_thrown, .ref a_buffer, .int v_buffered, .int v_size, .int v_at, .int v_behind, .int v_kind, .int v_wrong, .int v_wrongAt, .int v_errorAt, .long v_number, .ref a_best, .ref a_rentBy, .ref a_bareBy, .ref a_aheadBy, .ref a_isEdge, .ref a_tried, .ref a_stands, .ref a_found, .ref a_foundOn, .ref a_moving, .int v_movingMany, .int v_foundIncome, .int v_foundMoves])), (a_a, .inl (cI, 180, .inl v_a))] sz) (zQi D (zT cI cZ cM) res.1 [(a_this, .inr (6, [.ref a_a, .ref a_fresh, .ref a_kept, .int v_keptMany, .int res.2, .ref a_buffer, .int v_buffered, .int v_size, .int v_at, .int v_behind, .int v_kind, .int v_wrong, .int v_wrongAt, .int v_errorAt, .long v_number, .ref a_best, .ref a_rentBy, .ref a_bareBy, .ref a_aheadBy, .ref a_isEdge, .ref a_tried, .ref a_stands, .ref a_found, .ref a_foundOn, .ref a_moving, .int v_movingMany, .int v_foundIncome, .int v_foundMoves])), (a_a, .inl (cI, 180, .inl v_a))] (va_A [(a_this, .inr (6, [.ref a_a, .ref a_fresh, .ref a_kept, .int v_keptMany, .int v_thrown, .ref a_buffer, .int v_buffered, .int v_size, .int v_at, .int v_behind, .int v_kind, .int v_wrong, .int v_wrongAt, .int v_errorAt, .long v_number, .ref a_best, .ref a_rentBy, .ref a_bareBy, .ref a_aheadBy, .ref a_isEdge, .ref a_tried, .ref a_stands, .ref a_found, .ref a_foundOn, .ref a_moving, .int v_movingMany, .int v_foundIncome, .int v_foundMoves])), (a_a, .inl (cI, 180, .inl v_a))] sz)) 0 0 (va_A [(a_this, .inr (6, [.ref a_a, .ref a_fresh, .ref a_kept, .int v_keptMany, .int v_thrown, .ref a_buffer, .int v_buffered, .int v_size, .int v_at, .int v_behind, .int v_kind, .int v_wrong, .int v_wrongAt, .int v_errorAt, .long v_number, .ref a_best, .ref a_rentBy, .ref a_bareBy, .ref a_aheadBy, .ref a_isEdge, .ref a_tried, .ref a_stands, .ref a_found, .ref a_foundOn, .ref a_moving, .int v_movingMany, .int v_foundIncome, .int v_foundMoves])), (a_a, .inl (cI, 180, .inl v_a))] sz) := by
  refine z_met (cc := cX6_isRoofed) (maxL := 2) (ret := (some .boolean)) (by decide) rfl (Nat.le_of_ble_eq_true rfl) ?_
  intro p e s m below meth c ls E hsz hw hl
  obtain ⟨⟨hx, hb, hml, hown, hts⟩, hr, hlocks⟩ := id E
  have hl : lv_has ls 2 [(0, .ref a_this), (1, .int x1)] := hl
  unfold f_X6_isRoofed at hf
  refine lv_aload_n hx hb dX6_isRoofed_0 rfl (lv_at hl 0 rfl) ?_
  refine lv_bipush (v := 26) hx hb dX6_isRoofed_1 (by decide) ?_
  refine lv_iload_n hx hb dX6_isRoofed_3 rfl (lv_at hl 1 rfl) ?_
  obtain ⟨r_1, v_2, h_3, hf⟩ := oB2_elim hf
  refine z_callVi (ws' := [(a_this, .inr (6, [.ref a_a, .ref a_fresh, .ref a_kept, .int v_keptMany, .int v_2, .ref a_buffer, .int v_buffered, .int v_size, .int v_at, .int v_behind, .int v_kind, .int v_wrong, .int v_wrongAt, .int v_errorAt, .long v_number, .ref a_best, .ref a_rentBy, .ref a_bareBy, .ref a_aheadBy, .ref a_isEdge, .ref a_tried, .ref a_stands, .ref a_found, .ref a_foundOn, .ref a_moving, .int v_movingMany, .int v_foundIncome, .int v_foundMoves])), (a_a, .inl (cI, 180, .inl v_a))]) (wr := []) (As := [.int (26 : Int32), .int x1]) (rest := []) E.1 hl hw (c_X6_pitchValue h_3) (cwV 2 hts (z_gV mw_831 mw_832 mw_833 mw_598 mw_834) rfl rfl rfl (by decide +kernel) ⟨(Nat.le_of_ble_eq_true rfl), (Nat.le_of_ble_eq_true rfl)⟩) 2 [(0, 2)] [] rfl rfl rfl rfl rfl rfl (by decide +kernel) rfl (q0 := 0) rfl rfl rfl (Nat.le_of_ble_eq_true rfl) dX6_isRoofed_4 ⟨Nat.le_of_ble_eq_true rfl, Nat.le_of_ble_eq_true rfl⟩ (fun H locs hw => ?_)
  refine lv_iconst (v := 1) hx hb dX6_isRoofed_7 (by decide) ?_
  refine lv_icmp_ne (tgt := 15) hx hb dX6_isRoofed_8 (by decide) (fun hc => ?_) (fun hc => ?_)
  · have hf := oI_neg hc hf
    refine lv_iconst (v := 0) hx hb dX6_isRoofed_15 (by decide) ?_
    cases hf
    exact z_zret E rfl z_n0 hw dX6_isRoofed_16
  · have hf := oI_pos hc hf
    refine lv_iconst (v := 1) hx hb dX6_isRoofed_11 (by decide) ?_
    refine lv_goto (tgt := 16) hx hb dX6_isRoofed_12 (by decide) ?_
    cases hf
    exact z_zret E rfl z_n1 hw dX6_isRoofed_16
end
/-! X6_isSheltered -/
section
variable {p : Program} {l : Launch} {e : Env} {s : State} {m : MethodId} {args : Array Value} {below : List Frame} {meth : Method} {c : Code} {D : va_G} {A : Nat → Prop} {cI cZ cM : ClassId} {a_this a_a a_fresh a_kept a_buffer a_best a_rentBy a_bareBy a_aheadBy a_isEdge a_tried a_stands a_found a_foundOn a_moving : Nat} {v_keptMany : Int32} {v_thrown : Int32} {v_buffered : Int32} {v_size : Int32} {v_at : Int32} {v_behind : Int32} {v_kind : Int32} {v_wrong : Int32} {v_wrongAt : Int32} {v_errorAt : Int32} {v_number : Int64} {v_movingMany : Int32} {v_foundIncome : Int32} {v_foundMoves : Int32} {res : Int32}
def rmX6_isSheltered : Room := { frames := 0, cells := 0, slots := 0, locals := 0 }
abbrev zwX6_isSheltered : List Cond := Cond.code yX6_isSheltered cX6_isSheltered 4 (some .boolean) :: wsAll
set_option maxHeartbeats 4000000 in
set_option maxRecDepth 100000 in
theorem w_X6_isSheltered_73 {n : Nat} {v_a : Nat → Int32} (E : zE p s m args meth c cX6_isSheltered 4 (some .boolean) zwX6_isSheltered RX6) : f_X6_isSheltered_73 n = some res → ∀ (H : Heap) (locs : List Loc) (ls : Array Slot), zW D (zT cI cZ cM) A s [(a_this, .inr (6, [.ref a_a, .ref a_fresh, .ref a_kept, .int v_keptMany, .int v_thrown, .ref a_buffer, .int v_buffered, .int v_size, .int v_at, .int v_behind, .int v_kind, .int v_wrong, .int v_wrongAt, .int v_errorAt, .long v_number, .ref a_best, .ref a_rentBy, .ref a_bareBy, .ref a_aheadBy, .ref a_isEdge, .ref a_tried, .ref a_stands, .ref a_found, .ref a_foundOn, .ref a_moving, .int v_movingMany, .int v_foundIncome, .int v_foundMoves])), (a_a, .inl (cI, 180, .inl v_a))] H locs → lv_has ls 4 [] → W p l e rmX6_isSheltered s m args below meth c H locs 0 0 (MQ below (zQi D (zT cI cZ cM) res [(a_this, .inr (6, [.ref a_a, .ref a_fresh, .ref a_kept, .int v_keptMany, .int v_thrown, .ref a_buffer, .int v_buffered, .int v_size, .int v_at, .int v_behind, .int v_kind, .int v_wrong, .int v_wrongAt, .int v_errorAt, .long v_number, .ref a_best, .ref a_rentBy, .ref a_bareBy, .ref a_aheadBy, .ref a_isEdge, .ref a_tried, .ref a_stands, .ref a_found, .ref a_foundOn, .ref a_moving, .int v_movingMany, .int v_foundIncome, .int v_foundMoves])), (a_a, .inl (cI, 180, .inl v_a))] A) args s 0 0 A) (F0 m 73 ls []) := by
  obtain ⟨⟨hx, hb, hml, hown, hts⟩, hr, hlocks⟩ := id E
  intro  hf H locs ls hw hl
  unfold f_X6_isSheltered_73 at hf
  refine lv_iconst (v := 1) hx hb dX6_isSheltered_73 (by decide) ?_
  refine lv_goto (tgt := 78) hx hb dX6_isSheltered_74 (by decide) ?_
  cases hf
  exact z_zret E rfl z_n1 hw dX6_isSheltered_78
set_option maxHeartbeats 4000000 in
set_option maxRecDepth 100000 in
theorem w_X6_isSheltered_49 {n : Nat} (E : zE p s m args meth c cX6_isSheltered 4 (some .boolean) zwX6_isSheltered RX6) {k4 : Int32 → Int32 → Int32 → (Nat → Int32) → Option (Int32)} (hk4 : ∀ (x1 : Int32) (x2 : Int32) (x3 : Int32) (v_a : Nat → Int32), k4 x1 x2 x3 v_a = some res → ∀ (H : Heap) (locs : List Loc) (ls : Array Slot), zW D (zT cI cZ cM) A s [(a_this, .inr (6, [.ref a_a, .ref a_fresh, .ref a_kept, .int v_keptMany, .int v_thrown, .ref a_buffer, .int v_buffered, .int v_size, .int v_at, .int v_behind, .int v_kind, .int v_wrong, .int v_wrongAt, .int v_errorAt, .long v_number, .ref a_best, .ref a_rentBy, .ref a_bareBy, .ref a_aheadBy, .ref a_isEdge, .ref a_tried, .ref a_stands, .ref a_found, .ref a_foundOn, .ref a_moving, .int v_movingMany, .int v_foundIncome, .int v_foundMoves])), (a_a, .inl (cI, 180, .inl v_a))] H locs → lv_has ls 4 [(0, .ref a_this), (1, .int x1), (2, .int x2), (3, .int x3)] → W p l e rmX6_isSheltered s m args below meth c H locs 0 0 (MQ below (zQi D (zT cI cZ cM) res [(a_this, .inr (6, [.ref a_a, .ref a_fresh, .ref a_kept, .int v_keptMany, .int v_thrown, .ref a_buffer, .int v_buffered, .int v_size, .int v_at, .int v_behind, .int v_kind, .int v_wrong, .int v_wrongAt, .int v_errorAt, .long v_number, .ref a_best, .ref a_rentBy, .ref a_bareBy, .ref a_aheadBy, .ref a_isEdge, .ref a_tried, .ref a_stands, .ref a_found, .ref a_foundOn, .ref a_moving, .int v_movingMany, .int v_foundIncome, .int v_foundMoves])), (a_a, .inl (cI, 180, .inl v_a))] A) args s 0 0 A) (F0 m 4 ls [])) : ∀ (t0 : Int32) (x1 : Int32) (x3 : Int32) (v_a : Nat → Int32), f_X6_isSheltered_49 n k4 t0 x1 x3 v_a = some res → ∀ (H : Heap) (locs : List Loc) (ls : Array Slot), zW D (zT cI cZ cM) A s [(a_this, .inr (6, [.ref a_a, .ref a_fresh, .ref a_kept, .int v_keptMany, .int v_thrown, .ref a_buffer, .int v_buffered, .int v_size, .int v_at, .int v_behind, .int v_kind, .int v_wrong, .int v_wrongAt, .int v_errorAt, .long v_number, .ref a_best, .ref a_rentBy, .ref a_bareBy, .ref a_aheadBy, .ref a_isEdge, .ref a_tried, .ref a_stands, .ref a_found, .ref a_foundOn, .ref a_moving, .int v_movingMany, .int v_foundIncome, .int v_foundMoves])), (a_a, .inl (cI, 180, .inl v_a))] H locs → lv_has ls 4 [(0, .ref a_this), (1, .int x1), (3, .int x3)] → W p l e rmX6_isSheltered s m args below meth c H locs 0 0 (MQ below (zQi D (zT cI cZ cM) res [(a_this, .inr (6, [.ref a_a, .ref a_fresh, .ref a_kept, .int v_keptMany, .int v_thrown, .ref a_buffer, .int v_buffered, .int v_size, .int v_at, .int v_behind, .int v_kind, .int v_wrong, .int v_wrongAt, .int v_errorAt, .long v_number, .ref a_best, .ref a_rentBy, .ref a_bareBy, .ref a_aheadBy, .ref a_isEdge, .ref a_tried, .ref a_stands, .ref a_found, .ref a_foundOn, .ref a_moving, .int v_movingMany, .int v_foundIncome, .int v_foundMoves])), (a_a, .inl (cI, 180, .inl v_a))] A) args s 0 0 A) (F0 m 49 ls [.int t0]) := by
  obtain ⟨⟨hx, hb, hml, hown, hts⟩, hr, hlocks⟩ := id E
  intro t0 x1 x3 v_a hf H locs ls hw hl
  unfold f_X6_isSheltered_49 at hf
  refine lv_istore_n (lv' := [(2, .int t0), (0, .ref a_this), (1, .int x1), (3, .int x3)]) hx hb dX6_isSheltered_49 rfl hl (z_lt rfl) rfl (fun ls hl => ?_)
  refine lv_iinc (v := (x3 + (1 : Int32))) (lv' := [(3, .int (x3 + (1 : Int32))), (2, .int t0), (0, .ref a_this), (1, .int x1)]) hx hb dX6_isSheltered_50 hl (k := 3) rfl rfl (z_lt rfl) rfl (fun ls hl => ?_)
  refine lv_goto (tgt := 4) hx hb dX6_isSheltered_53 (by decide) ?_
  exact hk4 _ _ _ _ hf _ _ _ hw (lv_sub hl [2, 3, 1, 0] rfl)
set_option maxHeartbeats 4000000 in
set_option maxRecDepth 100000 in
theorem w_X6_isSheltered_48 {n : Nat} (E : zE p s m args meth c cX6_isSheltered 4 (some .boolean) zwX6_isSheltered RX6) {k4 : Int32 → Int32 → Int32 → (Nat → Int32) → Option (Int32)} (hk4 : ∀ (x1 : Int32) (x2 : Int32) (x3 : Int32) (v_a : Nat → Int32), k4 x1 x2 x3 v_a = some res → ∀ (H : Heap) (locs : List Loc) (ls : Array Slot), zW D (zT cI cZ cM) A s [(a_this, .inr (6, [.ref a_a, .ref a_fresh, .ref a_kept, .int v_keptMany, .int v_thrown, .ref a_buffer, .int v_buffered, .int v_size, .int v_at, .int v_behind, .int v_kind, .int v_wrong, .int v_wrongAt, .int v_errorAt, .long v_number, .ref a_best, .ref a_rentBy, .ref a_bareBy, .ref a_aheadBy, .ref a_isEdge, .ref a_tried, .ref a_stands, .ref a_found, .ref a_foundOn, .ref a_moving, .int v_movingMany, .int v_foundIncome, .int v_foundMoves])), (a_a, .inl (cI, 180, .inl v_a))] H locs → lv_has ls 4 [(0, .ref a_this), (1, .int x1), (2, .int x2), (3, .int x3)] → W p l e rmX6_isSheltered s m args below meth c H locs 0 0 (MQ below (zQi D (zT cI cZ cM) res [(a_this, .inr (6, [.ref a_a, .ref a_fresh, .ref a_kept, .int v_keptMany, .int v_thrown, .ref a_buffer, .int v_buffered, .int v_size, .int v_at, .int v_behind, .int v_kind, .int v_wrong, .int v_wrongAt, .int v_errorAt, .long v_number, .ref a_best, .ref a_rentBy, .ref a_bareBy, .ref a_aheadBy, .ref a_isEdge, .ref a_tried, .ref a_stands, .ref a_found, .ref a_foundOn, .ref a_moving, .int v_movingMany, .int v_foundIncome, .int v_foundMoves])), (a_a, .inl (cI, 180, .inl v_a))] A) args s 0 0 A) (F0 m 4 ls [])) : ∀ (x1 : Int32) (x3 : Int32) (v_a : Nat → Int32), f_X6_isSheltered_48 n k4 x1 x3 v_a = some res → ∀ (H : Heap) (locs : List Loc) (ls : Array Slot), zW D (zT cI cZ cM) A s [(a_this, .inr (6, [.ref a_a, .ref a_fresh, .ref a_kept, .int v_keptMany, .int v_thrown, .ref a_buffer, .int v_buffered, .int v_size, .int v_at, .int v_behind, .int v_kind, .int v_wrong, .int v_wrongAt, .int v_errorAt, .long v_number, .ref a_best, .ref a_rentBy, .ref a_bareBy, .ref a_aheadBy, .ref a_isEdge, .ref a_tried, .ref a_stands, .ref a_found, .ref a_foundOn, .ref a_moving, .int v_movingMany, .int v_foundIncome, .int v_foundMoves])), (a_a, .inl (cI, 180, .inl v_a))] H locs → lv_has ls 4 [(0, .ref a_this), (1, .int x1), (3, .int x3)] → W p l e rmX6_isSheltered s m args below meth c H locs 0 0 (MQ below (zQi D (zT cI cZ cM) res [(a_this, .inr (6, [.ref a_a, .ref a_fresh, .ref a_kept, .int v_keptMany, .int v_thrown, .ref a_buffer, .int v_buffered, .int v_size, .int v_at, .int v_behind, .int v_kind, .int v_wrong, .int v_wrongAt, .int v_errorAt, .long v_number, .ref a_best, .ref a_rentBy, .ref a_bareBy, .ref a_aheadBy, .ref a_isEdge, .ref a_tried, .ref a_stands, .ref a_found, .ref a_foundOn, .ref a_moving, .int v_movingMany, .int v_foundIncome, .int v_foundMoves])), (a_a, .inl (cI, 180, .inl v_a))] A) args s 0 0 A) (F0 m 48 ls []) := by
  obtain ⟨⟨hx, hb, hml, hown, hts⟩, hr, hlocks⟩ := id E
  intro x1 x3 v_a hf H locs ls hw hl
  unfold f_X6_isSheltered_48 at hf
  refine lv_iconst (v := 0) hx hb dX6_isSheltered_48 (by decide) ?_
  exact w_X6_isSheltered_49 E hk4 _ _ _ _ hf _ _ _ hw (lv_sub hl [0, 1, 2] rfl)
set_option maxHeartbeats 4000000 in
set_option maxRecDepth 100000 in
theorem w_X6_isSheltered_4 {n : Nat} (E : zE p s m args meth c cX6_isSheltered 4 (some .boolean) zwX6_isSheltered RX6) : ∀ (fu : Nat), ∀ (x1 : Int32) (x2 : Int32) (x3 : Int32) (v_a : Nat → Int32), f_X6_isSheltered_4 n fu x1 x2 x3 v_a = some res → ∀ (H : Heap) (locs : List Loc) (ls : Array Slot), zW D (zT cI cZ cM) A s [(a_this, .inr (6, [.ref a_a, .ref a_fresh, .ref a_kept, .int v_keptMany, .int v_thrown, .ref a_buffer, .int v_buffered, .int v_size, .int v_at, .int v_behind, .int v_kind, .int v_wrong, .int v_wrongAt, .int v_errorAt, .long v_number, .ref a_best, .ref a_rentBy, .ref a_bareBy, .ref a_aheadBy, .ref a_isEdge, .ref a_tried, .ref a_stands, .ref a_found, .ref a_foundOn, .ref a_moving, .int v_movingMany, .int v_foundIncome, .int v_foundMoves])), (a_a, .inl (cI, 180, .inl v_a))] H locs → lv_has ls 4 [(0, .ref a_this), (1, .int x1), (2, .int x2), (3, .int x3)] → W p l e rmX6_isSheltered s m args below meth c H locs 0 0 (MQ below (zQi D (zT cI cZ cM) res [(a_this, .inr (6, [.ref a_a, .ref a_fresh, .ref a_kept, .int v_keptMany, .int v_thrown, .ref a_buffer, .int v_buffered, .int v_size, .int v_at, .int v_behind, .int v_kind, .int v_wrong, .int v_wrongAt, .int v_errorAt, .long v_number, .ref a_best, .ref a_rentBy, .ref a_bareBy, .ref a_aheadBy, .ref a_isEdge, .ref a_tried, .ref a_stands, .ref a_found, .ref a_foundOn, .ref a_moving, .int v_movingMany, .int v_foundIncome, .int v_foundMoves])), (a_a, .inl (cI, 180, .inl v_a))] A) args s 0 0 A) (F0 m 4 ls []) := by
  obtain ⟨⟨hx, hb, hml, hown, hts⟩, hr, hlocks⟩ := id E
  intro fu
  induction fu with
  | zero => intro x1 x2 x3 v_a hf; rw [f_X6_isSheltered_4.eq_1] at hf; cases hf
  | succ fu ih =>
    intro x1 x2 x3 v_a hf H locs ls hw hl
    rw [f_X6_isSheltered_4.eq_2] at hf
    refine lv_iload_n hx hb dX6_isSheltered_4 rfl (lv_at hl 3 rfl) ?_
    refine lv_aload_n hx hb dX6_isSheltered_5 rfl (lv_at hl 0 rfl) ?_
    refine z_get E.1 hw in_wsX60 0 rfl rfl 0 (z_lt rfl) mw_594 (v := .ref a_a) rfl dX6_isSheltered_6 ?_
    refine lv_bipush (v := 83) hx hb dX6_isSheltered_9 (by decide) ?_
    refine lv_iload_n hx hb dX6_isSheltered_11 rfl (lv_at hl 1 rfl) ?_
    refine lv_iadd hx hb dX6_isSheltered_12 ?_
    obtain ⟨h_1, hf⟩ := oA_elim hf
    refine z_iald E.1 hw 1 0 rfl rfl h_1 dX6_isSheltered_13 ?_
    refine lv_icmp_ge (tgt := 56) hx hb dX6_isSheltered_14 (by decide) (fun hc => ?_) (fun hc => ?_)
    · have hf := oI_pos hc hf
      refine lv_iload_n hx hb dX6_isSheltered_56 rfl (lv_at hl 2 rfl) ?_
      refine lv_if_ne (tgt := 73) hx hb dX6_isSheltered_57 (by decide) (fun hc => ?_) (fun hc => ?_)
      · have hf := oI_neg hc hf
        exact w_X6_isSheltered_73 E   hf _ _ _ hw (lv_sub hl [] rfl)
      · have hf := oI_pos hc hf
        refine lv_aload_n hx hb dX6_isSheltered_60 rfl (lv_at hl 0 rfl) ?_
        refine z_get E.1 hw in_wsX60 0 rfl rfl 0 (z_lt rfl) mw_594 (v := .ref a_a) rfl dX6_isSheltered_61 ?_
        refine lv_bipush (v := 99) hx hb dX6_isSheltered_64 (by decide) ?_
        refine lv_iload_n hx hb dX6_isSheltered_66 rfl (lv_at hl 1 rfl) ?_
        refine lv_iadd hx hb dX6_isSheltered_67 ?_
        obtain ⟨h_2, hf⟩ := oA_elim hf
        refine z_iald E.1 hw 1 0 rfl rfl h_2 dX6_isSheltered_68 ?_
        refine lv_iconst (v := 1) hx hb dX6_isSheltered_69 (by decide) ?_
        refine lv_icmp_ne (tgt := 77) hx hb dX6_isSheltered_70 (by decide) (fun hc => ?_) (fun hc => ?_)
        · have hf := oI_neg hc hf
          refine lv_iconst (v := 0) hx hb dX6_isSheltered_77 (by decide) ?_
          cases hf
          exact z_zret E rfl z_n0 hw dX6_isSheltered_78
        · have hf := oI_pos hc hf
          exact w_X6_isSheltered_73 E   hf _ _ _ hw (lv_sub hl [] rfl)
    · have hf := oI_neg hc hf
      refine lv_iload_n hx hb dX6_isSheltered_17 rfl (lv_at hl 2 rfl) ?_
      refine lv_if_eq (tgt := 48) hx hb dX6_isSheltered_18 (by decide) (fun hc => ?_) (fun hc => ?_)
      · have hf := oI_pos hc hf
        exact w_X6_isSheltered_48 E ih _ _ _ hf _ _ _ hw (lv_sub hl [0, 1, 3] rfl)
      · have hf := oI_neg hc hf
        refine lv_aload_n hx hb dX6_isSheltered_21 rfl (lv_at hl 0 rfl) ?_
        refine z_get E.1 hw in_wsX60 0 rfl rfl 0 (z_lt rfl) mw_594 (v := .ref a_a) rfl dX6_isSheltered_22 ?_
        refine lv_bipush (v := 26) hx hb dX6_isSheltered_25 (by decide) ?_
        refine lv_aload_n hx hb dX6_isSheltered_27 rfl (lv_at hl 0 rfl) ?_
        refine z_get E.1 hw in_wsX60 0 rfl rfl 0 (z_lt rfl) mw_594 (v := .ref a_a) rfl dX6_isSheltered_28 ?_
        refine lv_bipush (v := 107) hx hb dX6_isSheltered_31 (by decide) ?_
        refine lv_iload_n hx hb dX6_isSheltered_33 rfl (lv_at hl 1 rfl) ?_
        refine lv_iadd hx hb dX6_isSheltered_34 ?_
        obtain ⟨h_3, hf⟩ := oA_elim hf
        refine z_iald E.1 hw 1 0 rfl rfl h_3 dX6_isSheltered_35 ?_
        refine lv_iadd hx hb dX6_isSheltered_36 ?_
        refine lv_iload_n hx hb dX6_isSheltered_37 rfl (lv_at hl 3 rfl) ?_
        refine lv_iadd hx hb dX6_isSheltered_38 ?_
        obtain ⟨h_4, hf⟩ := oA_elim hf
        refine z_iald E.1 hw 1 0 rfl rfl h_4 dX6_isSheltered_39 ?_
        refine lv_iconst (v := 1) hx hb dX6_isSheltered_40 (by decide) ?_
        refine lv_icmp_ne (tgt := 48) hx hb dX6_isSheltered_41 (by decide) (fun hc => ?_) (fun hc => ?_)
        · have hf := oI_neg hc hf
          exact w_X6_isSheltered_48 E ih _ _ _ hf _ _ _ hw (lv_sub hl [0, 1, 3] rfl)
        · have hf := oI_pos hc hf
          refine lv_iconst (v := 1) hx hb dX6_isSheltered_44 (by decide) ?_
          refine lv_goto (tgt := 49) hx hb dX6_isSheltered_45 (by decide) ?_
          exact w_X6_isSheltered_49 E ih _ _ _ _ hf _ _ _ hw (lv_sub hl [0, 1, 3] rfl)
set_option maxHeartbeats 4000000 in
set_option maxRecDepth 100000 in
theorem c_X6_isSheltered {l : Launch} {D : va_G} {cI cZ cM : ClassId} {a_this a_a a_fresh a_kept a_buffer a_best a_rentBy a_bareBy a_aheadBy a_isEdge a_tried a_stands a_found a_foundOn a_moving : Nat} {v_keptMany : Int32} {v_thrown : Int32} {v_buffered : Int32} {v_size : Int32} {v_at : Int32} {v_behind : Int32} {v_kind : Int32} {v_wrong : Int32} {v_wrongAt : Int32} {v_errorAt : Int32} {v_number : Int64} {v_movingMany : Int32} {v_foundIncome : Int32} {v_foundMoves : Int32} {res : Int32} {sz : Nat} {n : Nat} {v_a : Nat → Int32} {x1 : Int32} (hf : f_X6_isSheltered n v_a x1 = some res) : Met l yX6_isSheltered zwX6_isSheltered rmX6_isSheltered (zPc D (zT cI cZ cM) [.ref a_this, .int x1] [(a_this, .inr (6, [.ref a_a, .ref a_fresh, .ref a_kept, .int v_keptMany, .int v_thrown, .ref a_buffer, .int v_buffered, .int v_size, .int v_at, .int v_behind, .int v_kind, .int v_wrong, .int v_wrongAt, .int v_errorAt, .long v_number, .ref a_best, .ref a_rentBy, .ref a_bareBy, .ref a_aheadBy, .ref a_isEdge, .ref a_tried, .ref a_stands, .ref a_found, .ref a_foundOn, .ref a_moving, .int v_movingMany, .int v_foundIncome, .int v_foundMoves])), (a_a, .inl (cI, 180, .inl v_a))] sz) (zQi D (zT cI cZ cM) res [(a_this, .inr (6, [.ref a_a, .ref a_fresh, .ref a_kept, .int v_keptMany, .int v_thrown, .ref a_buffer, .int v_buffered, .int v_size, .int v_at, .int v_behind, .int v_kind, .int v_wrong, .int v_wrongAt, .int v_errorAt, .long v_number, .ref a_best, .ref a_rentBy, .ref a_bareBy, .ref a_aheadBy, .ref a_isEdge, .ref a_tried, .ref a_stands, .ref a_found, .ref a_foundOn, .ref a_moving, .int v_movingMany, .int v_foundIncome, .int v_foundMoves])), (a_a, .inl (cI, 180, .inl v_a))] (va_A [(a_this, .inr (6, [.ref a_a, .ref a_fresh, .ref a_kept, .int v_keptMany, .int v_thrown, .ref a_buffer, .int v_buffered, .int v_size, .int v_at, .int v_behind, .int v_kind, .int v_wrong, .int v_wrongAt, .int v_errorAt, .long v_number, .ref a_best, .ref a_rentBy, .ref a_bareBy, .ref a_aheadBy, .ref a_isEdge, .ref a_tried, .ref a_stands, .ref a_found, .ref a_foundOn, .ref a_moving, .int v_movingMany, .int v_foundIncome, .int v_foundMoves])), (a_a, .inl (cI, 180, .inl v_a))] sz)) 0 0 (va_A [(a_this, .inr (6, [.ref a_a, .ref a_fresh, .ref a_kept, .int v_keptMany, .int v_thrown, .ref a_buffer, .int v_buffered, .int v_size, .int v_at, .int v_behind, .int v_kind, .int v_wrong, .int v_wrongAt, .int v_errorAt, .long v_number, .ref a_best, .ref a_rentBy, .ref a_bareBy, .ref a_aheadBy, .ref a_isEdge, .ref a_tried, .ref a_stands, .ref a_found, .ref a_foundOn, .ref a_moving, .int v_movingMany, .int v_foundIncome, .int v_foundMoves])), (a_a, .inl (cI, 180, .inl v_a))] sz) := by
  refine z_met (cc := cX6_isSheltered) (maxL := 4) (ret := (some .boolean)) (by decide) rfl (Nat.le_of_ble_eq_true rfl) ?_
  intro p e s m below meth c ls E hsz hw hl
  obtain ⟨⟨hx, hb, hml, hown, hts⟩, hr, hlocks⟩ := id E
  have hl : lv_has ls 4 [(0, .ref a_this), (1, .int x1)] := hl
  unfold f_X6_isSheltered at hf
  refine lv_iconst (v := 1) hx hb dX6_isSheltered_0 (by decide) ?_
  refine lv_istore_n (lv' := [(2, .int (1 : Int32)), (0, .ref a_this), (1, .int x1)]) hx hb dX6_isSheltered_1 rfl hl (z_lt rfl) rfl (fun ls hl => ?_)
  refine lv_iconst (v := 0) hx hb dX6_isSheltered_2 (by decide) ?_
  refine lv_istore_n (lv' := [(3, .int (0 : Int32)), (2, .int (1 : Int32)), (0, .ref a_this), (1, .int x1)]) hx hb dX6_isSheltered_3 rfl hl (z_lt rfl) rfl (fun ls hl => ?_)
  exact w_X6_isSheltered_4 E  n _ _ _ _ hf _ _ _ hw (lv_sub hl [2, 3, 1, 0] rfl)
end
/-! X6_needs -/
section
variable {p : Program} {l : Launch} {e : Env} {s : State} {m : MethodId} {args : Array Value} {below : List Frame} {meth : Method} {c : Code} {D : va_G} {A : Nat → Prop} {cI cZ cM : ClassId} {a_this a_a a_fresh a_kept a_buffer a_best a_rentBy a_bareBy a_aheadBy a_isEdge a_tried a_stands a_found a_foundOn a_moving : Nat} {v_keptMany : Int32} {v_thrown : Int32} {v_buffered : Int32} {v_errorAt : Int32} {v_movingMany : Int32} {v_foundIncome : Int32} {v_foundMoves : Int32} {res : Int32 × Int32 × Int32 × Int32 × Int32 × Int64} {adK adV : Nat → Nat}
def rmX6_needs : Room := { frames := 7, cells := 0, slots := 0, locals := 175 }
abbrev zwX6_needs : List Cond := Cond.code yX6_needs cX6_needs 2 none :: wsAll
set_option maxHeartbeats 4000000 in
set_option maxRecDepth 100000 in
theorem c_X6_needs {l : Launch} {D : va_G} {cI cZ cM : ClassId} {adK adV : Nat → Nat} {a_this a_a a_fresh a_kept a_buffer a_best a_rentBy a_bareBy a_aheadBy a_isEdge a_tried a_stands a_found a_foundOn a_moving : Nat} {v_keptMany : Int32} {v_thrown : Int32} {v_buffered : Int32} {v_errorAt : Int32} {v_movingMany : Int32} {v_foundIncome : Int32} {v_foundMoves : Int32} {res : Int32 × Int32 × Int32 × Int32 × Int32 × Int64} {sz : Nat} {n : Nat} {v_buffer : Nat → Int32} {v_size : Int32} {v_at : Int32} {v_behind : Int32} {v_kind : Int32} {v_wrong : Int32} {v_wrongAt : Int32} {v_number : Int64} {x1 : Int32} (hf : f_X6_needs n v_buffer v_size v_at v_behind v_kind v_wrong v_wrongAt v_number x1 = some res) : Met l yX6_needs zwX6_needs rmX6_needs (zPcG D (zT cI cZ cM) [.ref a_this, .int x1] [(a_this, .inr (6, [.ref a_a, .ref a_fresh, .ref a_kept, .int v_keptMany, .int v_thrown, .ref a_buffer, .int v_buffered, .int v_size, .int v_at, .int v_behind, .int v_kind, .int v_wrong, .int v_wrongAt, .int v_errorAt, .long v_number, .ref a_best, .ref a_rentBy, .ref a_bareBy, .ref a_aheadBy, .ref a_isEdge, .ref a_tried, .ref a_stands, .ref a_found, .ref a_foundOn, .ref a_moving, .int v_movingMany, .int v_foundIncome, .int v_foundMoves])), (a_buffer, .inl (cI, 600, .inl v_buffer))] sz adK adV) (zQv D (zT cI cZ cM) [(a_this, .inr (6, [.ref a_a, .ref a_fresh, .ref a_kept, .int v_keptMany, .int v_thrown, .ref a_buffer, .int v_buffered, .int v_size, .int res.1, .int res.2.1, .int res.2.2.1, .int res.2.2.2.1, .int res.2.2.2.2.1, .int v_errorAt, .long res.2.2.2.2.2, .ref a_best, .ref a_rentBy, .ref a_bareBy, .ref a_aheadBy, .ref a_isEdge, .ref a_tried, .ref a_stands, .ref a_found, .ref a_foundOn, .ref a_moving, .int v_movingMany, .int v_foundIncome, .int v_foundMoves])), (a_buffer, .inl (cI, 600, .inl v_buffer))] (va_A [(a_this, .inr (6, [.ref a_a, .ref a_fresh, .ref a_kept, .int v_keptMany, .int v_thrown, .ref a_buffer, .int v_buffered, .int v_size, .int v_at, .int v_behind, .int v_kind, .int v_wrong, .int v_wrongAt, .int v_errorAt, .long v_number, .ref a_best, .ref a_rentBy, .ref a_bareBy, .ref a_aheadBy, .ref a_isEdge, .ref a_tried, .ref a_stands, .ref a_found, .ref a_foundOn, .ref a_moving, .int v_movingMany, .int v_foundIncome, .int v_foundMoves])), (a_buffer, .inl (cI, 600, .inl v_buffer))] sz)) 0 0 (va_A [(a_this, .inr (6, [.ref a_a, .ref a_fresh, .ref a_kept, .int v_keptMany, .int v_thrown, .ref a_buffer, .int v_buffered, .int v_size, .int v_at, .int v_behind, .int v_kind, .int v_wrong, .int v_wrongAt, .int v_errorAt, .long v_number, .ref a_best, .ref a_rentBy, .ref a_bareBy, .ref a_aheadBy, .ref a_isEdge, .ref a_tried, .ref a_stands, .ref a_found, .ref a_foundOn, .ref a_moving, .int v_movingMany, .int v_foundIncome, .int v_foundMoves])), (a_buffer, .inl (cI, 600, .inl v_buffer))] sz) := by
  refine z_metG (cc := cX6_needs) (maxL := 2) (ret := none) (by decide) rfl (Nat.le_of_ble_eq_true rfl) ?_
  intro p e s m below meth c ls E hT hLt hG hsz hw hl
  obtain ⟨⟨hx, hb, hml, hown, hts⟩, hr, hlocks⟩ := id E
  have hl : lv_has ls 2 [(0, .ref a_this), (1, .int x1)] := hl
  unfold f_X6_needs at hf
  refine lv_aload_n hx hb dX6_needs_0 rfl (lv_at hl 0 rfl) ?_
  refine lv_iload_n hx hb dX6_needs_1 rfl (lv_at hl 1 rfl) ?_
  obtain ⟨r_1, v_2, v_3, v_4, v_5, h_6, hf⟩ := oB5_elim hf
  refine z_callGVi (ws' := [(a_this, .inr (6, [.ref a_a, .ref a_fresh, .ref a_kept, .int v_keptMany, .int v_thrown, .ref a_buffer, .int v_buffered, .int v_size, .int v_2, .int v_3, .int v_4, .int v_wrong, .int v_wrongAt, .int v_errorAt, .long v_5, .ref a_best, .ref a_rentBy, .ref a_bareBy, .ref a_aheadBy, .ref a_isEdge, .ref a_tried, .ref a_stands, .ref a_found, .ref a_foundOn, .ref a_moving, .int v_movingMany, .int v_foundIncome, .int v_foundMoves])), (a_buffer, .inl (cI, 600, .inl v_buffer))]) (wr := []) (As := [.int x1]) (rest := []) E.1 hl hT hLt hG hw (c_X6_eats h_6) (cwV 1 hts (z_gV mw_854 mw_855 mw_856 mw_598 mw_725) rfl rfl rfl (by decide +kernel) ⟨(Nat.le_of_ble_eq_true rfl), (Nat.le_of_ble_eq_true rfl)⟩) 2 [(0, 2)] [] rfl rfl rfl rfl rfl rfl (by decide +kernel) rfl (q0 := 0) rfl rfl rfl (Nat.le_of_ble_eq_true rfl) dX6_needs_2 ⟨Nat.le_of_ble_eq_true rfl, Nat.le_of_ble_eq_true rfl⟩ (fun H locs hw => ?_)
  refine lv_if_ne (tgt := 14) hx hb dX6_needs_5 (by decide) (fun hc => ?_) (fun hc => ?_)
  · have hf := oI_neg hc hf
    cases hf
    exact z_vret E rfl hw dX6_needs_14
  · have hf := oI_pos hc hf
    refine lv_aload_n hx hb dX6_needs_8 rfl (lv_at hl 0 rfl) ?_
    refine lv_bipush (v := -2) hx hb dX6_needs_9 (by decide) ?_
    obtain ⟨v_7, v_8, h_9, hf⟩ := oB2_elim hf
    refine z_callVv (ws' := [(a_this, .inr (6, [.ref a_a, .ref a_fresh, .ref a_kept, .int v_keptMany, .int v_thrown, .ref a_buffer, .int v_buffered, .int v_size, .int v_2, .int v_3, .int v_4, .int v_7, .int v_8, .int v_errorAt, .long v_5, .ref a_best, .ref a_rentBy, .ref a_bareBy, .ref a_aheadBy, .ref a_isEdge, .ref a_tried, .ref a_stands, .ref a_found, .ref a_foundOn, .ref a_moving, .int v_movingMany, .int v_foundIncome, .int v_foundMoves])), (a_buffer, .inl (cI, 600, .inl v_buffer))]) (wr := [(a_buffer, .inl (cI, 600, .inl v_buffer))]) (As := [.int (-2 : Int32)]) (rest := []) E.1 hl hw (c_X6_fails h_9) (cwV 1 hts (z_gV mw_847 mw_848 mw_849 mw_598 mw_770) rfl rfl rfl (by decide +kernel) ⟨(Nat.le_of_ble_eq_true rfl), (Nat.le_of_ble_eq_true rfl)⟩) 2 [(0, 1)] [(1, 1)] rfl rfl rfl rfl rfl rfl (by decide +kernel) rfl (q0 := 0) rfl rfl rfl (Nat.le_of_ble_eq_true rfl) dX6_needs_11 ⟨Nat.le_of_ble_eq_true rfl, Nat.le_of_ble_eq_true rfl⟩ (fun H locs hw => ?_)
    cases hf
    exact z_vret E rfl hw dX6_needs_14
end
/-! X6_takes -/
section
variable {p : Program} {l : Launch} {e : Env} {s : State} {m : MethodId} {args : Array Value} {below : List Frame} {meth : Method} {c : Code} {D : va_G} {A : Nat → Prop} {cI cZ cM : ClassId} {a_this a_a a_fresh a_kept a_buffer a_best a_rentBy a_bareBy a_aheadBy a_isEdge a_tried a_stands a_found a_foundOn a_moving : Nat} {v_keptMany : Int32} {v_thrown : Int32} {v_buffered : Int32} {v_errorAt : Int32} {v_movingMany : Int32} {v_foundIncome : Int32} {v_foundMoves : Int32} {res : Int32 × Int32 × Int32 × Int32 × Int32 × Int32 × Int64} {adK adV : Nat → Nat}
def rmX6_takes : Room := { frames := 6, cells := 0, slots := 0, locals := 154 }
abbrev zwX6_takes : List Cond := Cond.code yX6_takes cX6_takes 4 (some .int) :: wsAll
set_option maxHeartbeats 4000000 in
set_option maxRecDepth 100000 in
theorem w_X6_takes_38 {n : Nat} (E : zE p s m args meth c cX6_takes 4 (some .int) zwX6_takes RX6) (hT : zTn s) (hLt : zLt adK s) (hG : zSg adK adV A s s.heap) : ∀ (v_buffer : Nat → Int32) (v_size : Int32) (v_at : Int32) (v_behind : Int32) (v_kind : Int32) (v_wrong : Int32) (v_wrongAt : Int32) (v_number : Int64), f_X6_takes_38 n v_buffer v_size v_at v_behind v_kind v_wrong v_wrongAt v_number = some res → ∀ (H : Heap) (locs : List Loc) (ls : Array Slot), zW D (zT cI cZ cM) A s [(a_this, .inr (6, [.ref a_a, .ref a_fresh, .ref a_kept, .int v_keptMany, .int v_thrown, .ref a_buffer, .int v_buffered, .int v_size, .int v_at, .int v_behind, .int v_kind, .int v_wrong, .int v_wrongAt, .int v_errorAt, .long v_number, .ref a_best, .ref a_rentBy, .ref a_bareBy, .ref a_aheadBy, .ref a_isEdge, .ref a_tried, .ref a_stands, .ref a_found, .ref a_foundOn, .ref a_moving, .int v_movingMany, .int v_foundIncome, .int v_foundMoves])), (a_buffer, .inl (cI, 600, .inl v_buffer))] H locs → lv_has ls 4 [(0, .ref a_this)] → W p l e rmX6_takes s m args below meth c H locs 0 0 (MQ below (zQi D (zT cI cZ cM) res.1 [(a_this, .inr (6, [.ref a_a, .ref a_fresh, .ref a_kept, .int v_keptMany, .int v_thrown, .ref a_buffer, .int v_buffered, .int v_size, .int res.2.1, .int res.2.2.1, .int res.2.2.2.1, .int res.2.2.2.2.1, .int res.2.2.2.2.2.1, .int v_errorAt, .long res.2.2.2.2.2.2, .ref a_best, .ref a_rentBy, .ref a_bareBy, .ref a_aheadBy, .ref a_isEdge, .ref a_tried, .ref a_stands, .ref a_found, .ref a_foundOn, .ref a_moving, .int v_movingMany, .int v_foundIncome, .int v_foundMoves])), (a_buffer, .inl (cI, 600, .inl v_buffer))] A) args s 0 0 A) (F0 m 38 ls []) := by
  obtain ⟨⟨hx, hb, hml, hown, hts⟩, hr, hlocks⟩ := id E
  intro v_buffer v_size v_at v_behind v_kind v_wrong v_wrongAt v_number hf H locs ls hw hl
  unfold f_X6_takes_38 at hf
  refine lv_aload_n hx hb dX6_takes_38 rfl (lv_at hl 0 rfl) ?_
  refine z_get E.1 hw in_wsX60 0 rfl rfl 14 (z_lt rfl) mw_739 (v := .long v_number) rfl dX6_takes_39 ?_
  refine lv_l2i hx hb dX6_takes_42 rfl ?_
  obtain ⟨y_1, e_y_1, hf⟩ := oL_elim hf
  refine z_top e_y_1 ?_
  refine lv_istore_n (lv' := [(3, .int y_1), (0, .ref a_this)]) hx hb dX6_takes_43 rfl hl (z_lt rfl) rfl (fun ls hl => ?_)
  refine lv_aload_n hx hb dX6_takes_44 rfl (lv_at hl 1 rfl) ?_
  refine z_get E.1 hw in_wsX60 0 rfl rfl 11 (z_lt rfl) mw_730 (v := .int v_wrong) rfl dX6_takes_45 ?_
  refine lv_if_ne (tgt := 55) hx hb dX6_takes_48 (by decide) (fun hc => ?_) (fun hc => ?_)
  · have hf := oI_neg hc hf
    refine lv_iload_n hx hb dX6_takes_55 rfl (lv_at hl 0 rfl) ?_
    cases hf
    exact z_iret E rfl hw dX6_takes_56
  · have hf := oI_pos hc hf
    refine lv_aload_n hx hb dX6_takes_51 rfl (lv_at hl 1 rfl) ?_
    obtain ⟨v_2, v_3, v_4, v_5, h_6, hf⟩ := oB4_elim hf
    refine z_callGVv (ws' := [(a_this, .inr (6, [.ref a_a, .ref a_fresh, .ref a_kept, .int v_keptMany, .int v_thrown, .ref a_buffer, .int v_buffered, .int v_size, .int v_2, .int v_3, .int v_4, .int v_wrong, .int v_wrongAt, .int v_errorAt, .long v_5, .ref a_best, .ref a_rentBy, .ref a_bareBy, .ref a_aheadBy, .ref a_isEdge, .ref a_tried, .ref a_stands, .ref a_found, .ref a_foundOn, .ref a_moving, .int v_movingMany, .int v_foundIncome, .int v_foundMoves])), (a_buffer, .inl (cI, 600, .inl v_buffer))]) (wr := []) (As := []) (rest := []) E.1 hl hT hLt hG hw (c_X6_next h_6) (cwV 0 hts (z_gV mw_732 mw_733 mw_734 mw_598 mw_735) rfl rfl rfl (by decide +kernel) ⟨(Nat.le_of_ble_eq_true rfl), (Nat.le_of_ble_eq_true rfl)⟩) 2 [(0, 2)] [] rfl rfl rfl rfl rfl rfl (by decide +kernel) rfl (q0 := 0) rfl rfl rfl (Nat.le_of_ble_eq_true rfl) dX6_takes_52 ⟨Nat.le_of_ble_eq_true rfl, Nat.le_of_ble_eq_true rfl⟩ (fun H locs hw => ?_)
    refine lv_iload_n hx hb dX6_takes_55 rfl (lv_at hl 0 rfl) ?_
    cases hf
    exact z_iret E rfl hw dX6_takes_56
set_option maxHeartbeats 4000000 in
set_option maxRecDepth 100000 in
theorem c_X6_takes {l : Launch} {D : va_G} {cI cZ cM : ClassId} {adK adV : Nat → Nat} {a_this a_a a_fresh a_kept a_buffer a_best a_rentBy a_bareBy a_aheadBy a_isEdge a_tried a_stands a_found a_foundOn a_moving : Nat} {v_keptMany : Int32} {v_thrown : Int32} {v_buffered : Int32} {v_errorAt : Int32} {v_movingMany : Int32} {v_foundIncome : Int32} {v_foundMoves : Int32} {res : Int32 × Int32 × Int32 × Int32 × Int32 × Int32 × Int64} {sz : Nat} {n : Nat} {v_buffer : Nat → Int32} {v_size : Int32} {v_at : Int32} {v_behind : Int32} {v_kind : Int32} {v_wrong : Int32} {v_wrongAt : Int32} {v_number : Int64} {x1 : Int32} {x2 : Int32} (hf : f_X6_takes n v_buffer v_size v_at v_behind v_kind v_wrong v_wrongAt v_number x1 x2 = some res) : Met l yX6_takes zwX6_takes rmX6_takes (zPcG D (zT cI cZ cM) [.ref a_this, .int x1, .int x2] [(a_this, .inr (6, [.ref a_a, .ref a_fresh, .ref a_kept, .int v_keptMany, .int v_thrown, .ref a_buffer, .int v_buffered, .int v_size, .int v_at, .int v_behind, .int v_kind, .int v_wrong, .int v_wrongAt, .int v_errorAt, .long v_number, .ref a_best, .ref a_rentBy, .ref a_bareBy, .ref a_aheadBy, .ref a_isEdge, .ref a_tried, .ref a_stands, .ref a_found, .ref a_foundOn, .ref a_moving, .int v_movingMany, .int v_foundIncome, .int v_foundMoves])), (a_buffer, .inl (cI, 600, .inl v_buffer))] sz adK adV) (zQi D (zT cI cZ cM) res.1 [(a_this, .inr (6, [.ref a_a, .ref a_fresh, .ref a_kept, .int v_keptMany, .int v_thrown, .ref a_buffer, .int v_buffered, .int v_size, .int res.2.1, .int res.2.2.1, .int res.2.2.2.1, .int res.2.2.2.2.1, .int res.2.2.2.2.2.1, .int v_errorAt, .long res.2.2.2.2.2.2, .ref a_best, .ref a_rentBy, .ref a_bareBy, .ref a_aheadBy, .ref a_isEdge, .ref a_tried, .ref a_stands, .ref a_found, .ref a_foundOn, .ref a_moving, .int v_movingMany, .int v_foundIncome, .int v_foundMoves])), (a_buffer, .inl (cI, 600, .inl v_buffer))] (va_A [(a_this, .inr (6, [.ref a_a, .ref a_fresh, .ref a_kept, .int v_keptMany, .int v_thrown, .ref a_buffer, .int v_buffered, .int v_size, .int v_at, .int v_behind, .int v_kind, .int v_wrong, .int v_wrongAt, .int v_errorAt, .long v_number, .ref a_best, .ref a_rentBy, .ref a_bareBy, .ref a_aheadBy, .ref a_isEdge, .ref a_tried, .ref a_stands, .ref a_found, .ref a_foundOn, .ref a_moving, .int v_movingMany, .int v_foundIncome, .int v_foundMoves])), (a_buffer, .inl (cI, 600, .inl v_buffer))] sz)) 0 0 (va_A [(a_this, .inr (6, [.ref a_a, .ref a_fresh, .ref a_kept, .int v_keptMany, .int v_thrown, .ref a_buffer, .int v_buffered, .int v_size, .int v_at, .int v_behind, .int v_kind, .int v_wrong, .int v_wrongAt, .int v_errorAt, .long v_number, .ref a_best, .ref a_rentBy, .ref a_bareBy, .ref a_aheadBy, .ref a_isEdge, .ref a_tried, .ref a_stands, .ref a_found, .ref a_foundOn, .ref a_moving, .int v_movingMany, .int v_foundIncome, .int v_foundMoves])), (a_buffer, .inl (cI, 600, .inl v_buffer))] sz) := by
  refine z_metG (cc := cX6_takes) (maxL := 4) (ret := (some .int)) (by decide) rfl (Nat.le_of_ble_eq_true rfl) ?_
  intro p e s m below meth c ls E hT hLt hG hsz hw hl
  obtain ⟨⟨hx, hb, hml, hown, hts⟩, hr, hlocks⟩ := id E
  have hl : lv_has ls 4 [(0, .ref a_this), (1, .int x1), (2, .int x2)] := hl
  unfold f_X6_takes at hf
  refine lv_aload_n hx hb dX6_takes_0 rfl (lv_at hl 0 rfl) ?_
  refine lv_bipush (v := 9) hx hb dX6_takes_1 (by decide) ?_
  obtain ⟨r_7, h_8, hf⟩ := oB_elim hf
  refine z_callVi (ws' := [(a_this, .inr (6, [.ref a_a, .ref a_fresh, .ref a_kept, .int v_keptMany, .int v_thrown, .ref a_buffer, .int v_buffered, .int v_size, .int v_at, .int v_behind, .int v_kind, .int v_wrong, .int v_wrongAt, .int v_errorAt, .long v_number, .ref a_best, .ref a_rentBy, .ref a_bareBy, .ref a_aheadBy, .ref a_isEdge, .ref a_tried, .ref a_stands, .ref a_found, .ref a_foundOn, .ref a_moving, .int v_movingMany, .int v_foundIncome, .int v_foundMoves])), (a_buffer, .inl (cI, 600, .inl v_buffer))]) (wr := [(a_buffer, .inl (cI, 600, .inl v_buffer))]) (As := [.int (9 : Int32)]) (rest := []) E.1 hl hw (c_X6_is h_8) (cwV 1 hts (z_gV mw_726 mw_727 mw_728 mw_598 mw_729) rfl rfl rfl (by decide +kernel) ⟨(Nat.le_of_ble_eq_true rfl), (Nat.le_of_ble_eq_true rfl)⟩) 2 [(0, 1)] [(1, 1)] rfl rfl rfl rfl rfl rfl (by decide +kernel) rfl (q0 := 0) rfl rfl rfl (Nat.le_of_ble_eq_true rfl) dX6_takes_3 ⟨Nat.le_of_ble_eq_true rfl, Nat.le_of_ble_eq_true rfl⟩ (fun H locs hw => ?_)
  refine lv_if_ne (tgt := 18) hx hb dX6_takes_6 (by decide) (fun hc => ?_) (fun hc => ?_)
  · have hf := oI_neg hc hf
    refine lv_aload_n hx hb dX6_takes_18 rfl (lv_at hl 0 rfl) ?_
    refine z_get E.1 hw in_wsX60 0 rfl rfl 14 (z_lt rfl) mw_739 (v := .long v_number) rfl dX6_takes_19 ?_
    refine lv_iload_n hx hb dX6_takes_22 rfl (lv_at hl 1 rfl) ?_
    refine lv_i2l hx hb dX6_takes_23 rfl ?_
    refine lv_iload_n hx hb dX6_takes_24 rfl (lv_at hl 2 rfl) ?_
    refine lv_i2l hx hb dX6_takes_25 rfl ?_
    obtain ⟨r_9, h_10, hf⟩ := oB_elim hf
    refine z_callSi (ws' := [(a_this, .inr (6, [.ref a_a, .ref a_fresh, .ref a_kept, .int v_keptMany, .int v_thrown, .ref a_buffer, .int v_buffered, .int v_size, .int v_at, .int v_behind, .int v_kind, .int v_wrong, .int v_wrongAt, .int v_errorAt, .long v_number, .ref a_best, .ref a_rentBy, .ref a_bareBy, .ref a_aheadBy, .ref a_isEdge, .ref a_tried, .ref a_stands, .ref a_found, .ref a_foundOn, .ref a_moving, .int v_movingMany, .int v_foundIncome, .int v_foundMoves])), (a_buffer, .inl (cI, 600, .inl v_buffer))]) (wr := [(a_this, .inr (6, [.ref a_a, .ref a_fresh, .ref a_kept, .int v_keptMany, .int v_thrown, .ref a_buffer, .int v_buffered, .int v_size, .int v_at, .int v_behind, .int v_kind, .int v_wrong, .int v_wrongAt, .int v_errorAt, .long v_number, .ref a_best, .ref a_rentBy, .ref a_bareBy, .ref a_aheadBy, .ref a_isEdge, .ref a_tried, .ref a_stands, .ref a_found, .ref a_foundOn, .ref a_moving, .int v_movingMany, .int v_foundIncome, .int v_foundMoves])), (a_buffer, .inl (cI, 600, .inl v_buffer))]) (As := [.long v_number, .long ((x1).toInt64), .long ((x2).toInt64)]) (rest := []) E.1 hl hw (c_X6_isIn h_10) (va_cwS 3 hts (z_gS mw_596 mw_597 mw_598 mw_599) rfl rfl rfl (by decide +kernel) ⟨(Nat.le_of_ble_eq_true rfl), (Nat.le_of_ble_eq_true rfl)⟩) 2 [] [(0, 2)] rfl rfl rfl rfl rfl rfl (by decide +kernel) rfl rfl (Nat.le_of_ble_eq_true rfl) dX6_takes_26 ⟨Nat.le_of_ble_eq_true rfl, Nat.le_of_ble_eq_true rfl⟩ (fun H locs hw => ?_)
    refine lv_if_ne (tgt := 38) hx hb dX6_takes_29 (by decide) (fun hc => ?_) (fun hc => ?_)
    · have hf := oI_neg hc hf
      exact w_X6_takes_38 E hT hLt hG  _ _ _ _ _ _ _ _ hf _ _ _ hw (lv_sub hl [0] rfl)
    · have hf := oI_pos hc hf
      refine lv_aload_n hx hb dX6_takes_32 rfl (lv_at hl 0 rfl) ?_
      refine lv_bipush (v := -3) hx hb dX6_takes_33 (by decide) ?_
      obtain ⟨v_11, v_12, h_13, hf⟩ := oB2_elim hf
      refine z_callVv (ws' := [(a_this, .inr (6, [.ref a_a, .ref a_fresh, .ref a_kept, .int v_keptMany, .int v_thrown, .ref a_buffer, .int v_buffered, .int v_size, .int v_at, .int v_behind, .int v_kind, .int v_11, .int v_12, .int v_errorAt, .long v_number, .ref a_best, .ref a_rentBy, .ref a_bareBy, .ref a_aheadBy, .ref a_isEdge, .ref a_tried, .ref a_stands, .ref a_found, .ref a_foundOn, .ref a_moving, .int v_movingMany, .int v_foundIncome, .int v_foundMoves])), (a_buffer, .inl (cI, 600, .inl v_buffer))]) (wr := [(a_buffer, .inl (cI, 600, .inl v_buffer))]) (As := [.int (-3 : Int32)]) (rest := []) E.1 hl hw (c_X6_fails h_13) (cwV 1 hts (z_gV mw_847 mw_848 mw_849 mw_598 mw_770) rfl rfl rfl (by decide +kernel) ⟨(Nat.le_of_ble_eq_true rfl), (Nat.le_of_ble_eq_true rfl)⟩) 2 [(0, 1)] [(1, 1)] rfl rfl rfl rfl rfl rfl (by decide +kernel) rfl (q0 := 0) rfl rfl rfl (Nat.le_of_ble_eq_true rfl) dX6_takes_35 ⟨Nat.le_of_ble_eq_true rfl, Nat.le_of_ble_eq_true rfl⟩ (fun H locs hw => ?_)
      exact w_X6_takes_38 E hT hLt hG  _ _ _ _ _ _ _ _ hf _ _ _ hw (lv_sub hl [0] rfl)
  · have hf := oI_pos hc hf
    refine lv_aload_n hx hb dX6_takes_9 rfl (lv_at hl 0 rfl) ?_
    refine lv_bipush (v := -2) hx hb dX6_takes_10 (by decide) ?_
    obtain ⟨v_14, v_15, h_16, hf⟩ := oB2_elim hf
    refine z_callVv (ws' := [(a_this, .inr (6, [.ref a_a, .ref a_fresh, .ref a_kept, .int v_keptMany, .int v_thrown, .ref a_buffer, .int v_buffered, .int v_size, .int v_at, .int v_behind, .int v_kind, .int v_14, .int v_15, .int v_errorAt, .long v_number, .ref a_best, .ref a_rentBy, .ref a_bareBy, .ref a_aheadBy, .ref a_isEdge, .ref a_tried, .ref a_stands, .ref a_found, .ref a_foundOn, .ref a_moving, .int v_movingMany, .int v_foundIncome, .int v_foundMoves])), (a_buffer, .inl (cI, 600, .inl v_buffer))]) (wr := [(a_buffer, .inl (cI, 600, .inl v_buffer))]) (As := [.int (-2 : Int32)]) (rest := []) E.1 hl hw (c_X6_fails h_16) (cwV 1 hts (z_gV mw_847 mw_848 mw_849 mw_598 mw_770) rfl rfl rfl (by decide +kernel) ⟨(Nat.le_of_ble_eq_true rfl), (Nat.le_of_ble_eq_true rfl)⟩) 2 [(0, 1)] [(1, 1)] rfl rfl rfl rfl rfl rfl (by decide +kernel) rfl (q0 := 0) rfl rfl rfl (Nat.le_of_ble_eq_true rfl) dX6_takes_12 ⟨Nat.le_of_ble_eq_true rfl, Nat.le_of_ble_eq_true rfl⟩ (fun H locs hw => ?_)
    refine lv_goto (tgt := 38) hx hb dX6_takes_15 (by decide) ?_
    exact w_X6_takes_38 E hT hLt hG  _ _ _ _ _ _ _ _ hf _ _ _ hw (lv_sub hl [0] rfl)
end
/-! X6_readsTrader -/
section
variable {p : Program} {l : Launch} {e : Env} {s : State} {m : MethodId} {args : Array Value} {below : List Frame} {meth : Method} {c : Code} {D : va_G} {A : Nat → Prop} {cI cZ cM : ClassId} {a_this a_a a_fresh a_kept a_buffer a_best a_rentBy a_bareBy a_aheadBy a_isEdge a_tried a_stands a_found a_foundOn a_moving : Nat} {v_keptMany : Int32} {v_thrown : Int32} {v_buffered : Int32} {v_errorAt : Int32} {v_movingMany : Int32} {v_foundIncome : Int32} {v_foundMoves : Int32} {res : (Nat → Int32) × Int32 × Int32 × Int32 × Int32 × Int32 × Int64} {adK adV : Nat → Nat}
def rmX6_readsTrader : Room := { frames := 8, cells := 0, slots := 0, locals := 196 }
abbrev zwX6_readsTrader : List Cond := Cond.code yX6_readsTrader cX6_readsTrader 5 none :: wsAll
set_option maxHeartbeats 4000000 in
set_option maxRecDepth 100000 in
theorem w_X6_readsTrader_127 {n : Nat} {v_buffer : Nat → Int32} {v_size : Int32} (E : zE p s m args meth c cX6_readsTrader 5 none zwX6_readsTrader RX6) (hT : zTn s) (hLt : zLt adK s) (hG : zSg adK adV A s s.heap) : ∀ (t1 : Int32) (t2 : Int32) (v_fresh : Nat → Int32) (v_at : Int32) (v_behind : Int32) (v_kind : Int32) (v_wrong : Int32) (v_wrongAt : Int32) (v_number : Int64), f_X6_readsTrader_127 n t1 t2 v_fresh v_at v_behind v_kind v_wrong v_wrongAt v_number = some res → ∀ (H : Heap) (locs : List Loc) (ls : Array Slot), zW D (zT cI cZ cM) A s [(a_this, .inr (6, [.ref a_a, .ref a_fresh, .ref a_kept, .int v_keptMany, .int v_thrown, .ref a_buffer, .int v_buffered, .int v_size, .int v_at, .int v_behind, .int v_kind, .int v_wrong, .int v_wrongAt, .int v_errorAt, .long v_number, .ref a_best, .ref a_rentBy, .ref a_bareBy, .ref a_aheadBy, .ref a_isEdge, .ref a_tried, .ref a_stands, .ref a_found, .ref a_foundOn, .ref a_moving, .int v_movingMany, .int v_foundIncome, .int v_foundMoves])), (a_fresh, .inl (cI, 180, .inl v_fresh)), (a_buffer, .inl (cI, 600, .inl v_buffer))] H locs → lv_has ls 5 [(0, .ref a_this)] → W p l e rmX6_readsTrader s m args below meth c H locs 0 0 (MQ below (zQv D (zT cI cZ cM) [(a_this, .inr (6, [.ref a_a, .ref a_fresh, .ref a_kept, .int v_keptMany, .int v_thrown, .ref a_buffer, .int v_buffered, .int v_size, .int res.2.1, .int res.2.2.1, .int res.2.2.2.1, .int res.2.2.2.2.1, .int res.2.2.2.2.2.1, .int v_errorAt, .long res.2.2.2.2.2.2, .ref a_best, .ref a_rentBy, .ref a_bareBy, .ref a_aheadBy, .ref a_isEdge, .ref a_tried, .ref a_stands, .ref a_found, .ref a_foundOn, .ref a_moving, .int v_movingMany, .int v_foundIncome, .int v_foundMoves])), (a_fresh, .inl (cI, 180, .inl res.1)), (a_buffer, .inl (cI, 600, .inl v_buffer))] A) args s 0 0 A) (F0 m 127 ls [.int t2, .int t1, .ref a_fresh]) := by
  obtain ⟨⟨hx, hb, hml, hown, hts⟩, hr, hlocks⟩ := id E
  intro t1 t2 v_fresh v_at v_behind v_kind v_wrong v_wrongAt v_number hf H locs ls hw hl
  unfold f_X6_readsTrader_127 at hf
  obtain ⟨h_1, hf⟩ := oA_elim hf
  obtain ⟨v_2, e_v_2, hf⟩ := oL_elim hf
  refine z_iast (ws' := [(a_this, .inr (6, [.ref a_a, .ref a_fresh, .ref a_kept, .int v_keptMany, .int v_thrown, .ref a_buffer, .int v_buffered, .int v_size, .int v_at, .int v_behind, .int v_kind, .int v_wrong, .int v_wrongAt, .int v_errorAt, .long v_number, .ref a_best, .ref a_rentBy, .ref a_bareBy, .ref a_aheadBy, .ref a_isEdge, .ref a_tried, .ref a_stands, .ref a_found, .ref a_foundOn, .ref a_moving, .int v_movingMany, .int v_foundIncome, .int v_foundMoves])), (a_fresh, .inl (cI, 180, .inl v_2)), (a_buffer, .inl (cI, 600, .inl v_buffer))]) E.1 hw 1 0 rfl rfl h_1 (by subst e_v_2; rfl) dX6_readsTrader_127 (fun H locs hw => ?_)
  refine lv_aload_n hx hb dX6_readsTrader_128 rfl (lv_at hl 0 rfl) ?_
  refine z_get E.1 hw in_wsX60 0 rfl rfl 1 (z_lt rfl) mw_804 (v := .ref a_fresh) rfl dX6_readsTrader_129 ?_
  refine lv_bipush (v := 74) hx hb dX6_readsTrader_132 (by decide) ?_
  refine lv_dup2_11 hx hb dX6_readsTrader_134 rfl rfl ?_
  obtain ⟨h_3, hf⟩ := oA_elim hf
  refine z_iald E.1 hw 1 0 rfl rfl h_3 dX6_readsTrader_135 ?_
  refine lv_iconst (v := 1) hx hb dX6_readsTrader_136 (by decide) ?_
  refine lv_iadd hx hb dX6_readsTrader_137 ?_
  obtain ⟨h_4, hf⟩ := oA_elim hf
  obtain ⟨v_5, e_v_5, hf⟩ := oL_elim hf
  refine z_iast (ws' := [(a_this, .inr (6, [.ref a_a, .ref a_fresh, .ref a_kept, .int v_keptMany, .int v_thrown, .ref a_buffer, .int v_buffered, .int v_size, .int v_at, .int v_behind, .int v_kind, .int v_wrong, .int v_wrongAt, .int v_errorAt, .long v_number, .ref a_best, .ref a_rentBy, .ref a_bareBy, .ref a_aheadBy, .ref a_isEdge, .ref a_tried, .ref a_stands, .ref a_found, .ref a_foundOn, .ref a_moving, .int v_movingMany, .int v_foundIncome, .int v_foundMoves])), (a_fresh, .inl (cI, 180, .inl v_5)), (a_buffer, .inl (cI, 600, .inl v_buffer))]) E.1 hw 1 0 rfl rfl h_4 (by subst e_v_5; rfl) dX6_readsTrader_138 (fun H locs hw => ?_)
  cases hf
  exact z_vret E rfl hw dX6_readsTrader_139
set_option maxHeartbeats 4000000 in
set_option maxRecDepth 100000 in
theorem w_X6_readsTrader_20 {n : Nat} (E : zE p s m args meth c cX6_readsTrader 5 none zwX6_readsTrader RX6) (hT : zTn s) (hLt : zLt adK s) (hG : zSg adK adV A s s.heap) : ∀ (x1 : Int32) (v_fresh : Nat → Int32) (v_buffer : Nat → Int32) (v_size : Int32) (v_at : Int32) (v_behind : Int32) (v_kind : Int32) (v_wrong : Int32) (v_wrongAt : Int32) (v_number : Int64), f_X6_readsTrader_20 n x1 v_fresh v_buffer v_size v_at v_behind v_kind v_wrong v_wrongAt v_number = some res → ∀ (H : Heap) (locs : List Loc) (ls : Array Slot), zW D (zT cI cZ cM) A s [(a_this, .inr (6, [.ref a_a, .ref a_fresh, .ref a_kept, .int v_keptMany, .int v_thrown, .ref a_buffer, .int v_buffered, .int v_size, .int v_at, .int v_behind, .int v_kind, .int v_wrong, .int v_wrongAt, .int v_errorAt, .long v_number, .ref a_best, .ref a_rentBy, .ref a_bareBy, .ref a_aheadBy, .ref a_isEdge, .ref a_tried, .ref a_stands, .ref a_found, .ref a_foundOn, .ref a_moving, .int v_movingMany, .int v_foundIncome, .int v_foundMoves])), (a_fresh, .inl (cI, 180, .inl v_fresh)), (a_buffer, .inl (cI, 600, .inl v_buffer))] H locs → lv_has ls 5 [(0, .ref a_this), (1, .int x1)] → W p l e rmX6_readsTrader s m args below meth c H locs 0 0 (MQ below (zQv D (zT cI cZ cM) [(a_this, .inr (6, [.ref a_a, .ref a_fresh, .ref a_kept, .int v_keptMany, .int v_thrown, .ref a_buffer, .int v_buffered, .int v_size, .int res.2.1, .int res.2.2.1, .int res.2.2.2.1, .int res.2.2.2.2.1, .int res.2.2.2.2.2.1, .int v_errorAt, .long res.2.2.2.2.2.2, .ref a_best, .ref a_rentBy, .ref a_bareBy, .ref a_aheadBy, .ref a_isEdge, .ref a_tried, .ref a_stands, .ref a_found, .ref a_foundOn, .ref a_moving, .int v_movingMany, .int v_foundIncome, .int v_foundMoves])), (a_fresh, .inl (cI, 180, .inl res.1)), (a_buffer, .inl (cI, 600, .inl v_buffer))] A) args s 0 0 A) (F0 m 20 ls []) := by
  obtain ⟨⟨hx, hb, hml, hown, hts⟩, hr, hlocks⟩ := id E
  intro x1 v_fresh v_buffer v_size v_at v_behind v_kind v_wrong v_wrongAt v_number hf H locs ls hw hl
  unfold f_X6_readsTrader_20 at hf
  refine lv_aload_n hx hb dX6_readsTrader_20 rfl (lv_at hl 0 rfl) ?_
  refine z_get E.1 hw in_wsX60 0 rfl rfl 11 (z_lt rfl) mw_730 (v := .int v_wrong) rfl dX6_readsTrader_21 ?_
  refine lv_if_eq (tgt := 28) hx hb dX6_readsTrader_24 (by decide) (fun hc => ?_) (fun hc => ?_)
  · have hf := oI_pos hc hf
    refine lv_aload_n hx hb dX6_readsTrader_28 rfl (lv_at hl 0 rfl) ?_
    obtain ⟨v_6, v_7, v_8, v_9, h_10, hf⟩ := oB4_elim hf
    refine z_callGVv (ws' := [(a_this, .inr (6, [.ref a_a, .ref a_fresh, .ref a_kept, .int v_keptMany, .int v_thrown, .ref a_buffer, .int v_buffered, .int v_size, .int v_6, .int v_7, .int v_8, .int v_wrong, .int v_wrongAt, .int v_errorAt, .long v_9, .ref a_best, .ref a_rentBy, .ref a_bareBy, .ref a_aheadBy, .ref a_isEdge, .ref a_tried, .ref a_stands, .ref a_found, .ref a_foundOn, .ref a_moving, .int v_movingMany, .int v_foundIncome, .int v_foundMoves])), (a_fresh, .inl (cI, 180, .inl v_fresh)), (a_buffer, .inl (cI, 600, .inl v_buffer))]) (wr := [(a_fresh, .inl (cI, 180, .inl v_fresh))]) (As := []) (rest := []) E.1 hl hT hLt hG hw (c_X6_next h_10) (cwV 0 hts (z_gV mw_732 mw_733 mw_734 mw_598 mw_735) rfl rfl rfl (by decide +kernel) ⟨(Nat.le_of_ble_eq_true rfl), (Nat.le_of_ble_eq_true rfl)⟩) 3 [(0, 1), (2, 1)] [(1, 1)] rfl rfl rfl rfl rfl rfl (by decide +kernel) rfl (q0 := 0) rfl rfl rfl (Nat.le_of_ble_eq_true rfl) dX6_readsTrader_29 ⟨Nat.le_of_ble_eq_true rfl, Nat.le_of_ble_eq_true rfl⟩ (fun H locs hw => ?_)
    refine lv_aload_n hx hb dX6_readsTrader_32 rfl (lv_at hl 0 rfl) ?_
    refine lv_iconst (v := 0) hx hb dX6_readsTrader_33 (by decide) ?_
    refine lv_bipush (v := 7) hx hb dX6_readsTrader_34 (by decide) ?_
    obtain ⟨r_11, v_12, v_13, v_14, v_15, v_16, v_17, h_18, hf⟩ := oB7_elim hf
    refine z_callGVi (ws' := [(a_this, .inr (6, [.ref a_a, .ref a_fresh, .ref a_kept, .int v_keptMany, .int v_thrown, .ref a_buffer, .int v_buffered, .int v_size, .int v_12, .int v_13, .int v_14, .int v_15, .int v_16, .int v_errorAt, .long v_17, .ref a_best, .ref a_rentBy, .ref a_bareBy, .ref a_aheadBy, .ref a_isEdge, .ref a_tried, .ref a_stands, .ref a_found, .ref a_foundOn, .ref a_moving, .int v_movingMany, .int v_foundIncome, .int v_foundMoves])), (a_fresh, .inl (cI, 180, .inl v_fresh)), (a_buffer, .inl (cI, 600, .inl v_buffer))]) (wr := [(a_fresh, .inl (cI, 180, .inl v_fresh))]) (As := [.int (0 : Int32), .int (7 : Int32)]) (rest := []) E.1 hl hT hLt hG hw (c_X6_takes h_18) (cwV 2 hts (z_gV mw_850 mw_851 mw_852 mw_598 mw_853) rfl rfl rfl (by decide +kernel) ⟨(Nat.le_of_ble_eq_true rfl), (Nat.le_of_ble_eq_true rfl)⟩) 3 [(0, 1), (2, 1)] [(1, 1)] rfl rfl rfl rfl rfl rfl (by decide +kernel) rfl (q0 := 0) rfl rfl rfl (Nat.le_of_ble_eq_true rfl) dX6_readsTrader_36 ⟨Nat.le_of_ble_eq_true rfl, Nat.le_of_ble_eq_true rfl⟩ (fun H locs hw => ?_)
    refine lv_istore_n (lv' := [(2, .int r_11), (0, .ref a_this), (1, .int x1)]) hx hb dX6_readsTrader_39 rfl hl (z_lt rfl) rfl (fun ls hl => ?_)
    refine lv_aload_n hx hb dX6_readsTrader_40 rfl (lv_at hl 1 rfl) ?_
    refine lv_iconst (v := 2) hx hb dX6_readsTrader_41 (by decide) ?_
    obtain ⟨v_19, v_20, v_21, v_22, v_23, v_24, h_25, hf⟩ := oB6_elim hf
    refine z_callGVv (ws' := [(a_this, .inr (6, [.ref a_a, .ref a_fresh, .ref a_kept, .int v_keptMany, .int v_thrown, .ref a_buffer, .int v_buffered, .int v_size, .int v_19, .int v_20, .int v_21, .int v_22, .int v_23, .int v_errorAt, .long v_24, .ref a_best, .ref a_rentBy, .ref a_bareBy, .ref a_aheadBy, .ref a_isEdge, .ref a_tried, .ref a_stands, .ref a_found, .ref a_foundOn, .ref a_moving, .int v_movingMany, .int v_foundIncome, .int v_foundMoves])), (a_fresh, .inl (cI, 180, .inl v_fresh)), (a_buffer, .inl (cI, 600, .inl v_buffer))]) (wr := [(a_fresh, .inl (cI, 180, .inl v_fresh))]) (As := [.int (2 : Int32)]) (rest := []) E.1 hl hT hLt hG hw (c_X6_needs h_25) (cwV 1 hts (z_gV mw_861 mw_862 mw_863 mw_598 mw_864) rfl rfl rfl (by decide +kernel) ⟨(Nat.le_of_ble_eq_true rfl), (Nat.le_of_ble_eq_true rfl)⟩) 3 [(0, 1), (2, 1)] [(1, 1)] rfl rfl rfl rfl rfl rfl (by decide +kernel) rfl (q0 := 0) rfl rfl rfl (Nat.le_of_ble_eq_true rfl) dX6_readsTrader_42 ⟨Nat.le_of_ble_eq_true rfl, Nat.le_of_ble_eq_true rfl⟩ (fun H locs hw => ?_)
    refine lv_aload_n hx hb dX6_readsTrader_45 rfl (lv_at hl 1 rfl) ?_
    refine lv_iconst (v := 1) hx hb dX6_readsTrader_46 (by decide) ?_
    refine lv_iconst (v := 3) hx hb dX6_readsTrader_47 (by decide) ?_
    obtain ⟨r_26, v_27, v_28, v_29, v_30, v_31, v_32, h_33, hf⟩ := oB7_elim hf
    refine z_callGVi (ws' := [(a_this, .inr (6, [.ref a_a, .ref a_fresh, .ref a_kept, .int v_keptMany, .int v_thrown, .ref a_buffer, .int v_buffered, .int v_size, .int v_27, .int v_28, .int v_29, .int v_30, .int v_31, .int v_errorAt, .long v_32, .ref a_best, .ref a_rentBy, .ref a_bareBy, .ref a_aheadBy, .ref a_isEdge, .ref a_tried, .ref a_stands, .ref a_found, .ref a_foundOn, .ref a_moving, .int v_movingMany, .int v_foundIncome, .int v_foundMoves])), (a_fresh, .inl (cI, 180, .inl v_fresh)), (a_buffer, .inl (cI, 600, .inl v_buffer))]) (wr := [(a_fresh, .inl (cI, 180, .inl v_fresh))]) (As := [.int (1 : Int32), .int (3 : Int32)]) (rest := []) E.1 hl hT hLt hG hw (c_X6_takes h_33) (cwV 2 hts (z_gV mw_850 mw_851 mw_852 mw_598 mw_853) rfl rfl rfl (by decide +kernel) ⟨(Nat.le_of_ble_eq_true rfl), (Nat.le_of_ble_eq_true rfl)⟩) 3 [(0, 1), (2, 1)] [(1, 1)] rfl rfl rfl rfl rfl rfl (by decide +kernel) rfl (q0 := 0) rfl rfl rfl (Nat.le_of_ble_eq_true rfl) dX6_readsTrader_48 ⟨Nat.le_of_ble_eq_true rfl, Nat.le_of_ble_eq_true rfl⟩ (fun H locs hw => ?_)
    refine lv_istore_n (lv' := [(3, .int r_26), (2, .int r_11), (0, .ref a_this), (1, .int x1)]) hx hb dX6_readsTrader_51 rfl hl (z_lt rfl) rfl (fun ls hl => ?_)
    refine lv_aload_n hx hb dX6_readsTrader_52 rfl (lv_at hl 2 rfl) ?_
    refine lv_iconst (v := 3) hx hb dX6_readsTrader_53 (by decide) ?_
    obtain ⟨v_34, v_35, v_36, v_37, v_38, v_39, h_40, hf⟩ := oB6_elim hf
    refine z_callGVv (ws' := [(a_this, .inr (6, [.ref a_a, .ref a_fresh, .ref a_kept, .int v_keptMany, .int v_thrown, .ref a_buffer, .int v_buffered, .int v_size, .int v_34, .int v_35, .int v_36, .int v_37, .int v_38, .int v_errorAt, .long v_39, .ref a_best, .ref a_rentBy, .ref a_bareBy, .ref a_aheadBy, .ref a_isEdge, .ref a_tried, .ref a_stands, .ref a_found, .ref a_foundOn, .ref a_moving, .int v_movingMany, .int v_foundIncome, .int v_foundMoves])), (a_fresh, .inl (cI, 180, .inl v_fresh)), (a_buffer, .inl (cI, 600, .inl v_buffer))]) (wr := [(a_fresh, .inl (cI, 180, .inl v_fresh))]) (As := [.int (3 : Int32)]) (rest := []) E.1 hl hT hLt hG hw (c_X6_needs h_40) (cwV 1 hts (z_gV mw_861 mw_862 mw_863 mw_598 mw_864) rfl rfl rfl (by decide +kernel) ⟨(Nat.le_of_ble_eq_true rfl), (Nat.le_of_ble_eq_true rfl)⟩) 3 [(0, 1), (2, 1)] [(1, 1)] rfl rfl rfl rfl rfl rfl (by decide +kernel) rfl (q0 := 0) rfl rfl rfl (Nat.le_of_ble_eq_true rfl) dX6_readsTrader_54 ⟨Nat.le_of_ble_eq_true rfl, Nat.le_of_ble_eq_true rfl⟩ (fun H locs hw => ?_)
    refine lv_aload_n hx hb dX6_readsTrader_57 rfl (lv_at hl 2 rfl) ?_
    refine lv_iconst (v := 1) hx hb dX6_readsTrader_58 (by decide) ?_
    refine lv_sipush (v := 9999) hx hb dX6_readsTrader_59 (by decide) ?_
    obtain ⟨r_41, v_42, v_43, v_44, v_45, v_46, v_47, h_48, hf⟩ := oB7_elim hf
    refine z_callGVi (ws' := [(a_this, .inr (6, [.ref a_a, .ref a_fresh, .ref a_kept, .int v_keptMany, .int v_thrown, .ref a_buffer, .int v_buffered, .int v_size, .int v_42, .int v_43, .int v_44, .int v_45, .int v_46, .int v_errorAt, .long v_47, .ref a_best, .ref a_rentBy, .ref a_bareBy, .ref a_aheadBy, .ref a_isEdge, .ref a_tried, .ref a_stands, .ref a_found, .ref a_foundOn, .ref a_moving, .int v_movingMany, .int v_foundIncome, .int v_foundMoves])), (a_fresh, .inl (cI, 180, .inl v_fresh)), (a_buffer, .inl (cI, 600, .inl v_buffer))]) (wr := [(a_fresh, .inl (cI, 180, .inl v_fresh))]) (As := [.int (1 : Int32), .int (9999 : Int32)]) (rest := []) E.1 hl hT hLt hG hw (c_X6_takes h_48) (cwV 2 hts (z_gV mw_850 mw_851 mw_852 mw_598 mw_853) rfl rfl rfl (by decide +kernel) ⟨(Nat.le_of_ble_eq_true rfl), (Nat.le_of_ble_eq_true rfl)⟩) 3 [(0, 1), (2, 1)] [(1, 1)] rfl rfl rfl rfl rfl rfl (by decide +kernel) rfl (q0 := 0) rfl rfl rfl (Nat.le_of_ble_eq_true rfl) dX6_readsTrader_62 ⟨Nat.le_of_ble_eq_true rfl, Nat.le_of_ble_eq_true rfl⟩ (fun H locs hw => ?_)
    refine lv_istore (lv' := [(4, .int r_41), (3, .int r_26), (2, .int r_11), (0, .ref a_this), (1, .int x1)]) hx hb dX6_readsTrader_65 hl (z_lt rfl) rfl (fun ls hl => ?_)
    refine lv_aload_n hx hb dX6_readsTrader_67 rfl (lv_at hl 3 rfl) ?_
    refine z_get E.1 hw in_wsX60 0 rfl rfl 11 (z_lt rfl) mw_730 (v := .int v_45) rfl dX6_readsTrader_68 ?_
    refine lv_if_eq (tgt := 75) hx hb dX6_readsTrader_71 (by decide) (fun hc => ?_) (fun hc => ?_)
    · have hf := oI_pos hc hf
      refine lv_aload_n hx hb dX6_readsTrader_75 rfl (lv_at hl 3 rfl) ?_
      refine z_get E.1 hw in_wsX60 0 rfl rfl 1 (z_lt rfl) mw_804 (v := .ref a_fresh) rfl dX6_readsTrader_76 ?_
      refine lv_bipush (v := 75) hx hb dX6_readsTrader_79 (by decide) ?_
      refine lv_iload_n hx hb dX6_readsTrader_81 rfl (lv_at hl 4 rfl) ?_
      refine lv_iadd hx hb dX6_readsTrader_82 ?_
      refine lv_iload_n hx hb dX6_readsTrader_83 rfl (lv_at hl 2 rfl) ?_
      obtain ⟨h_49, hf⟩ := oA_elim hf
      obtain ⟨v_50, e_v_50, hf⟩ := oL_elim hf
      refine z_iast (ws' := [(a_this, .inr (6, [.ref a_a, .ref a_fresh, .ref a_kept, .int v_keptMany, .int v_thrown, .ref a_buffer, .int v_buffered, .int v_size, .int v_42, .int v_43, .int v_44, .int v_45, .int v_46, .int v_errorAt, .long v_47, .ref a_best, .ref a_rentBy, .ref a_bareBy, .ref a_aheadBy, .ref a_isEdge, .ref a_tried, .ref a_stands, .ref a_found, .ref a_foundOn, .ref a_moving, .int v_movingMany, .int v_foundIncome, .int v_foundMoves])), (a_fresh, .inl (cI, 180, .inl v_50)), (a_buffer, .inl (cI, 600, .inl v_buffer))]) E.1 hw 1 0 rfl rfl h_49 (by subst e_v_50; rfl) dX6_readsTrader_84 (fun H locs hw => ?_)
      refine lv_aload_n hx hb dX6_readsTrader_85 rfl (lv_at hl 3 rfl) ?_
      refine z_get E.1 hw in_wsX60 0 rfl rfl 1 (z_lt rfl) mw_804 (v := .ref a_fresh) rfl dX6_readsTrader_86 ?_
      refine lv_bipush (v := 83) hx hb dX6_readsTrader_89 (by decide) ?_
      refine lv_iload_n hx hb dX6_readsTrader_91 rfl (lv_at hl 4 rfl) ?_
      refine lv_iadd hx hb dX6_readsTrader_92 ?_
      refine lv_iload_n hx hb dX6_readsTrader_93 rfl (lv_at hl 1 rfl) ?_
      obtain ⟨h_51, hf⟩ := oA_elim hf
      obtain ⟨v_52, e_v_52, hf⟩ := oL_elim hf
      refine z_iast (ws' := [(a_this, .inr (6, [.ref a_a, .ref a_fresh, .ref a_kept, .int v_keptMany, .int v_thrown, .ref a_buffer, .int v_buffered, .int v_size, .int v_42, .int v_43, .int v_44, .int v_45, .int v_46, .int v_errorAt, .long v_47, .ref a_best, .ref a_rentBy, .ref a_bareBy, .ref a_aheadBy, .ref a_isEdge, .ref a_tried, .ref a_stands, .ref a_found, .ref a_foundOn, .ref a_moving, .int v_movingMany, .int v_foundIncome, .int v_foundMoves])), (a_fresh, .inl (cI, 180, .inl v_52)), (a_buffer, .inl (cI, 600, .inl v_buffer))]) E.1 hw 1 0 rfl rfl h_51 (by subst e_v_52; rfl) dX6_readsTrader_94 (fun H locs hw => ?_)
      refine lv_aload_n hx hb dX6_readsTrader_95 rfl (lv_at hl 3 rfl) ?_
      refine z_get E.1 hw in_wsX60 0 rfl rfl 1 (z_lt rfl) mw_804 (v := .ref a_fresh) rfl dX6_readsTrader_96 ?_
      refine lv_bipush (v := 91) hx hb dX6_readsTrader_99 (by decide) ?_
      refine lv_iload_n hx hb dX6_readsTrader_101 rfl (lv_at hl 4 rfl) ?_
      refine lv_iadd hx hb dX6_readsTrader_102 ?_
      refine lv_iload hx hb dX6_readsTrader_103 (lv_at hl 0 rfl) ?_
      obtain ⟨h_53, hf⟩ := oA_elim hf
      obtain ⟨v_54, e_v_54, hf⟩ := oL_elim hf
      refine z_iast (ws' := [(a_this, .inr (6, [.ref a_a, .ref a_fresh, .ref a_kept, .int v_keptMany, .int v_thrown, .ref a_buffer, .int v_buffered, .int v_size, .int v_42, .int v_43, .int v_44, .int v_45, .int v_46, .int v_errorAt, .long v_47, .ref a_best, .ref a_rentBy, .ref a_bareBy, .ref a_aheadBy, .ref a_isEdge, .ref a_tried, .ref a_stands, .ref a_found, .ref a_foundOn, .ref a_moving, .int v_movingMany, .int v_foundIncome, .int v_foundMoves])), (a_fresh, .inl (cI, 180, .inl v_54)), (a_buffer, .inl (cI, 600, .inl v_buffer))]) E.1 hw 1 0 rfl rfl h_53 (by subst e_v_54; rfl) dX6_readsTrader_105 (fun H locs hw => ?_)
      refine lv_aload_n hx hb dX6_readsTrader_106 rfl (lv_at hl 3 rfl) ?_
      refine z_get E.1 hw in_wsX60 0 rfl rfl 1 (z_lt rfl) mw_804 (v := .ref a_fresh) rfl dX6_readsTrader_107 ?_
      refine lv_bipush (v := 99) hx hb dX6_readsTrader_110 (by decide) ?_
      refine lv_iload_n hx hb dX6_readsTrader_112 rfl (lv_at hl 4 rfl) ?_
      refine lv_iadd hx hb dX6_readsTrader_113 ?_
      refine lv_aload_n hx hb dX6_readsTrader_114 rfl (lv_at hl 3 rfl) ?_
      refine lv_iconst (v := 4) hx hb dX6_readsTrader_115 (by decide) ?_
      obtain ⟨r_55, v_56, v_57, v_58, v_59, h_60, hf⟩ := oB5_elim hf
      refine z_callGVi (ws' := [(a_this, .inr (6, [.ref a_a, .ref a_fresh, .ref a_kept, .int v_keptMany, .int v_thrown, .ref a_buffer, .int v_buffered, .int v_size, .int v_56, .int v_57, .int v_58, .int v_45, .int v_46, .int v_errorAt, .long v_59, .ref a_best, .ref a_rentBy, .ref a_bareBy, .ref a_aheadBy, .ref a_isEdge, .ref a_tried, .ref a_stands, .ref a_found, .ref a_foundOn, .ref a_moving, .int v_movingMany, .int v_foundIncome, .int v_foundMoves])), (a_fresh, .inl (cI, 180, .inl v_54)), (a_buffer, .inl (cI, 600, .inl v_buffer))]) (wr := [(a_fresh, .inl (cI, 180, .inl v_54))]) (As := [.int (4 : Int32)]) (rest := [.int ((99 : Int32) + x1), .ref a_fresh]) E.1 hl hT hLt hG hw (c_X6_eats h_60) (cwV 1 hts (z_gV mw_854 mw_855 mw_856 mw_598 mw_725) rfl rfl rfl (by decide +kernel) ⟨(Nat.le_of_ble_eq_true rfl), (Nat.le_of_ble_eq_true rfl)⟩) 3 [(0, 1), (2, 1)] [(1, 1)] rfl rfl rfl rfl rfl rfl (by decide +kernel) rfl (q0 := 0) rfl rfl rfl (Nat.le_of_ble_eq_true rfl) dX6_readsTrader_116 ⟨Nat.le_of_ble_eq_true rfl, Nat.le_of_ble_eq_true rfl⟩ (fun H locs hw => ?_)
      refine lv_if_eq (tgt := 126) hx hb dX6_readsTrader_119 (by decide) (fun hc => ?_) (fun hc => ?_)
      · have hf := oI_pos hc hf
        refine lv_iconst (v := 0) hx hb dX6_readsTrader_126 (by decide) ?_
        exact w_X6_readsTrader_127 E hT hLt hG  _ _ _ _ _ _ _ _ _ hf _ _ _ hw (lv_sub hl [3] rfl)
      · have hf := oI_neg hc hf
        refine lv_iconst (v := 1) hx hb dX6_readsTrader_122 (by decide) ?_
        refine lv_goto (tgt := 127) hx hb dX6_readsTrader_123 (by decide) ?_
        exact w_X6_readsTrader_127 E hT hLt hG  _ _ _ _ _ _ _ _ _ hf _ _ _ hw (lv_sub hl [3] rfl)
    · have hf := oI_neg hc hf
      cases hf
      exact z_vret E rfl hw dX6_readsTrader_74
  · have hf := oI_neg hc hf
    cases hf
    exact z_vret E rfl hw dX6_readsTrader_27
set_option maxHeartbeats 4000000 in
set_option maxRecDepth 100000 in
theorem c_X6_readsTrader {l : Launch} {D : va_G} {cI cZ cM : ClassId} {adK adV : Nat → Nat} {a_this a_a a_fresh a_kept a_buffer a_best a_rentBy a_bareBy a_aheadBy a_isEdge a_tried a_stands a_found a_foundOn a_moving : Nat} {v_keptMany : Int32} {v_thrown : Int32} {v_buffered : Int32} {v_errorAt : Int32} {v_movingMany : Int32} {v_foundIncome : Int32} {v_foundMoves : Int32} {res : (Nat → Int32) × Int32 × Int32 × Int32 × Int32 × Int32 × Int64} {sz : Nat} {n : Nat} {v_fresh : Nat → Int32} {v_buffer : Nat → Int32} {v_size : Int32} {v_at : Int32} {v_behind : Int32} {v_kind : Int32} {v_wrong : Int32} {v_wrongAt : Int32} {v_number : Int64} (hf : f_X6_readsTrader n v_fresh v_buffer v_size v_at v_behind v_kind v_wrong v_wrongAt v_number = some res) : Met l yX6_readsTrader zwX6_readsTrader rmX6_readsTrader (zPcG D (zT cI cZ cM) [.ref a_this] [(a_this, .inr (6, [.ref a_a, .ref a_fresh, .ref a_kept, .int v_keptMany, .int v_thrown, .ref a_buffer, .int v_buffered, .int v_size, .int v_at, .int v_behind, .int v_kind, .int v_wrong, .int v_wrongAt, .int v_errorAt, .long v_number, .ref a_best, .ref a_rentBy, .ref a_bareBy, .ref a_aheadBy, .ref a_isEdge, .ref a_tried, .ref a_stands, .ref a_found, .ref a_foundOn, .ref a_moving, .int v_movingMany, .int v_foundIncome, .int v_foundMoves])), (a_fresh, .inl (cI, 180, .inl v_fresh)), (a_buffer, .inl (cI, 600, .inl v_buffer))] sz adK adV) (zQv D (zT cI cZ cM) [(a_this, .inr (6, [.ref a_a, .ref a_fresh, .ref a_kept, .int v_keptMany, .int v_thrown, .ref a_buffer, .int v_buffered, .int v_size, .int res.2.1, .int res.2.2.1, .int res.2.2.2.1, .int res.2.2.2.2.1, .int res.2.2.2.2.2.1, .int v_errorAt, .long res.2.2.2.2.2.2, .ref a_best, .ref a_rentBy, .ref a_bareBy, .ref a_aheadBy, .ref a_isEdge, .ref a_tried, .ref a_stands, .ref a_found, .ref a_foundOn, .ref a_moving, .int v_movingMany, .int v_foundIncome, .int v_foundMoves])), (a_fresh, .inl (cI, 180, .inl res.1)), (a_buffer, .inl (cI, 600, .inl v_buffer))] (va_A [(a_this, .inr (6, [.ref a_a, .ref a_fresh, .ref a_kept, .int v_keptMany, .int v_thrown, .ref a_buffer, .int v_buffered, .int v_size, .int v_at, .int v_behind, .int v_kind, .int v_wrong, .int v_wrongAt, .int v_errorAt, .long v_number, .ref a_best, .ref a_rentBy, .ref a_bareBy, .ref a_aheadBy, .ref a_isEdge, .ref a_tried, .ref a_stands, .ref a_found, .ref a_foundOn, .ref a_moving, .int v_movingMany, .int v_foundIncome, .int v_foundMoves])), (a_fresh, .inl (cI, 180, .inl v_fresh)), (a_buffer, .inl (cI, 600, .inl v_buffer))] sz)) 0 0 (va_A [(a_this, .inr (6, [.ref a_a, .ref a_fresh, .ref a_kept, .int v_keptMany, .int v_thrown, .ref a_buffer, .int v_buffered, .int v_size, .int v_at, .int v_behind, .int v_kind, .int v_wrong, .int v_wrongAt, .int v_errorAt, .long v_number, .ref a_best, .ref a_rentBy, .ref a_bareBy, .ref a_aheadBy, .ref a_isEdge, .ref a_tried, .ref a_stands, .ref a_found, .ref a_foundOn, .ref a_moving, .int v_movingMany, .int v_foundIncome, .int v_foundMoves])), (a_fresh, .inl (cI, 180, .inl v_fresh)), (a_buffer, .inl (cI, 600, .inl v_buffer))] sz) := by
  refine z_metG (cc := cX6_readsTrader) (maxL := 5) (ret := none) (by decide) rfl (Nat.le_of_ble_eq_true rfl) ?_
  intro p e s m below meth c ls E hT hLt hG hsz hw hl
  obtain ⟨⟨hx, hb, hml, hown, hts⟩, hr, hlocks⟩ := id E
  have hl : lv_has ls 5 [(0, .ref a_this)] := hl
  unfold f_X6_readsTrader at hf
  refine lv_aload_n hx hb dX6_readsTrader_0 rfl (lv_at hl 0 rfl) ?_
  refine z_get E.1 hw in_wsX60 0 rfl rfl 1 (z_lt rfl) mw_804 (v := .ref a_fresh) rfl dX6_readsTrader_1 ?_
  refine lv_bipush (v := 74) hx hb dX6_readsTrader_4 (by decide) ?_
  obtain ⟨h_61, hf⟩ := oA_elim hf
  refine z_iald E.1 hw 1 0 rfl rfl h_61 dX6_readsTrader_6 ?_
  obtain ⟨y_62, e_y_62, hf⟩ := oL_elim hf
  refine z_top e_y_62 ?_
  refine lv_istore_n (lv' := [(1, .int y_62), (0, .ref a_this)]) hx hb dX6_readsTrader_7 rfl hl (z_lt rfl) rfl (fun ls hl => ?_)
  refine lv_iload_n hx hb dX6_readsTrader_8 rfl (lv_at hl 0 rfl) ?_
  refine lv_bipush (v := 8) hx hb dX6_readsTrader_9 (by decide) ?_
  refine lv_icmp_ne (tgt := 20) hx hb dX6_readsTrader_11 (by decide) (fun hc => ?_) (fun hc => ?_)
  · have hf := oI_neg hc hf
    exact w_X6_readsTrader_20 E hT hLt hG  _ _ _ _ _ _ _ _ _ _ hf _ _ _ hw (lv_sub hl [1, 0] rfl)
  · have hf := oI_pos hc hf
    refine lv_aload_n hx hb dX6_readsTrader_14 rfl (lv_at hl 1 rfl) ?_
    refine lv_bipush (v := -4) hx hb dX6_readsTrader_15 (by decide) ?_
    obtain ⟨v_63, v_64, h_65, hf⟩ := oB2_elim hf
    refine z_callVv (ws' := [(a_this, .inr (6, [.ref a_a, .ref a_fresh, .ref a_kept, .int v_keptMany, .int v_thrown, .ref a_buffer, .int v_buffered, .int v_size, .int v_at, .int v_behind, .int v_kind, .int v_63, .int v_64, .int v_errorAt, .long v_number, .ref a_best, .ref a_rentBy, .ref a_bareBy, .ref a_aheadBy, .ref a_isEdge, .ref a_tried, .ref a_stands, .ref a_found, .ref a_foundOn, .ref a_moving, .int v_movingMany, .int v_foundIncome, .int v_foundMoves])), (a_fresh, .inl (cI, 180, .inl v_fresh)), (a_buffer, .inl (cI, 600, .inl v_buffer))]) (wr := [(a_fresh, .inl (cI, 180, .inl v_fresh)), (a_buffer, .inl (cI, 600, .inl v_buffer))]) (As := [.int (-4 : Int32)]) (rest := []) E.1 hl hw (c_X6_fails h_65) (cwV 1 hts (z_gV mw_847 mw_848 mw_849 mw_598 mw_770) rfl rfl rfl (by decide +kernel) ⟨(Nat.le_of_ble_eq_true rfl), (Nat.le_of_ble_eq_true rfl)⟩) 3 [(0, 1)] [(1, 2)] rfl rfl rfl rfl rfl rfl (by decide +kernel) rfl (q0 := 0) rfl rfl rfl (Nat.le_of_ble_eq_true rfl) dX6_readsTrader_17 ⟨Nat.le_of_ble_eq_true rfl, Nat.le_of_ble_eq_true rfl⟩ (fun H locs hw => ?_)
    exact w_X6_readsTrader_20 E hT hLt hG  _ _ _ _ _ _ _ _ _ _ hf _ _ _ hw (lv_sub hl [1, 0] rfl)
end
/-! X6_readsRow -/
section
variable {p : Program} {l : Launch} {e : Env} {s : State} {m : MethodId} {args : Array Value} {below : List Frame} {meth : Method} {c : Code} {D : va_G} {A : Nat → Prop} {cI cZ cM : ClassId} {a_this a_a a_fresh a_kept a_buffer a_best a_rentBy a_bareBy a_aheadBy a_isEdge a_tried a_stands a_found a_foundOn a_moving : Nat} {v_keptMany : Int32} {v_thrown : Int32} {v_buffered : Int32} {v_errorAt : Int32} {v_movingMany : Int32} {v_foundIncome : Int32} {v_foundMoves : Int32} {res : (Nat → Int32) × Int32 × Int32 × Int32 × Int32 × Int32 × Int64} {adK adV : Nat → Nat}
def rmX6_readsRow : Room := { frames := 7, cells := 0, slots := 0, locals := 177 }
abbrev zwX6_readsRow : List Cond := Cond.code yX6_readsRow cX6_readsRow 5 none :: wsAll
set_option maxHeartbeats 4000000 in
set_option maxRecDepth 100000 in
theorem w_X6_readsRow_177 {n : Nat} {v_buffer : Nat → Int32} {v_size : Int32} (E : zE p s m args meth c cX6_readsRow 5 none zwX6_readsRow RX6) (hT : zTn s) (hLt : zLt adK s) (hG : zSg adK adV A s s.heap) : ∀ (v_fresh : Nat → Int32) (v_at : Int32) (v_behind : Int32) (v_kind : Int32) (v_wrong : Int32) (v_wrongAt : Int32) (v_number : Int64), f_X6_readsRow_177 n v_fresh v_at v_behind v_kind v_wrong v_wrongAt v_number = some res → ∀ (H : Heap) (locs : List Loc) (ls : Array Slot), zW D (zT cI cZ cM) A s [(a_this, .inr (6, [.ref a_a, .ref a_fresh, .ref a_kept, .int v_keptMany, .int v_thrown, .ref a_buffer, .int v_buffered, .int v_size, .int v_at, .int v_behind, .int v_kind, .int v_wrong, .int v_wrongAt, .int v_errorAt, .long v_number, .ref a_best, .ref a_rentBy, .ref a_bareBy, .ref a_aheadBy, .ref a_isEdge, .ref a_tried, .ref a_stands, .ref a_found, .ref a_foundOn, .ref a_moving, .int v_movingMany, .int v_foundIncome, .int v_foundMoves])), (a_fresh, .inl (cI, 180, .inl v_fresh)), (a_buffer, .inl (cI, 600, .inl v_buffer))] H locs → lv_has ls 5 [(0, .ref a_this)] → W p l e rmX6_readsRow s m args below meth c H locs 0 0 (MQ below (zQv D (zT cI cZ cM) [(a_this, .inr (6, [.ref a_a, .ref a_fresh, .ref a_kept, .int v_keptMany, .int v_thrown, .ref a_buffer, .int v_buffered, .int v_size, .int res.2.1, .int res.2.2.1, .int res.2.2.2.1, .int res.2.2.2.2.1, .int res.2.2.2.2.2.1, .int v_errorAt, .long res.2.2.2.2.2.2, .ref a_best, .ref a_rentBy, .ref a_bareBy, .ref a_aheadBy, .ref a_isEdge, .ref a_tried, .ref a_stands, .ref a_found, .ref a_foundOn, .ref a_moving, .int v_movingMany, .int v_foundIncome, .int v_foundMoves])), (a_fresh, .inl (cI, 180, .inl res.1)), (a_buffer, .inl (cI, 600, .inl v_buffer))] A) args s 0 0 A) (F0 m 177 ls []) := by
  obtain ⟨⟨hx, hb, hml, hown, hts⟩, hr, hlocks⟩ := id E
  intro v_fresh v_at v_behind v_kind v_wrong v_wrongAt v_number hf H locs ls hw hl
  unfold f_X6_readsRow_177 at hf
  refine lv_aload_n hx hb dX6_readsRow_177 rfl (lv_at hl 0 rfl) ?_
  refine z_get E.1 hw in_wsX60 0 rfl rfl 1 (z_lt rfl) mw_804 (v := .ref a_fresh) rfl dX6_readsRow_178 ?_
  refine lv_iconst (v := 0) hx hb dX6_readsRow_181 (by decide) ?_
  refine lv_dup2_11 hx hb dX6_readsRow_182 rfl rfl ?_
  obtain ⟨h_1, hf⟩ := oA_elim hf
  refine z_iald E.1 hw 1 0 rfl rfl h_1 dX6_readsRow_183 ?_
  refine lv_iconst (v := 1) hx hb dX6_readsRow_184 (by decide) ?_
  refine lv_iadd hx hb dX6_readsRow_185 ?_
  obtain ⟨h_2, hf⟩ := oA_elim hf
  obtain ⟨v_3, e_v_3, hf⟩ := oL_elim hf
  refine z_iast (ws' := [(a_this, .inr (6, [.ref a_a, .ref a_fresh, .ref a_kept, .int v_keptMany, .int v_thrown, .ref a_buffer, .int v_buffered, .int v_size, .int v_at, .int v_behind, .int v_kind, .int v_wrong, .int v_wrongAt, .int v_errorAt, .long v_number, .ref a_best, .ref a_rentBy, .ref a_bareBy, .ref a_aheadBy, .ref a_isEdge, .ref a_tried, .ref a_stands, .ref a_found, .ref a_foundOn, .ref a_moving, .int v_movingMany, .int v_foundIncome, .int v_foundMoves])), (a_fresh, .inl (cI, 180, .inl v_3)), (a_buffer, .inl (cI, 600, .inl v_buffer))]) E.1 hw 1 0 rfl rfl h_2 (by subst e_v_3; rfl) dX6_readsRow_186 (fun H locs hw => ?_)
  cases hf
  exact z_vret E rfl hw dX6_readsRow_187
set_option maxHeartbeats 4000000 in
set_option maxRecDepth 100000 in
theorem w_X6_readsRow_150 {n : Nat} (E : zE p s m args meth c cX6_readsRow 5 none zwX6_readsRow RX6) (hT : zTn s) (hLt : zLt adK s) (hG : zSg adK adV A s s.heap) {k32 : Int32 → Int32 → (Nat → Int32) → (Nat → Int32) → Int32 → Int32 → Int32 → Int32 → Int32 → Int32 → Int64 → Option ((Nat → Int32) × Int32 × Int32 × Int32 × Int32 × Int32 × Int64)} (hk32 : ∀ (x1 : Int32) (x2 : Int32) (v_fresh : Nat → Int32) (v_buffer : Nat → Int32) (v_size : Int32) (v_at : Int32) (v_behind : Int32) (v_kind : Int32) (v_wrong : Int32) (v_wrongAt : Int32) (v_number : Int64), k32 x1 x2 v_fresh v_buffer v_size v_at v_behind v_kind v_wrong v_wrongAt v_number = some res → ∀ (H : Heap) (locs : List Loc) (ls : Array Slot), zW D (zT cI cZ cM) A s [(a_this, .inr (6, [.ref a_a, .ref a_fresh, .ref a_kept, .int v_keptMany, .int v_thrown, .ref a_buffer, .int v_buffered, .int v_size, .int v_at, .int v_behind, .int v_kind, .int v_wrong, .int v_wrongAt, .int v_errorAt, .long v_number, .ref a_best, .ref a_rentBy, .ref a_bareBy, .ref a_aheadBy, .ref a_isEdge, .ref a_tried, .ref a_stands, .ref a_found, .ref a_foundOn, .ref a_moving, .int v_movingMany, .int v_foundIncome, .int v_foundMoves])), (a_fresh, .inl (cI, 180, .inl v_fresh)), (a_buffer, .inl (cI, 600, .inl v_buffer))] H locs → lv_has ls 5 [(0, .ref a_this), (1, .int x1), (2, .int x2)] → W p l e rmX6_readsRow s m args below meth c H locs 0 0 (MQ below (zQv D (zT cI cZ cM) [(a_this, .inr (6, [.ref a_a, .ref a_fresh, .ref a_kept, .int v_keptMany, .int v_thrown, .ref a_buffer, .int v_buffered, .int v_size, .int res.2.1, .int res.2.2.1, .int res.2.2.2.1, .int res.2.2.2.2.1, .int res.2.2.2.2.2.1, .int v_errorAt, .long res.2.2.2.2.2.2, .ref a_best, .ref a_rentBy, .ref a_bareBy, .ref a_aheadBy, .ref a_isEdge, .ref a_tried, .ref a_stands, .ref a_found, .ref a_foundOn, .ref a_moving, .int v_movingMany, .int v_foundIncome, .int v_foundMoves])), (a_fresh, .inl (cI, 180, .inl res.1)), (a_buffer, .inl (cI, 600, .inl v_buffer))] A) args s 0 0 A) (F0 m 32 ls [])) : ∀ (t1 : Int32) (t2 : Int32) (x1 : Int32) (x2 : Int32) (x3 : Int32) (v_fresh : Nat → Int32) (v_buffer : Nat → Int32) (v_size : Int32) (v_at : Int32) (v_behind : Int32) (v_kind : Int32) (v_wrong : Int32) (v_wrongAt : Int32) (v_number : Int64), f_X6_readsRow_150 n k32 t1 t2 x1 x2 x3 v_fresh v_buffer v_size v_at v_behind v_kind v_wrong v_wrongAt v_number = some res → ∀ (H : Heap) (locs : List Loc) (ls : Array Slot), zW D (zT cI cZ cM) A s [(a_this, .inr (6, [.ref a_a, .ref a_fresh, .ref a_kept, .int v_keptMany, .int v_thrown, .ref a_buffer, .int v_buffered, .int v_size, .int v_at, .int v_behind, .int v_kind, .int v_wrong, .int v_wrongAt, .int v_errorAt, .long v_number, .ref a_best, .ref a_rentBy, .ref a_bareBy, .ref a_aheadBy, .ref a_isEdge, .ref a_tried, .ref a_stands, .ref a_found, .ref a_foundOn, .ref a_moving, .int v_movingMany, .int v_foundIncome, .int v_foundMoves])), (a_fresh, .inl (cI, 180, .inl v_fresh)), (a_buffer, .inl (cI, 600, .inl v_buffer))] H locs → lv_has ls 5 [(0, .ref a_this), (1, .int x1), (2, .int x2), (3, .int x3)] → W p l e rmX6_readsRow s m args below meth c H locs 0 0 (MQ below (zQv D (zT cI cZ cM) [(a_this, .inr (6, [.ref a_a, .ref a_fresh, .ref a_kept, .int v_keptMany, .int v_thrown, .ref a_buffer, .int v_buffered, .int v_size, .int res.2.1, .int res.2.2.1, .int res.2.2.2.1, .int res.2.2.2.2.1, .int res.2.2.2.2.2.1, .int v_errorAt, .long res.2.2.2.2.2.2, .ref a_best, .ref a_rentBy, .ref a_bareBy, .ref a_aheadBy, .ref a_isEdge, .ref a_tried, .ref a_stands, .ref a_found, .ref a_foundOn, .ref a_moving, .int v_movingMany, .int v_foundIncome, .int v_foundMoves])), (a_fresh, .inl (cI, 180, .inl res.1)), (a_buffer, .inl (cI, 600, .inl v_buffer))] A) args s 0 0 A) (F0 m 150 ls [.int t2, .int t1, .ref a_fresh]) := by
  obtain ⟨⟨hx, hb, hml, hown, hts⟩, hr, hlocks⟩ := id E
  intro t1 t2 x1 x2 x3 v_fresh v_buffer v_size v_at v_behind v_kind v_wrong v_wrongAt v_number hf H locs ls hw hl
  unfold f_X6_readsRow_150 at hf
  obtain ⟨h_4, hf⟩ := oA_elim hf
  obtain ⟨v_5, e_v_5, hf⟩ := oL_elim hf
  refine z_iast (ws' := [(a_this, .inr (6, [.ref a_a, .ref a_fresh, .ref a_kept, .int v_keptMany, .int v_thrown, .ref a_buffer, .int v_buffered, .int v_size, .int v_at, .int v_behind, .int v_kind, .int v_wrong, .int v_wrongAt, .int v_errorAt, .long v_number, .ref a_best, .ref a_rentBy, .ref a_bareBy, .ref a_aheadBy, .ref a_isEdge, .ref a_tried, .ref a_stands, .ref a_found, .ref a_foundOn, .ref a_moving, .int v_movingMany, .int v_foundIncome, .int v_foundMoves])), (a_fresh, .inl (cI, 180, .inl v_5)), (a_buffer, .inl (cI, 600, .inl v_buffer))]) E.1 hw 1 0 rfl rfl h_4 (by subst e_v_5; rfl) dX6_readsRow_150 (fun H locs hw => ?_)
  refine lv_aload_n hx hb dX6_readsRow_151 rfl (lv_at hl 0 rfl) ?_
  refine z_get E.1 hw in_wsX60 0 rfl rfl 1 (z_lt rfl) mw_804 (v := .ref a_fresh) rfl dX6_readsRow_152 ?_
  refine lv_bipush (v := 50) hx hb dX6_readsRow_155 (by decide) ?_
  refine lv_iload_n hx hb dX6_readsRow_157 rfl (lv_at hl 3 rfl) ?_
  refine lv_iadd hx hb dX6_readsRow_158 ?_
  refine lv_iload_n hx hb dX6_readsRow_159 rfl (lv_at hl 1 rfl) ?_
  obtain ⟨h_6, hf⟩ := oA_elim hf
  obtain ⟨v_7, e_v_7, hf⟩ := oL_elim hf
  refine z_iast (ws' := [(a_this, .inr (6, [.ref a_a, .ref a_fresh, .ref a_kept, .int v_keptMany, .int v_thrown, .ref a_buffer, .int v_buffered, .int v_size, .int v_at, .int v_behind, .int v_kind, .int v_wrong, .int v_wrongAt, .int v_errorAt, .long v_number, .ref a_best, .ref a_rentBy, .ref a_bareBy, .ref a_aheadBy, .ref a_isEdge, .ref a_tried, .ref a_stands, .ref a_found, .ref a_foundOn, .ref a_moving, .int v_movingMany, .int v_foundIncome, .int v_foundMoves])), (a_fresh, .inl (cI, 180, .inl v_7)), (a_buffer, .inl (cI, 600, .inl v_buffer))]) E.1 hw 1 0 rfl rfl h_6 (by subst e_v_7; rfl) dX6_readsRow_160 (fun H locs hw => ?_)
  refine lv_aload_n hx hb dX6_readsRow_161 rfl (lv_at hl 0 rfl) ?_
  refine z_get E.1 hw in_wsX60 0 rfl rfl 1 (z_lt rfl) mw_804 (v := .ref a_fresh) rfl dX6_readsRow_162 ?_
  refine lv_iconst (v := 1) hx hb dX6_readsRow_165 (by decide) ?_
  refine lv_dup2_11 hx hb dX6_readsRow_166 rfl rfl ?_
  obtain ⟨h_8, hf⟩ := oA_elim hf
  refine z_iald E.1 hw 1 0 rfl rfl h_8 dX6_readsRow_167 ?_
  refine lv_iconst (v := 1) hx hb dX6_readsRow_168 (by decide) ?_
  refine lv_iadd hx hb dX6_readsRow_169 ?_
  obtain ⟨h_9, hf⟩ := oA_elim hf
  obtain ⟨v_10, e_v_10, hf⟩ := oL_elim hf
  refine z_iast (ws' := [(a_this, .inr (6, [.ref a_a, .ref a_fresh, .ref a_kept, .int v_keptMany, .int v_thrown, .ref a_buffer, .int v_buffered, .int v_size, .int v_at, .int v_behind, .int v_kind, .int v_wrong, .int v_wrongAt, .int v_errorAt, .long v_number, .ref a_best, .ref a_rentBy, .ref a_bareBy, .ref a_aheadBy, .ref a_isEdge, .ref a_tried, .ref a_stands, .ref a_found, .ref a_foundOn, .ref a_moving, .int v_movingMany, .int v_foundIncome, .int v_foundMoves])), (a_fresh, .inl (cI, 180, .inl v_10)), (a_buffer, .inl (cI, 600, .inl v_buffer))]) E.1 hw 1 0 rfl rfl h_9 (by subst e_v_10; rfl) dX6_readsRow_170 (fun H locs hw => ?_)
  refine lv_iinc (v := (x2 + (1 : Int32))) (lv' := [(2, .int (x2 + (1 : Int32))), (0, .ref a_this), (1, .int x1), (3, .int x3)]) hx hb dX6_readsRow_171 hl (k := 2) rfl rfl (z_lt rfl) rfl (fun ls hl => ?_)
  refine lv_goto (tgt := 32) hx hb dX6_readsRow_174 (by decide) ?_
  exact hk32 _ _ _ _ _ _ _ _ _ _ _ hf _ _ _ hw (lv_sub hl [1, 2, 0] rfl)
set_option maxHeartbeats 4000000 in
set_option maxRecDepth 100000 in
theorem w_X6_readsRow_100 {n : Nat} (E : zE p s m args meth c cX6_readsRow 5 none zwX6_readsRow RX6) (hT : zTn s) (hLt : zLt adK s) (hG : zSg adK adV A s s.heap) {k32 : Int32 → Int32 → (Nat → Int32) → (Nat → Int32) → Int32 → Int32 → Int32 → Int32 → Int32 → Int32 → Int64 → Option ((Nat → Int32) × Int32 × Int32 × Int32 × Int32 × Int32 × Int64)} (hk32 : ∀ (x1 : Int32) (x2 : Int32) (v_fresh : Nat → Int32) (v_buffer : Nat → Int32) (v_size : Int32) (v_at : Int32) (v_behind : Int32) (v_kind : Int32) (v_wrong : Int32) (v_wrongAt : Int32) (v_number : Int64), k32 x1 x2 v_fresh v_buffer v_size v_at v_behind v_kind v_wrong v_wrongAt v_number = some res → ∀ (H : Heap) (locs : List Loc) (ls : Array Slot), zW D (zT cI cZ cM) A s [(a_this, .inr (6, [.ref a_a, .ref a_fresh, .ref a_kept, .int v_keptMany, .int v_thrown, .ref a_buffer, .int v_buffered, .int v_size, .int v_at, .int v_behind, .int v_kind, .int v_wrong, .int v_wrongAt, .int v_errorAt, .long v_number, .ref a_best, .ref a_rentBy, .ref a_bareBy, .ref a_aheadBy, .ref a_isEdge, .ref a_tried, .ref a_stands, .ref a_found, .ref a_foundOn, .ref a_moving, .int v_movingMany, .int v_foundIncome, .int v_foundMoves])), (a_fresh, .inl (cI, 180, .inl v_fresh)), (a_buffer, .inl (cI, 600, .inl v_buffer))] H locs → lv_has ls 5 [(0, .ref a_this), (1, .int x1), (2, .int x2)] → W p l e rmX6_readsRow s m args below meth c H locs 0 0 (MQ below (zQv D (zT cI cZ cM) [(a_this, .inr (6, [.ref a_a, .ref a_fresh, .ref a_kept, .int v_keptMany, .int v_thrown, .ref a_buffer, .int v_buffered, .int v_size, .int res.2.1, .int res.2.2.1, .int res.2.2.2.1, .int res.2.2.2.2.1, .int res.2.2.2.2.2.1, .int v_errorAt, .long res.2.2.2.2.2.2, .ref a_best, .ref a_rentBy, .ref a_bareBy, .ref a_aheadBy, .ref a_isEdge, .ref a_tried, .ref a_stands, .ref a_found, .ref a_foundOn, .ref a_moving, .int v_movingMany, .int v_foundIncome, .int v_foundMoves])), (a_fresh, .inl (cI, 180, .inl res.1)), (a_buffer, .inl (cI, 600, .inl v_buffer))] A) args s 0 0 A) (F0 m 32 ls [])) : ∀ (x1 : Int32) (x2 : Int32) (x3 : Int32) (v_fresh : Nat → Int32) (v_buffer : Nat → Int32) (v_size : Int32) (v_at : Int32) (v_behind : Int32) (v_kind : Int32) (v_wrong : Int32) (v_wrongAt : Int32) (v_number : Int64), f_X6_readsRow_100 n k32 x1 x2 x3 v_fresh v_buffer v_size v_at v_behind v_kind v_wrong v_wrongAt v_number = some res → ∀ (H : Heap) (locs : List Loc) (ls : Array Slot), zW D (zT cI cZ cM) A s [(a_this, .inr (6, [.ref a_a, .ref a_fresh, .ref a_kept, .int v_keptMany, .int v_thrown, .ref a_buffer, .int v_buffered, .int v_size, .int v_at, .int v_behind, .int v_kind, .int v_wrong, .int v_wrongAt, .int v_errorAt, .long v_number, .ref a_best, .ref a_rentBy, .ref a_bareBy, .ref a_aheadBy, .ref a_isEdge, .ref a_tried, .ref a_stands, .ref a_found, .ref a_foundOn, .ref a_moving, .int v_movingMany, .int v_foundIncome, .int v_foundMoves])), (a_fresh, .inl (cI, 180, .inl v_fresh)), (a_buffer, .inl (cI, 600, .inl v_buffer))] H locs → lv_has ls 5 [(0, .ref a_this), (1, .int x1), (2, .int x2), (3, .int x3)] → W p l e rmX6_readsRow s m args below meth c H locs 0 0 (MQ below (zQv D (zT cI cZ cM) [(a_this, .inr (6, [.ref a_a, .ref a_fresh, .ref a_kept, .int v_keptMany, .int v_thrown, .ref a_buffer, .int v_buffered, .int v_size, .int res.2.1, .int res.2.2.1, .int res.2.2.2.1, .int res.2.2.2.2.1, .int res.2.2.2.2.2.1, .int v_errorAt, .long res.2.2.2.2.2.2, .ref a_best, .ref a_rentBy, .ref a_bareBy, .ref a_aheadBy, .ref a_isEdge, .ref a_tried, .ref a_stands, .ref a_found, .ref a_foundOn, .ref a_moving, .int v_movingMany, .int v_foundIncome, .int v_foundMoves])), (a_fresh, .inl (cI, 180, .inl res.1)), (a_buffer, .inl (cI, 600, .inl v_buffer))] A) args s 0 0 A) (F0 m 100 ls []) := by
  obtain ⟨⟨hx, hb, hml, hown, hts⟩, hr, hlocks⟩ := id E
  intro x1 x2 x3 v_fresh v_buffer v_size v_at v_behind v_kind v_wrong v_wrongAt v_number hf H locs ls hw hl
  unfold f_X6_readsRow_100 at hf
  refine lv_aload_n hx hb dX6_readsRow_100 rfl (lv_at hl 0 rfl) ?_
  refine lv_iconst (v := 1) hx hb dX6_readsRow_101 (by decide) ?_
  refine lv_sipush (v := 999) hx hb dX6_readsRow_102 (by decide) ?_
  obtain ⟨r_11, v_12, v_13, v_14, v_15, v_16, v_17, h_18, hf⟩ := oB7_elim hf
  refine z_callGVi (ws' := [(a_this, .inr (6, [.ref a_a, .ref a_fresh, .ref a_kept, .int v_keptMany, .int v_thrown, .ref a_buffer, .int v_buffered, .int v_size, .int v_12, .int v_13, .int v_14, .int v_15, .int v_16, .int v_errorAt, .long v_17, .ref a_best, .ref a_rentBy, .ref a_bareBy, .ref a_aheadBy, .ref a_isEdge, .ref a_tried, .ref a_stands, .ref a_found, .ref a_foundOn, .ref a_moving, .int v_movingMany, .int v_foundIncome, .int v_foundMoves])), (a_fresh, .inl (cI, 180, .inl v_fresh)), (a_buffer, .inl (cI, 600, .inl v_buffer))]) (wr := [(a_fresh, .inl (cI, 180, .inl v_fresh))]) (As := [.int (1 : Int32), .int (999 : Int32)]) (rest := []) E.1 hl hT hLt hG hw (c_X6_takes h_18) (cwV 2 hts (z_gV mw_850 mw_851 mw_852 mw_598 mw_853) rfl rfl rfl (by decide +kernel) ⟨(Nat.le_of_ble_eq_true rfl), (Nat.le_of_ble_eq_true rfl)⟩) 3 [(0, 1), (2, 1)] [(1, 1)] rfl rfl rfl rfl rfl rfl (by decide +kernel) rfl (q0 := 0) rfl rfl rfl (Nat.le_of_ble_eq_true rfl) dX6_readsRow_105 ⟨Nat.le_of_ble_eq_true rfl, Nat.le_of_ble_eq_true rfl⟩ (fun H locs hw => ?_)
  refine lv_istore (lv' := [(4, .int r_11), (0, .ref a_this), (1, .int x1), (2, .int x2), (3, .int x3)]) hx hb dX6_readsRow_108 hl (z_lt rfl) rfl (fun ls hl => ?_)
  refine lv_aload_n hx hb dX6_readsRow_110 rfl (lv_at hl 1 rfl) ?_
  refine z_get E.1 hw in_wsX60 0 rfl rfl 11 (z_lt rfl) mw_730 (v := .int v_15) rfl dX6_readsRow_111 ?_
  refine lv_if_eq (tgt := 118) hx hb dX6_readsRow_114 (by decide) (fun hc => ?_) (fun hc => ?_)
  · have hf := oI_pos hc hf
    refine lv_aload_n hx hb dX6_readsRow_118 rfl (lv_at hl 1 rfl) ?_
    refine z_get E.1 hw in_wsX60 0 rfl rfl 1 (z_lt rfl) mw_804 (v := .ref a_fresh) rfl dX6_readsRow_119 ?_
    refine lv_iconst (v := 2) hx hb dX6_readsRow_122 (by decide) ?_
    refine lv_iload_n hx hb dX6_readsRow_123 rfl (lv_at hl 4 rfl) ?_
    refine lv_iadd hx hb dX6_readsRow_124 ?_
    refine lv_iload hx hb dX6_readsRow_125 (lv_at hl 0 rfl) ?_
    obtain ⟨h_19, hf⟩ := oA_elim hf
    obtain ⟨v_20, e_v_20, hf⟩ := oL_elim hf
    refine z_iast (ws' := [(a_this, .inr (6, [.ref a_a, .ref a_fresh, .ref a_kept, .int v_keptMany, .int v_thrown, .ref a_buffer, .int v_buffered, .int v_size, .int v_12, .int v_13, .int v_14, .int v_15, .int v_16, .int v_errorAt, .long v_17, .ref a_best, .ref a_rentBy, .ref a_bareBy, .ref a_aheadBy, .ref a_isEdge, .ref a_tried, .ref a_stands, .ref a_found, .ref a_foundOn, .ref a_moving, .int v_movingMany, .int v_foundIncome, .int v_foundMoves])), (a_fresh, .inl (cI, 180, .inl v_20)), (a_buffer, .inl (cI, 600, .inl v_buffer))]) E.1 hw 1 0 rfl rfl h_19 (by subst e_v_20; rfl) dX6_readsRow_127 (fun H locs hw => ?_)
    refine lv_aload_n hx hb dX6_readsRow_128 rfl (lv_at hl 1 rfl) ?_
    refine z_get E.1 hw in_wsX60 0 rfl rfl 1 (z_lt rfl) mw_804 (v := .ref a_fresh) rfl dX6_readsRow_129 ?_
    refine lv_bipush (v := 26) hx hb dX6_readsRow_132 (by decide) ?_
    refine lv_iload_n hx hb dX6_readsRow_134 rfl (lv_at hl 4 rfl) ?_
    refine lv_iadd hx hb dX6_readsRow_135 ?_
    refine lv_aload_n hx hb dX6_readsRow_136 rfl (lv_at hl 1 rfl) ?_
    refine lv_bipush (v := 7) hx hb dX6_readsRow_137 (by decide) ?_
    obtain ⟨r_21, v_22, v_23, v_24, v_25, h_26, hf⟩ := oB5_elim hf
    refine z_callGVi (ws' := [(a_this, .inr (6, [.ref a_a, .ref a_fresh, .ref a_kept, .int v_keptMany, .int v_thrown, .ref a_buffer, .int v_buffered, .int v_size, .int v_22, .int v_23, .int v_24, .int v_15, .int v_16, .int v_errorAt, .long v_25, .ref a_best, .ref a_rentBy, .ref a_bareBy, .ref a_aheadBy, .ref a_isEdge, .ref a_tried, .ref a_stands, .ref a_found, .ref a_foundOn, .ref a_moving, .int v_movingMany, .int v_foundIncome, .int v_foundMoves])), (a_fresh, .inl (cI, 180, .inl v_20)), (a_buffer, .inl (cI, 600, .inl v_buffer))]) (wr := [(a_fresh, .inl (cI, 180, .inl v_20))]) (As := [.int (7 : Int32)]) (rest := [.int ((26 : Int32) + x3), .ref a_fresh]) E.1 hl hT hLt hG hw (c_X6_eats h_26) (cwV 1 hts (z_gV mw_854 mw_855 mw_856 mw_598 mw_725) rfl rfl rfl (by decide +kernel) ⟨(Nat.le_of_ble_eq_true rfl), (Nat.le_of_ble_eq_true rfl)⟩) 3 [(0, 1), (2, 1)] [(1, 1)] rfl rfl rfl rfl rfl rfl (by decide +kernel) rfl (q0 := 0) rfl rfl rfl (Nat.le_of_ble_eq_true rfl) dX6_readsRow_139 ⟨Nat.le_of_ble_eq_true rfl, Nat.le_of_ble_eq_true rfl⟩ (fun H locs hw => ?_)
    refine lv_if_eq (tgt := 149) hx hb dX6_readsRow_142 (by decide) (fun hc => ?_) (fun hc => ?_)
    · have hf := oI_pos hc hf
      refine lv_iconst (v := 0) hx hb dX6_readsRow_149 (by decide) ?_
      exact w_X6_readsRow_150 E hT hLt hG hk32 _ _ _ _ _ _ _ _ _ _ _ _ _ _ hf _ _ _ hw (lv_sub hl [1, 2, 3, 4] rfl)
    · have hf := oI_neg hc hf
      refine lv_iconst (v := 1) hx hb dX6_readsRow_145 (by decide) ?_
      refine lv_goto (tgt := 150) hx hb dX6_readsRow_146 (by decide) ?_
      exact w_X6_readsRow_150 E hT hLt hG hk32 _ _ _ _ _ _ _ _ _ _ _ _ _ _ hf _ _ _ hw (lv_sub hl [1, 2, 3, 4] rfl)
  · have hf := oI_neg hc hf
    cases hf
    exact z_vret E rfl hw dX6_readsRow_117
set_option maxHeartbeats 4000000 in
set_option maxRecDepth 100000 in
theorem w_X6_readsRow_94 {n : Nat} (E : zE p s m args meth c cX6_readsRow 5 none zwX6_readsRow RX6) (hT : zTn s) (hLt : zLt adK s) (hG : zSg adK adV A s s.heap) {k32 : Int32 → Int32 → (Nat → Int32) → (Nat → Int32) → Int32 → Int32 → Int32 → Int32 → Int32 → Int32 → Int64 → Option ((Nat → Int32) × Int32 × Int32 × Int32 × Int32 × Int32 × Int64)} (hk32 : ∀ (x1 : Int32) (x2 : Int32) (v_fresh : Nat → Int32) (v_buffer : Nat → Int32) (v_size : Int32) (v_at : Int32) (v_behind : Int32) (v_kind : Int32) (v_wrong : Int32) (v_wrongAt : Int32) (v_number : Int64), k32 x1 x2 v_fresh v_buffer v_size v_at v_behind v_kind v_wrong v_wrongAt v_number = some res → ∀ (H : Heap) (locs : List Loc) (ls : Array Slot), zW D (zT cI cZ cM) A s [(a_this, .inr (6, [.ref a_a, .ref a_fresh, .ref a_kept, .int v_keptMany, .int v_thrown, .ref a_buffer, .int v_buffered, .int v_size, .int v_at, .int v_behind, .int v_kind, .int v_wrong, .int v_wrongAt, .int v_errorAt, .long v_number, .ref a_best, .ref a_rentBy, .ref a_bareBy, .ref a_aheadBy, .ref a_isEdge, .ref a_tried, .ref a_stands, .ref a_found, .ref a_foundOn, .ref a_moving, .int v_movingMany, .int v_foundIncome, .int v_foundMoves])), (a_fresh, .inl (cI, 180, .inl v_fresh)), (a_buffer, .inl (cI, 600, .inl v_buffer))] H locs → lv_has ls 5 [(0, .ref a_this), (1, .int x1), (2, .int x2)] → W p l e rmX6_readsRow s m args below meth c H locs 0 0 (MQ below (zQv D (zT cI cZ cM) [(a_this, .inr (6, [.ref a_a, .ref a_fresh, .ref a_kept, .int v_keptMany, .int v_thrown, .ref a_buffer, .int v_buffered, .int v_size, .int res.2.1, .int res.2.2.1, .int res.2.2.2.1, .int res.2.2.2.2.1, .int res.2.2.2.2.2.1, .int v_errorAt, .long res.2.2.2.2.2.2, .ref a_best, .ref a_rentBy, .ref a_bareBy, .ref a_aheadBy, .ref a_isEdge, .ref a_tried, .ref a_stands, .ref a_found, .ref a_foundOn, .ref a_moving, .int v_movingMany, .int v_foundIncome, .int v_foundMoves])), (a_fresh, .inl (cI, 180, .inl res.1)), (a_buffer, .inl (cI, 600, .inl v_buffer))] A) args s 0 0 A) (F0 m 32 ls [])) : ∀ (x1 : Int32) (x2 : Int32) (x3 : Int32) (v_fresh : Nat → Int32) (v_buffer : Nat → Int32) (v_size : Int32) (v_at : Int32) (v_behind : Int32) (v_kind : Int32) (v_wrong : Int32) (v_wrongAt : Int32) (v_number : Int64), f_X6_readsRow_94 n k32 x1 x2 x3 v_fresh v_buffer v_size v_at v_behind v_kind v_wrong v_wrongAt v_number = some res → ∀ (H : Heap) (locs : List Loc) (ls : Array Slot), zW D (zT cI cZ cM) A s [(a_this, .inr (6, [.ref a_a, .ref a_fresh, .ref a_kept, .int v_keptMany, .int v_thrown, .ref a_buffer, .int v_buffered, .int v_size, .int v_at, .int v_behind, .int v_kind, .int v_wrong, .int v_wrongAt, .int v_errorAt, .long v_number, .ref a_best, .ref a_rentBy, .ref a_bareBy, .ref a_aheadBy, .ref a_isEdge, .ref a_tried, .ref a_stands, .ref a_found, .ref a_foundOn, .ref a_moving, .int v_movingMany, .int v_foundIncome, .int v_foundMoves])), (a_fresh, .inl (cI, 180, .inl v_fresh)), (a_buffer, .inl (cI, 600, .inl v_buffer))] H locs → lv_has ls 5 [(0, .ref a_this), (1, .int x1), (2, .int x2), (3, .int x3)] → W p l e rmX6_readsRow s m args below meth c H locs 0 0 (MQ below (zQv D (zT cI cZ cM) [(a_this, .inr (6, [.ref a_a, .ref a_fresh, .ref a_kept, .int v_keptMany, .int v_thrown, .ref a_buffer, .int v_buffered, .int v_size, .int res.2.1, .int res.2.2.1, .int res.2.2.2.1, .int res.2.2.2.2.1, .int res.2.2.2.2.2.1, .int v_errorAt, .long res.2.2.2.2.2.2, .ref a_best, .ref a_rentBy, .ref a_bareBy, .ref a_aheadBy, .ref a_isEdge, .ref a_tried, .ref a_stands, .ref a_found, .ref a_foundOn, .ref a_moving, .int v_movingMany, .int v_foundIncome, .int v_foundMoves])), (a_fresh, .inl (cI, 180, .inl res.1)), (a_buffer, .inl (cI, 600, .inl v_buffer))] A) args s 0 0 A) (F0 m 94 ls []) := by
  obtain ⟨⟨hx, hb, hml, hown, hts⟩, hr, hlocks⟩ := id E
  intro x1 x2 x3 v_fresh v_buffer v_size v_at v_behind v_kind v_wrong v_wrongAt v_number hf H locs ls hw hl
  unfold f_X6_readsRow_94 at hf
  refine lv_aload_n hx hb dX6_readsRow_94 rfl (lv_at hl 0 rfl) ?_
  refine lv_bipush (v := -4) hx hb dX6_readsRow_95 (by decide) ?_
  obtain ⟨v_27, v_28, h_29, hf⟩ := oB2_elim hf
  refine z_callVv (ws' := [(a_this, .inr (6, [.ref a_a, .ref a_fresh, .ref a_kept, .int v_keptMany, .int v_thrown, .ref a_buffer, .int v_buffered, .int v_size, .int v_at, .int v_behind, .int v_kind, .int v_27, .int v_28, .int v_errorAt, .long v_number, .ref a_best, .ref a_rentBy, .ref a_bareBy, .ref a_aheadBy, .ref a_isEdge, .ref a_tried, .ref a_stands, .ref a_found, .ref a_foundOn, .ref a_moving, .int v_movingMany, .int v_foundIncome, .int v_foundMoves])), (a_fresh, .inl (cI, 180, .inl v_fresh)), (a_buffer, .inl (cI, 600, .inl v_buffer))]) (wr := [(a_fresh, .inl (cI, 180, .inl v_fresh)), (a_buffer, .inl (cI, 600, .inl v_buffer))]) (As := [.int (-4 : Int32)]) (rest := []) E.1 hl hw (c_X6_fails h_29) (cwV 1 hts (z_gV mw_847 mw_848 mw_849 mw_598 mw_770) rfl rfl rfl (by decide +kernel) ⟨(Nat.le_of_ble_eq_true rfl), (Nat.le_of_ble_eq_true rfl)⟩) 3 [(0, 1)] [(1, 2)] rfl rfl rfl rfl rfl rfl (by decide +kernel) rfl (q0 := 0) rfl rfl rfl (Nat.le_of_ble_eq_true rfl) dX6_readsRow_97 ⟨Nat.le_of_ble_eq_true rfl, Nat.le_of_ble_eq_true rfl⟩ (fun H locs hw => ?_)
  exact w_X6_readsRow_100 E hT hLt hG hk32 _ _ _ _ _ _ _ _ _ _ _ _ hf _ _ _ hw (lv_sub hl [0, 1, 2, 3] rfl)
set_option maxHeartbeats 4000000 in
set_option maxRecDepth 100000 in
theorem w_X6_readsRow_52 {n : Nat} (E : zE p s m args meth c cX6_readsRow 5 none zwX6_readsRow RX6) (hT : zTn s) (hLt : zLt adK s) (hG : zSg adK adV A s s.heap) {k32 : Int32 → Int32 → (Nat → Int32) → (Nat → Int32) → Int32 → Int32 → Int32 → Int32 → Int32 → Int32 → Int64 → Option ((Nat → Int32) × Int32 × Int32 × Int32 × Int32 × Int32 × Int64)} (hk32 : ∀ (x1 : Int32) (x2 : Int32) (v_fresh : Nat → Int32) (v_buffer : Nat → Int32) (v_size : Int32) (v_at : Int32) (v_behind : Int32) (v_kind : Int32) (v_wrong : Int32) (v_wrongAt : Int32) (v_number : Int64), k32 x1 x2 v_fresh v_buffer v_size v_at v_behind v_kind v_wrong v_wrongAt v_number = some res → ∀ (H : Heap) (locs : List Loc) (ls : Array Slot), zW D (zT cI cZ cM) A s [(a_this, .inr (6, [.ref a_a, .ref a_fresh, .ref a_kept, .int v_keptMany, .int v_thrown, .ref a_buffer, .int v_buffered, .int v_size, .int v_at, .int v_behind, .int v_kind, .int v_wrong, .int v_wrongAt, .int v_errorAt, .long v_number, .ref a_best, .ref a_rentBy, .ref a_bareBy, .ref a_aheadBy, .ref a_isEdge, .ref a_tried, .ref a_stands, .ref a_found, .ref a_foundOn, .ref a_moving, .int v_movingMany, .int v_foundIncome, .int v_foundMoves])), (a_fresh, .inl (cI, 180, .inl v_fresh)), (a_buffer, .inl (cI, 600, .inl v_buffer))] H locs → lv_has ls 5 [(0, .ref a_this), (1, .int x1), (2, .int x2)] → W p l e rmX6_readsRow s m args below meth c H locs 0 0 (MQ below (zQv D (zT cI cZ cM) [(a_this, .inr (6, [.ref a_a, .ref a_fresh, .ref a_kept, .int v_keptMany, .int v_thrown, .ref a_buffer, .int v_buffered, .int v_size, .int res.2.1, .int res.2.2.1, .int res.2.2.2.1, .int res.2.2.2.2.1, .int res.2.2.2.2.2.1, .int v_errorAt, .long res.2.2.2.2.2.2, .ref a_best, .ref a_rentBy, .ref a_bareBy, .ref a_aheadBy, .ref a_isEdge, .ref a_tried, .ref a_stands, .ref a_found, .ref a_foundOn, .ref a_moving, .int v_movingMany, .int v_foundIncome, .int v_foundMoves])), (a_fresh, .inl (cI, 180, .inl res.1)), (a_buffer, .inl (cI, 600, .inl v_buffer))] A) args s 0 0 A) (F0 m 32 ls [])) : ∀ (x1 : Int32) (x2 : Int32) (v_fresh : Nat → Int32) (v_buffer : Nat → Int32) (v_size : Int32) (v_at : Int32) (v_behind : Int32) (v_kind : Int32) (v_wrong : Int32) (v_wrongAt : Int32) (v_number : Int64), f_X6_readsRow_52 n k32 x1 x2 v_fresh v_buffer v_size v_at v_behind v_kind v_wrong v_wrongAt v_number = some res → ∀ (H : Heap) (locs : List Loc) (ls : Array Slot), zW D (zT cI cZ cM) A s [(a_this, .inr (6, [.ref a_a, .ref a_fresh, .ref a_kept, .int v_keptMany, .int v_thrown, .ref a_buffer, .int v_buffered, .int v_size, .int v_at, .int v_behind, .int v_kind, .int v_wrong, .int v_wrongAt, .int v_errorAt, .long v_number, .ref a_best, .ref a_rentBy, .ref a_bareBy, .ref a_aheadBy, .ref a_isEdge, .ref a_tried, .ref a_stands, .ref a_found, .ref a_foundOn, .ref a_moving, .int v_movingMany, .int v_foundIncome, .int v_foundMoves])), (a_fresh, .inl (cI, 180, .inl v_fresh)), (a_buffer, .inl (cI, 600, .inl v_buffer))] H locs → lv_has ls 5 [(0, .ref a_this), (1, .int x1), (2, .int x2)] → W p l e rmX6_readsRow s m args below meth c H locs 0 0 (MQ below (zQv D (zT cI cZ cM) [(a_this, .inr (6, [.ref a_a, .ref a_fresh, .ref a_kept, .int v_keptMany, .int v_thrown, .ref a_buffer, .int v_buffered, .int v_size, .int res.2.1, .int res.2.2.1, .int res.2.2.2.1, .int res.2.2.2.2.1, .int res.2.2.2.2.2.1, .int v_errorAt, .long res.2.2.2.2.2.2, .ref a_best, .ref a_rentBy, .ref a_bareBy, .ref a_aheadBy, .ref a_isEdge, .ref a_tried, .ref a_stands, .ref a_found, .ref a_foundOn, .ref a_moving, .int v_movingMany, .int v_foundIncome, .int v_foundMoves])), (a_fresh, .inl (cI, 180, .inl res.1)), (a_buffer, .inl (cI, 600, .inl v_buffer))] A) args s 0 0 A) (F0 m 52 ls []) := by
  obtain ⟨⟨hx, hb, hml, hown, hts⟩, hr, hlocks⟩ := id E
  intro x1 x2 v_fresh v_buffer v_size v_at v_behind v_kind v_wrong v_wrongAt v_number hf H locs ls hw hl
  unfold f_X6_readsRow_52 at hf
  refine lv_aload_n hx hb dX6_readsRow_52 rfl (lv_at hl 0 rfl) ?_
  refine z_get E.1 hw in_wsX60 0 rfl rfl 1 (z_lt rfl) mw_804 (v := .ref a_fresh) rfl dX6_readsRow_53 ?_
  refine lv_iconst (v := 1) hx hb dX6_readsRow_56 (by decide) ?_
  obtain ⟨h_30, hf⟩ := oA_elim hf
  refine z_iald E.1 hw 1 0 rfl rfl h_30 dX6_readsRow_57 ?_
  obtain ⟨y_31, e_y_31, hf⟩ := oL_elim hf
  refine z_top e_y_31 ?_
  refine lv_istore_n (lv' := [(3, .int y_31), (0, .ref a_this), (1, .int x1), (2, .int x2)]) hx hb dX6_readsRow_58 rfl hl (z_lt rfl) rfl (fun ls hl => ?_)
  refine lv_aload_n hx hb dX6_readsRow_59 rfl (lv_at hl 1 rfl) ?_
  refine lv_bipush (v := 9) hx hb dX6_readsRow_60 (by decide) ?_
  obtain ⟨r_32, h_33, hf⟩ := oB_elim hf
  refine z_callVi (ws' := [(a_this, .inr (6, [.ref a_a, .ref a_fresh, .ref a_kept, .int v_keptMany, .int v_thrown, .ref a_buffer, .int v_buffered, .int v_size, .int v_at, .int v_behind, .int v_kind, .int v_wrong, .int v_wrongAt, .int v_errorAt, .long v_number, .ref a_best, .ref a_rentBy, .ref a_bareBy, .ref a_aheadBy, .ref a_isEdge, .ref a_tried, .ref a_stands, .ref a_found, .ref a_foundOn, .ref a_moving, .int v_movingMany, .int v_foundIncome, .int v_foundMoves])), (a_fresh, .inl (cI, 180, .inl v_fresh)), (a_buffer, .inl (cI, 600, .inl v_buffer))]) (wr := [(a_fresh, .inl (cI, 180, .inl v_fresh)), (a_buffer, .inl (cI, 600, .inl v_buffer))]) (As := [.int (9 : Int32)]) (rest := []) E.1 hl hw (c_X6_is h_33) (cwV 1 hts (z_gV mw_726 mw_727 mw_728 mw_598 mw_729) rfl rfl rfl (by decide +kernel) ⟨(Nat.le_of_ble_eq_true rfl), (Nat.le_of_ble_eq_true rfl)⟩) 3 [(0, 1)] [(1, 2)] rfl rfl rfl rfl rfl rfl (by decide +kernel) rfl (q0 := 0) rfl rfl rfl (Nat.le_of_ble_eq_true rfl) dX6_readsRow_62 ⟨Nat.le_of_ble_eq_true rfl, Nat.le_of_ble_eq_true rfl⟩ (fun H locs hw => ?_)
  refine lv_if_eq (tgt := 100) hx hb dX6_readsRow_65 (by decide) (fun hc => ?_) (fun hc => ?_)
  · have hf := oI_pos hc hf
    exact w_X6_readsRow_100 E hT hLt hG hk32 _ _ _ _ _ _ _ _ _ _ _ _ hf _ _ _ hw (lv_sub hl [1, 2, 3, 0] rfl)
  · have hf := oI_neg hc hf
    refine lv_aload_n hx hb dX6_readsRow_68 rfl (lv_at hl 1 rfl) ?_
    refine z_get E.1 hw in_wsX60 0 rfl rfl 14 (z_lt rfl) mw_739 (v := .long v_number) rfl dX6_readsRow_69 ?_
    refine lv_lconst (v := 1) hx hb dX6_readsRow_72 (by decide) ?_
    refine lv_ldc2 (v := 999) hx hb hown (hts _ mw_846) dX6_readsRow_73 ?_
    obtain ⟨r_34, h_35, hf⟩ := oB_elim hf
    refine z_callSi (ws' := [(a_this, .inr (6, [.ref a_a, .ref a_fresh, .ref a_kept, .int v_keptMany, .int v_thrown, .ref a_buffer, .int v_buffered, .int v_size, .int v_at, .int v_behind, .int v_kind, .int v_wrong, .int v_wrongAt, .int v_errorAt, .long v_number, .ref a_best, .ref a_rentBy, .ref a_bareBy, .ref a_aheadBy, .ref a_isEdge, .ref a_tried, .ref a_stands, .ref a_found, .ref a_foundOn, .ref a_moving, .int v_movingMany, .int v_foundIncome, .int v_foundMoves])), (a_fresh, .inl (cI, 180, .inl v_fresh)), (a_buffer, .inl (cI, 600, .inl v_buffer))]) (wr := [(a_this, .inr (6, [.ref a_a, .ref a_fresh, .ref a_kept, .int v_keptMany, .int v_thrown, .ref a_buffer, .int v_buffered, .int v_size, .int v_at, .int v_behind, .int v_kind, .int v_wrong, .int v_wrongAt, .int v_errorAt, .long v_number, .ref a_best, .ref a_rentBy, .ref a_bareBy, .ref a_aheadBy, .ref a_isEdge, .ref a_tried, .ref a_stands, .ref a_found, .ref a_foundOn, .ref a_moving, .int v_movingMany, .int v_foundIncome, .int v_foundMoves])), (a_fresh, .inl (cI, 180, .inl v_fresh)), (a_buffer, .inl (cI, 600, .inl v_buffer))]) (As := [.long v_number, .long (1 : Int64), .long (999 : Int64)]) (rest := []) E.1 hl hw (c_X6_isIn h_35) (va_cwS 3 hts (z_gS mw_596 mw_597 mw_598 mw_599) rfl rfl rfl (by decide +kernel) ⟨(Nat.le_of_ble_eq_true rfl), (Nat.le_of_ble_eq_true rfl)⟩) 3 [] [(0, 3)] rfl rfl rfl rfl rfl rfl (by decide +kernel) rfl rfl (Nat.le_of_ble_eq_true rfl) dX6_readsRow_76 ⟨Nat.le_of_ble_eq_true rfl, Nat.le_of_ble_eq_true rfl⟩ (fun H locs hw => ?_)
    refine lv_if_eq (tgt := 100) hx hb dX6_readsRow_79 (by decide) (fun hc => ?_) (fun hc => ?_)
    · have hf := oI_pos hc hf
      exact w_X6_readsRow_100 E hT hLt hG hk32 _ _ _ _ _ _ _ _ _ _ _ _ hf _ _ _ hw (lv_sub hl [1, 2, 3, 0] rfl)
    · have hf := oI_neg hc hf
      refine lv_iload_n hx hb dX6_readsRow_82 rfl (lv_at hl 3 rfl) ?_
      refine lv_bipush (v := 12) hx hb dX6_readsRow_83 (by decide) ?_
      refine lv_icmp_eq (tgt := 94) hx hb dX6_readsRow_85 (by decide) (fun hc => ?_) (fun hc => ?_)
      · have hf := oI_pos hc hf
        exact w_X6_readsRow_94 E hT hLt hG hk32 _ _ _ _ _ _ _ _ _ _ _ _ hf _ _ _ hw (lv_sub hl [1, 2, 3, 0] rfl)
      · have hf := oI_neg hc hf
        refine lv_iload_n hx hb dX6_readsRow_88 rfl (lv_at hl 0 rfl) ?_
        refine lv_bipush (v := 24) hx hb dX6_readsRow_89 (by decide) ?_
        refine lv_icmp_ne (tgt := 100) hx hb dX6_readsRow_91 (by decide) (fun hc => ?_) (fun hc => ?_)
        · have hf := oI_neg hc hf
          exact w_X6_readsRow_100 E hT hLt hG hk32 _ _ _ _ _ _ _ _ _ _ _ _ hf _ _ _ hw (lv_sub hl [1, 2, 3, 0] rfl)
        · have hf := oI_pos hc hf
          exact w_X6_readsRow_94 E hT hLt hG hk32 _ _ _ _ _ _ _ _ _ _ _ _ hf _ _ _ hw (lv_sub hl [1, 2, 3, 0] rfl)
set_option maxHeartbeats 4000000 in
set_option maxRecDepth 100000 in
theorem w_X6_readsRow_32 {n : Nat} (E : zE p s m args meth c cX6_readsRow 5 none zwX6_readsRow RX6) (hT : zTn s) (hLt : zLt adK s) (hG : zSg adK adV A s s.heap) : ∀ (fu : Nat), ∀ (x1 : Int32) (x2 : Int32) (v_fresh : Nat → Int32) (v_buffer : Nat → Int32) (v_size : Int32) (v_at : Int32) (v_behind : Int32) (v_kind : Int32) (v_wrong : Int32) (v_wrongAt : Int32) (v_number : Int64), f_X6_readsRow_32 n fu x1 x2 v_fresh v_buffer v_size v_at v_behind v_kind v_wrong v_wrongAt v_number = some res → ∀ (H : Heap) (locs : List Loc) (ls : Array Slot), zW D (zT cI cZ cM) A s [(a_this, .inr (6, [.ref a_a, .ref a_fresh, .ref a_kept, .int v_keptMany, .int v_thrown, .ref a_buffer, .int v_buffered, .int v_size, .int v_at, .int v_behind, .int v_kind, .int v_wrong, .int v_wrongAt, .int v_errorAt, .long v_number, .ref a_best, .ref a_rentBy, .ref a_bareBy, .ref a_aheadBy, .ref a_isEdge, .ref a_tried, .ref a_stands, .ref a_found, .ref a_foundOn, .ref a_moving, .int v_movingMany, .int v_foundIncome, .int v_foundMoves])), (a_fresh, .inl (cI, 180, .inl v_fresh)), (a_buffer, .inl (cI, 600, .inl v_buffer))] H locs → lv_has ls 5 [(0, .ref a_this), (1, .int x1), (2, .int x2)] → W p l e rmX6_readsRow s m args below meth c H locs 0 0 (MQ below (zQv D (zT cI cZ cM) [(a_this, .inr (6, [.ref a_a, .ref a_fresh, .ref a_kept, .int v_keptMany, .int v_thrown, .ref a_buffer, .int v_buffered, .int v_size, .int res.2.1, .int res.2.2.1, .int res.2.2.2.1, .int res.2.2.2.2.1, .int res.2.2.2.2.2.1, .int v_errorAt, .long res.2.2.2.2.2.2, .ref a_best, .ref a_rentBy, .ref a_bareBy, .ref a_aheadBy, .ref a_isEdge, .ref a_tried, .ref a_stands, .ref a_found, .ref a_foundOn, .ref a_moving, .int v_movingMany, .int v_foundIncome, .int v_foundMoves])), (a_fresh, .inl (cI, 180, .inl res.1)), (a_buffer, .inl (cI, 600, .inl v_buffer))] A) args s 0 0 A) (F0 m 32 ls []) := by
  obtain ⟨⟨hx, hb, hml, hown, hts⟩, hr, hlocks⟩ := id E
  intro fu
  induction fu with
  | zero => intro x1 x2 v_fresh v_buffer v_size v_at v_behind v_kind v_wrong v_wrongAt v_number hf; rw [f_X6_readsRow_32.eq_1] at hf; cases hf
  | succ fu ih =>
    intro x1 x2 v_fresh v_buffer v_size v_at v_behind v_kind v_wrong v_wrongAt v_number hf H locs ls hw hl
    rw [f_X6_readsRow_32.eq_2] at hf
    refine lv_aload_n hx hb dX6_readsRow_32 rfl (lv_at hl 0 rfl) ?_
    refine z_get E.1 hw in_wsX60 0 rfl rfl 11 (z_lt rfl) mw_730 (v := .int v_wrong) rfl dX6_readsRow_33 ?_
    refine lv_if_ne (tgt := 177) hx hb dX6_readsRow_36 (by decide) (fun hc => ?_) (fun hc => ?_)
    · have hf := oI_neg hc hf
      exact w_X6_readsRow_177 E hT hLt hG  _ _ _ _ _ _ _ hf _ _ _ hw (lv_sub hl [0] rfl)
    · have hf := oI_pos hc hf
      refine lv_iload_n hx hb dX6_readsRow_39 rfl (lv_at hl 2 rfl) ?_
      refine lv_if_eq (tgt := 52) hx hb dX6_readsRow_40 (by decide) (fun hc => ?_) (fun hc => ?_)
      · have hf := oI_pos hc hf
        exact w_X6_readsRow_52 E hT hLt hG ih _ _ _ _ _ _ _ _ _ _ _ hf _ _ _ hw (lv_sub hl [0, 1, 2] rfl)
      · have hf := oI_neg hc hf
        refine lv_aload_n hx hb dX6_readsRow_43 rfl (lv_at hl 0 rfl) ?_
        refine z_get E.1 hw in_wsX60 0 rfl rfl 10 (z_lt rfl) mw_731 (v := .int v_kind) rfl dX6_readsRow_44 ?_
        refine lv_bipush (v := 9) hx hb dX6_readsRow_47 (by decide) ?_
        refine lv_icmp_ne (tgt := 177) hx hb dX6_readsRow_49 (by decide) (fun hc => ?_) (fun hc => ?_)
        · have hf := oI_neg hc hf
          exact w_X6_readsRow_177 E hT hLt hG  _ _ _ _ _ _ _ hf _ _ _ hw (lv_sub hl [0] rfl)
        · have hf := oI_pos hc hf
          exact w_X6_readsRow_52 E hT hLt hG ih _ _ _ _ _ _ _ _ _ _ _ hf _ _ _ hw (lv_sub hl [0, 1, 2] rfl)
set_option maxHeartbeats 4000000 in
set_option maxRecDepth 100000 in
theorem w_X6_readsRow_18 {n : Nat} (E : zE p s m args meth c cX6_readsRow 5 none zwX6_readsRow RX6) (hT : zTn s) (hLt : zLt adK s) (hG : zSg adK adV A s s.heap) : ∀ (x1 : Int32) (v_fresh : Nat → Int32) (v_buffer : Nat → Int32) (v_size : Int32) (v_at : Int32) (v_behind : Int32) (v_kind : Int32) (v_wrong : Int32) (v_wrongAt : Int32) (v_number : Int64), f_X6_readsRow_18 n x1 v_fresh v_buffer v_size v_at v_behind v_kind v_wrong v_wrongAt v_number = some res → ∀ (H : Heap) (locs : List Loc) (ls : Array Slot), zW D (zT cI cZ cM) A s [(a_this, .inr (6, [.ref a_a, .ref a_fresh, .ref a_kept, .int v_keptMany, .int v_thrown, .ref a_buffer, .int v_buffered, .int v_size, .int v_at, .int v_behind, .int v_kind, .int v_wrong, .int v_wrongAt, .int v_errorAt, .long v_number, .ref a_best, .ref a_rentBy, .ref a_bareBy, .ref a_aheadBy, .ref a_isEdge, .ref a_tried, .ref a_stands, .ref a_found, .ref a_foundOn, .ref a_moving, .int v_movingMany, .int v_foundIncome, .int v_foundMoves])), (a_fresh, .inl (cI, 180, .inl v_fresh)), (a_buffer, .inl (cI, 600, .inl v_buffer))] H locs → lv_has ls 5 [(0, .ref a_this), (1, .int x1)] → W p l e rmX6_readsRow s m args below meth c H locs 0 0 (MQ below (zQv D (zT cI cZ cM) [(a_this, .inr (6, [.ref a_a, .ref a_fresh, .ref a_kept, .int v_keptMany, .int v_thrown, .ref a_buffer, .int v_buffered, .int v_size, .int res.2.1, .int res.2.2.1, .int res.2.2.2.1, .int res.2.2.2.2.1, .int res.2.2.2.2.2.1, .int v_errorAt, .long res.2.2.2.2.2.2, .ref a_best, .ref a_rentBy, .ref a_bareBy, .ref a_aheadBy, .ref a_isEdge, .ref a_tried, .ref a_stands, .ref a_found, .ref a_foundOn, .ref a_moving, .int v_movingMany, .int v_foundIncome, .int v_foundMoves])), (a_fresh, .inl (cI, 180, .inl res.1)), (a_buffer, .inl (cI, 600, .inl v_buffer))] A) args s 0 0 A) (F0 m 18 ls []) := by
  obtain ⟨⟨hx, hb, hml, hown, hts⟩, hr, hlocks⟩ := id E
  intro x1 v_fresh v_buffer v_size v_at v_behind v_kind v_wrong v_wrongAt v_number hf H locs ls hw hl
  unfold f_X6_readsRow_18 at hf
  refine lv_aload_n hx hb dX6_readsRow_18 rfl (lv_at hl 0 rfl) ?_
  refine z_get E.1 hw in_wsX60 0 rfl rfl 11 (z_lt rfl) mw_730 (v := .int v_wrong) rfl dX6_readsRow_19 ?_
  refine lv_if_eq (tgt := 26) hx hb dX6_readsRow_22 (by decide) (fun hc => ?_) (fun hc => ?_)
  · have hf := oI_pos hc hf
    refine lv_aload_n hx hb dX6_readsRow_26 rfl (lv_at hl 0 rfl) ?_
    obtain ⟨v_36, v_37, v_38, v_39, h_40, hf⟩ := oB4_elim hf
    refine z_callGVv (ws' := [(a_this, .inr (6, [.ref a_a, .ref a_fresh, .ref a_kept, .int v_keptMany, .int v_thrown, .ref a_buffer, .int v_buffered, .int v_size, .int v_36, .int v_37, .int v_38, .int v_wrong, .int v_wrongAt, .int v_errorAt, .long v_39, .ref a_best, .ref a_rentBy, .ref a_bareBy, .ref a_aheadBy, .ref a_isEdge, .ref a_tried, .ref a_stands, .ref a_found, .ref a_foundOn, .ref a_moving, .int v_movingMany, .int v_foundIncome, .int v_foundMoves])), (a_fresh, .inl (cI, 180, .inl v_fresh)), (a_buffer, .inl (cI, 600, .inl v_buffer))]) (wr := [(a_fresh, .inl (cI, 180, .inl v_fresh))]) (As := []) (rest := []) E.1 hl hT hLt hG hw (c_X6_next h_40) (cwV 0 hts (z_gV mw_732 mw_733 mw_734 mw_598 mw_735) rfl rfl rfl (by decide +kernel) ⟨(Nat.le_of_ble_eq_true rfl), (Nat.le_of_ble_eq_true rfl)⟩) 3 [(0, 1), (2, 1)] [(1, 1)] rfl rfl rfl rfl rfl rfl (by decide +kernel) rfl (q0 := 0) rfl rfl rfl (Nat.le_of_ble_eq_true rfl) dX6_readsRow_27 ⟨Nat.le_of_ble_eq_true rfl, Nat.le_of_ble_eq_true rfl⟩ (fun H locs hw => ?_)
    refine lv_iconst (v := 0) hx hb dX6_readsRow_30 (by decide) ?_
    refine lv_istore_n (lv' := [(2, .int (0 : Int32)), (0, .ref a_this), (1, .int x1)]) hx hb dX6_readsRow_31 rfl hl (z_lt rfl) rfl (fun ls hl => ?_)
    exact w_X6_readsRow_32 E hT hLt hG  n _ _ _ _ _ _ _ _ _ _ _ hf _ _ _ hw (lv_sub hl [1, 2, 0] rfl)
  · have hf := oI_neg hc hf
    cases hf
    exact z_vret E rfl hw dX6_readsRow_25
set_option maxHeartbeats 4000000 in
set_option maxRecDepth 100000 in
theorem c_X6_readsRow {l : Launch} {D : va_G} {cI cZ cM : ClassId} {adK adV : Nat → Nat} {a_this a_a a_fresh a_kept a_buffer a_best a_rentBy a_bareBy a_aheadBy a_isEdge a_tried a_stands a_found a_foundOn a_moving : Nat} {v_keptMany : Int32} {v_thrown : Int32} {v_buffered : Int32} {v_errorAt : Int32} {v_movingMany : Int32} {v_foundIncome : Int32} {v_foundMoves : Int32} {res : (Nat → Int32) × Int32 × Int32 × Int32 × Int32 × Int32 × Int64} {sz : Nat} {n : Nat} {v_fresh : Nat → Int32} {v_buffer : Nat → Int32} {v_size : Int32} {v_at : Int32} {v_behind : Int32} {v_kind : Int32} {v_wrong : Int32} {v_wrongAt : Int32} {v_number : Int64} (hf : f_X6_readsRow n v_fresh v_buffer v_size v_at v_behind v_kind v_wrong v_wrongAt v_number = some res) : Met l yX6_readsRow zwX6_readsRow rmX6_readsRow (zPcG D (zT cI cZ cM) [.ref a_this] [(a_this, .inr (6, [.ref a_a, .ref a_fresh, .ref a_kept, .int v_keptMany, .int v_thrown, .ref a_buffer, .int v_buffered, .int v_size, .int v_at, .int v_behind, .int v_kind, .int v_wrong, .int v_wrongAt, .int v_errorAt, .long v_number, .ref a_best, .ref a_rentBy, .ref a_bareBy, .ref a_aheadBy, .ref a_isEdge, .ref a_tried, .ref a_stands, .ref a_found, .ref a_foundOn, .ref a_moving, .int v_movingMany, .int v_foundIncome, .int v_foundMoves])), (a_fresh, .inl (cI, 180, .inl v_fresh)), (a_buffer, .inl (cI, 600, .inl v_buffer))] sz adK adV) (zQv D (zT cI cZ cM) [(a_this, .inr (6, [.ref a_a, .ref a_fresh, .ref a_kept, .int v_keptMany, .int v_thrown, .ref a_buffer, .int v_buffered, .int v_size, .int res.2.1, .int res.2.2.1, .int res.2.2.2.1, .int res.2.2.2.2.1, .int res.2.2.2.2.2.1, .int v_errorAt, .long res.2.2.2.2.2.2, .ref a_best, .ref a_rentBy, .ref a_bareBy, .ref a_aheadBy, .ref a_isEdge, .ref a_tried, .ref a_stands, .ref a_found, .ref a_foundOn, .ref a_moving, .int v_movingMany, .int v_foundIncome, .int v_foundMoves])), (a_fresh, .inl (cI, 180, .inl res.1)), (a_buffer, .inl (cI, 600, .inl v_buffer))] (va_A [(a_this, .inr (6, [.ref a_a, .ref a_fresh, .ref a_kept, .int v_keptMany, .int v_thrown, .ref a_buffer, .int v_buffered, .int v_size, .int v_at, .int v_behind, .int v_kind, .int v_wrong, .int v_wrongAt, .int v_errorAt, .long v_number, .ref a_best, .ref a_rentBy, .ref a_bareBy, .ref a_aheadBy, .ref a_isEdge, .ref a_tried, .ref a_stands, .ref a_found, .ref a_foundOn, .ref a_moving, .int v_movingMany, .int v_foundIncome, .int v_foundMoves])), (a_fresh, .inl (cI, 180, .inl v_fresh)), (a_buffer, .inl (cI, 600, .inl v_buffer))] sz)) 0 0 (va_A [(a_this, .inr (6, [.ref a_a, .ref a_fresh, .ref a_kept, .int v_keptMany, .int v_thrown, .ref a_buffer, .int v_buffered, .int v_size, .int v_at, .int v_behind, .int v_kind, .int v_wrong, .int v_wrongAt, .int v_errorAt, .long v_number, .ref a_best, .ref a_rentBy, .ref a_bareBy, .ref a_aheadBy, .ref a_isEdge, .ref a_tried, .ref a_stands, .ref a_found, .ref a_foundOn, .ref a_moving, .int v_movingMany, .int v_foundIncome, .int v_foundMoves])), (a_fresh, .inl (cI, 180, .inl v_fresh)), (a_buffer, .inl (cI, 600, .inl v_buffer))] sz) := by
  refine z_metG (cc := cX6_readsRow) (maxL := 5) (ret := none) (by decide) rfl (Nat.le_of_ble_eq_true rfl) ?_
  intro p e s m below meth c ls E hT hLt hG hsz hw hl
  obtain ⟨⟨hx, hb, hml, hown, hts⟩, hr, hlocks⟩ := id E
  have hl : lv_has ls 5 [(0, .ref a_this)] := hl
  unfold f_X6_readsRow at hf
  refine lv_aload_n hx hb dX6_readsRow_0 rfl (lv_at hl 0 rfl) ?_
  refine z_get E.1 hw in_wsX60 0 rfl rfl 1 (z_lt rfl) mw_804 (v := .ref a_fresh) rfl dX6_readsRow_1 ?_
  refine lv_iconst (v := 0) hx hb dX6_readsRow_4 (by decide) ?_
  obtain ⟨h_41, hf⟩ := oA_elim hf
  refine z_iald E.1 hw 1 0 rfl rfl h_41 dX6_readsRow_5 ?_
  obtain ⟨y_42, e_y_42, hf⟩ := oL_elim hf
  refine z_top e_y_42 ?_
  refine lv_istore_n (lv' := [(1, .int y_42), (0, .ref a_this)]) hx hb dX6_readsRow_6 rfl hl (z_lt rfl) rfl (fun ls hl => ?_)
  refine lv_iload_n hx hb dX6_readsRow_7 rfl (lv_at hl 0 rfl) ?_
  refine lv_iconst (v := 4) hx hb dX6_readsRow_8 (by decide) ?_
  refine lv_icmp_ne (tgt := 18) hx hb dX6_readsRow_9 (by decide) (fun hc => ?_) (fun hc => ?_)
  · have hf := oI_neg hc hf
    exact w_X6_readsRow_18 E hT hLt hG  _ _ _ _ _ _ _ _ _ _ hf _ _ _ hw (lv_sub hl [1, 0] rfl)
  · have hf := oI_pos hc hf
    refine lv_aload_n hx hb dX6_readsRow_12 rfl (lv_at hl 1 rfl) ?_
    refine lv_bipush (v := -4) hx hb dX6_readsRow_13 (by decide) ?_
    obtain ⟨v_43, v_44, h_45, hf⟩ := oB2_elim hf
    refine z_callVv (ws' := [(a_this, .inr (6, [.ref a_a, .ref a_fresh, .ref a_kept, .int v_keptMany, .int v_thrown, .ref a_buffer, .int v_buffered, .int v_size, .int v_at, .int v_behind, .int v_kind, .int v_43, .int v_44, .int v_errorAt, .long v_number, .ref a_best, .ref a_rentBy, .ref a_bareBy, .ref a_aheadBy, .ref a_isEdge, .ref a_tried, .ref a_stands, .ref a_found, .ref a_foundOn, .ref a_moving, .int v_movingMany, .int v_foundIncome, .int v_foundMoves])), (a_fresh, .inl (cI, 180, .inl v_fresh)), (a_buffer, .inl (cI, 600, .inl v_buffer))]) (wr := [(a_fresh, .inl (cI, 180, .inl v_fresh)), (a_buffer, .inl (cI, 600, .inl v_buffer))]) (As := [.int (-4 : Int32)]) (rest := []) E.1 hl hw (c_X6_fails h_45) (cwV 1 hts (z_gV mw_847 mw_848 mw_849 mw_598 mw_770) rfl rfl rfl (by decide +kernel) ⟨(Nat.le_of_ble_eq_true rfl), (Nat.le_of_ble_eq_true rfl)⟩) 3 [(0, 1)] [(1, 2)] rfl rfl rfl rfl rfl rfl (by decide +kernel) rfl (q0 := 0) rfl rfl rfl (Nat.le_of_ble_eq_true rfl) dX6_readsRow_15 ⟨Nat.le_of_ble_eq_true rfl, Nat.le_of_ble_eq_true rfl⟩ (fun H locs hw => ?_)
    exact w_X6_readsRow_18 E hT hLt hG  _ _ _ _ _ _ _ _ _ _ hf _ _ _ hw (lv_sub hl [1, 0] rfl)
end
