/-! X6_placed -/
section
variable {p : Program} {l : Launch} {e : Env} {s : State} {m : MethodId} {args : Array Value} {below : List Frame} {meth : Method} {c : Code} {D : va_G} {A : Nat → Prop} {cI cZ cM : ClassId} {a_this a_a a_fresh a_kept a_buffer a_best a_rentBy a_bareBy a_aheadBy a_isEdge a_tried a_stands a_found a_foundOn a_moving : Nat} {v_keptMany : Int32} {v_thrown : Int32} {v_buffered : Int32} {v_size : Int32} {v_at : Int32} {v_behind : Int32} {v_kind : Int32} {v_wrong : Int32} {v_wrongAt : Int32} {v_errorAt : Int32} {v_number : Int64} {v_movingMany : Int32} {v_foundIncome : Int32} {v_foundMoves : Int32} {res : Int32}
def rmX6_placed : Room := { frames := 0, cells := 0, slots := 0, locals := 0 }
abbrev zwX6_placed : List Cond := Cond.code yX6_placed cX6_placed 3 (some .int) :: wsAll
set_option maxHeartbeats 4000000 in
set_option maxRecDepth 100000 in
theorem w_X6_placed_29 {n : Nat} (E : zE p s m args meth c cX6_placed 3 (some .int) zwX6_placed RX6) {k4 : Int32 → Int32 → (Nat → Int32) → Option (Int32)} (hk4 : ∀ (x1 : Int32) (x2 : Int32) (v_a : Nat → Int32), k4 x1 x2 v_a = some res → ∀ (H : Heap) (locs : List Loc) (ls : Array Slot), zW D (zT cI cZ cM) A s [(a_this, .inr (6, [.ref a_a, .ref a_fresh, .ref a_kept, .int v_keptMany, .int v_thrown, .ref a_buffer, .int v_buffered, .int v_size, .int v_at, .int v_behind, .int v_kind, .int v_wrong, .int v_wrongAt, .int v_errorAt, .long v_number, .ref a_best, .ref a_rentBy, .ref a_bareBy, .ref a_aheadBy, .ref a_isEdge, .ref a_tried, .ref a_stands, .ref a_found, .ref a_foundOn, .ref a_moving, .int v_movingMany, .int v_foundIncome, .int v_foundMoves])), (a_a, .inl (cI, 180, .inl v_a))] H locs → lv_has ls 3 [(0, .ref a_this), (1, .int x1), (2, .int x2)] → W p l e rmX6_placed s m args below meth c H locs 0 0 (MQ below (zQi D (zT cI cZ cM) res [(a_this, .inr (6, [.ref a_a, .ref a_fresh, .ref a_kept, .int v_keptMany, .int v_thrown, .ref a_buffer, .int v_buffered, .int v_size, .int v_at, .int v_behind, .int v_kind, .int v_wrong, .int v_wrongAt, .int v_errorAt, .long v_number, .ref a_best, .ref a_rentBy, .ref a_bareBy, .ref a_aheadBy, .ref a_isEdge, .ref a_tried, .ref a_stands, .ref a_found, .ref a_foundOn, .ref a_moving, .int v_movingMany, .int v_foundIncome, .int v_foundMoves])), (a_a, .inl (cI, 180, .inl v_a))] A) args s 0 0 A) (F0 m 4 ls [])) : ∀ (t0 : Int32) (t1 : Int32) (x2 : Int32) (v_a : Nat → Int32), f_X6_placed_29 n k4 t0 t1 x2 v_a = some res → ∀ (H : Heap) (locs : List Loc) (ls : Array Slot), zW D (zT cI cZ cM) A s [(a_this, .inr (6, [.ref a_a, .ref a_fresh, .ref a_kept, .int v_keptMany, .int v_thrown, .ref a_buffer, .int v_buffered, .int v_size, .int v_at, .int v_behind, .int v_kind, .int v_wrong, .int v_wrongAt, .int v_errorAt, .long v_number, .ref a_best, .ref a_rentBy, .ref a_bareBy, .ref a_aheadBy, .ref a_isEdge, .ref a_tried, .ref a_stands, .ref a_found, .ref a_foundOn, .ref a_moving, .int v_movingMany, .int v_foundIncome, .int v_foundMoves])), (a_a, .inl (cI, 180, .inl v_a))] H locs → lv_has ls 3 [(0, .ref a_this), (2, .int x2)] → W p l e rmX6_placed s m args below meth c H locs 0 0 (MQ below (zQi D (zT cI cZ cM) res [(a_this, .inr (6, [.ref a_a, .ref a_fresh, .ref a_kept, .int v_keptMany, .int v_thrown, .ref a_buffer, .int v_buffered, .int v_size, .int v_at, .int v_behind, .int v_kind, .int v_wrong, .int v_wrongAt, .int v_errorAt, .long v_number, .ref a_best, .ref a_rentBy, .ref a_bareBy, .ref a_aheadBy, .ref a_isEdge, .ref a_tried, .ref a_stands, .ref a_found, .ref a_foundOn, .ref a_moving, .int v_movingMany, .int v_foundIncome, .int v_foundMoves])), (a_a, .inl (cI, 180, .inl v_a))] A) args s 0 0 A) (F0 m 29 ls [.int t1, .int t0]) := by
  obtain ⟨⟨hx, hb, hml, hown, hts⟩, hr, hlocks⟩ := id E
  intro t0 t1 x2 v_a hf H locs ls hw hl
  unfold f_X6_placed_29 at hf
  refine lv_iadd hx hb dX6_placed_29 ?_
  obtain ⟨y_1, e_y_1, hf⟩ := oL_elim hf
  refine z_top e_y_1 ?_
  refine lv_istore_n (lv' := [(1, .int y_1), (0, .ref a_this), (2, .int x2)]) hx hb dX6_placed_30 rfl hl (z_lt rfl) rfl (fun ls hl => ?_)
  refine lv_iinc (v := (x2 + (1 : Int32))) (lv' := [(2, .int (x2 + (1 : Int32))), (1, .int y_1), (0, .ref a_this)]) hx hb dX6_placed_31 hl (k := 2) rfl rfl (z_lt rfl) rfl (fun ls hl => ?_)
  refine lv_goto (tgt := 4) hx hb dX6_placed_34 (by decide) ?_
  exact hk4 _ _ _ hf _ _ _ hw (lv_sub hl [2, 1, 0] rfl)
set_option maxHeartbeats 4000000 in
set_option maxRecDepth 100000 in
theorem w_X6_placed_4 {n : Nat} (E : zE p s m args meth c cX6_placed 3 (some .int) zwX6_placed RX6) : ∀ (fu : Nat), ∀ (x1 : Int32) (x2 : Int32) (v_a : Nat → Int32), f_X6_placed_4 n fu x1 x2 v_a = some res → ∀ (H : Heap) (locs : List Loc) (ls : Array Slot), zW D (zT cI cZ cM) A s [(a_this, .inr (6, [.ref a_a, .ref a_fresh, .ref a_kept, .int v_keptMany, .int v_thrown, .ref a_buffer, .int v_buffered, .int v_size, .int v_at, .int v_behind, .int v_kind, .int v_wrong, .int v_wrongAt, .int v_errorAt, .long v_number, .ref a_best, .ref a_rentBy, .ref a_bareBy, .ref a_aheadBy, .ref a_isEdge, .ref a_tried, .ref a_stands, .ref a_found, .ref a_foundOn, .ref a_moving, .int v_movingMany, .int v_foundIncome, .int v_foundMoves])), (a_a, .inl (cI, 180, .inl v_a))] H locs → lv_has ls 3 [(0, .ref a_this), (1, .int x1), (2, .int x2)] → W p l e rmX6_placed s m args below meth c H locs 0 0 (MQ below (zQi D (zT cI cZ cM) res [(a_this, .inr (6, [.ref a_a, .ref a_fresh, .ref a_kept, .int v_keptMany, .int v_thrown, .ref a_buffer, .int v_buffered, .int v_size, .int v_at, .int v_behind, .int v_kind, .int v_wrong, .int v_wrongAt, .int v_errorAt, .long v_number, .ref a_best, .ref a_rentBy, .ref a_bareBy, .ref a_aheadBy, .ref a_isEdge, .ref a_tried, .ref a_stands, .ref a_found, .ref a_foundOn, .ref a_moving, .int v_movingMany, .int v_foundIncome, .int v_foundMoves])), (a_a, .inl (cI, 180, .inl v_a))] A) args s 0 0 A) (F0 m 4 ls []) := by
  obtain ⟨⟨hx, hb, hml, hown, hts⟩, hr, hlocks⟩ := id E
  intro fu
  induction fu with
  | zero => intro x1 x2 v_a hf; rw [f_X6_placed_4.eq_1] at hf; cases hf
  | succ fu ih =>
    intro x1 x2 v_a hf H locs ls hw hl
    rw [f_X6_placed_4.eq_2] at hf
    refine lv_iload_n hx hb dX6_placed_4 rfl (lv_at hl 2 rfl) ?_
    refine lv_bipush (v := 8) hx hb dX6_placed_5 (by decide) ?_
    refine lv_icmp_ge (tgt := 37) hx hb dX6_placed_7 (by decide) (fun hc => ?_) (fun hc => ?_)
    · have hf := oI_pos hc hf
      refine lv_iload_n hx hb dX6_placed_37 rfl (lv_at hl 1 rfl) ?_
      cases hf
      exact z_iret E rfl hw dX6_placed_38
    · have hf := oI_neg hc hf
      refine lv_iload_n hx hb dX6_placed_10 rfl (lv_at hl 1 rfl) ?_
      refine lv_aload_n hx hb dX6_placed_11 rfl (lv_at hl 0 rfl) ?_
      refine z_get E.1 hw in_wsX60 0 rfl rfl 0 (z_lt rfl) mw_593 (v := .ref a_a) rfl dX6_placed_12 ?_
      refine lv_bipush (v := 107) hx hb dX6_placed_15 (by decide) ?_
      refine lv_iload_n hx hb dX6_placed_17 rfl (lv_at hl 2 rfl) ?_
      refine lv_iadd hx hb dX6_placed_18 ?_
      obtain ⟨h_2, hf⟩ := oA_elim hf
      refine z_iald E.1 hw 1 0 rfl rfl h_2 dX6_placed_19 ?_
      refine lv_iconst (v := -1) hx hb dX6_placed_20 (by decide) ?_
      refine lv_icmp_ne (tgt := 28) hx hb dX6_placed_21 (by decide) (fun hc => ?_) (fun hc => ?_)
      · have hf := oI_neg hc hf
        refine lv_iconst (v := 1) hx hb dX6_placed_28 (by decide) ?_
        exact w_X6_placed_29 E ih _ _ _ _ hf _ _ _ hw (lv_sub hl [0, 2] rfl)
      · have hf := oI_pos hc hf
        refine lv_iconst (v := 0) hx hb dX6_placed_24 (by decide) ?_
        refine lv_goto (tgt := 29) hx hb dX6_placed_25 (by decide) ?_
        exact w_X6_placed_29 E ih _ _ _ _ hf _ _ _ hw (lv_sub hl [0, 2] rfl)
set_option maxHeartbeats 4000000 in
set_option maxRecDepth 100000 in
theorem c_X6_placed {l : Launch} {D : va_G} {cI cZ cM : ClassId} {a_this a_a a_fresh a_kept a_buffer a_best a_rentBy a_bareBy a_aheadBy a_isEdge a_tried a_stands a_found a_foundOn a_moving : Nat} {v_keptMany : Int32} {v_thrown : Int32} {v_buffered : Int32} {v_size : Int32} {v_at : Int32} {v_behind : Int32} {v_kind : Int32} {v_wrong : Int32} {v_wrongAt : Int32} {v_errorAt : Int32} {v_number : Int64} {v_movingMany : Int32} {v_foundIncome : Int32} {v_foundMoves : Int32} {res : Int32} {sz : Nat} {n : Nat} {v_a : Nat → Int32} (hf : f_X6_placed n v_a = some res) : Met l yX6_placed zwX6_placed rmX6_placed (zPc D (zT cI cZ cM) [.ref a_this] [(a_this, .inr (6, [.ref a_a, .ref a_fresh, .ref a_kept, .int v_keptMany, .int v_thrown, .ref a_buffer, .int v_buffered, .int v_size, .int v_at, .int v_behind, .int v_kind, .int v_wrong, .int v_wrongAt, .int v_errorAt, .long v_number, .ref a_best, .ref a_rentBy, .ref a_bareBy, .ref a_aheadBy, .ref a_isEdge, .ref a_tried, .ref a_stands, .ref a_found, .ref a_foundOn, .ref a_moving, .int v_movingMany, .int v_foundIncome, .int v_foundMoves])), (a_a, .inl (cI, 180, .inl v_a))] sz) (zQi D (zT cI cZ cM) res [(a_this, .inr (6, [.ref a_a, .ref a_fresh, .ref a_kept, .int v_keptMany, .int v_thrown, .ref a_buffer, .int v_buffered, .int v_size, .int v_at, .int v_behind, .int v_kind, .int v_wrong, .int v_wrongAt, .int v_errorAt, .long v_number, .ref a_best, .ref a_rentBy, .ref a_bareBy, .ref a_aheadBy, .ref a_isEdge, .ref a_tried, .ref a_stands, .ref a_found, .ref a_foundOn, .ref a_moving, .int v_movingMany, .int v_foundIncome, .int v_foundMoves])), (a_a, .inl (cI, 180, .inl v_a))] (va_A [(a_this, .inr (6, [.ref a_a, .ref a_fresh, .ref a_kept, .int v_keptMany, .int v_thrown, .ref a_buffer, .int v_buffered, .int v_size, .int v_at, .int v_behind, .int v_kind, .int v_wrong, .int v_wrongAt, .int v_errorAt, .long v_number, .ref a_best, .ref a_rentBy, .ref a_bareBy, .ref a_aheadBy, .ref a_isEdge, .ref a_tried, .ref a_stands, .ref a_found, .ref a_foundOn, .ref a_moving, .int v_movingMany, .int v_foundIncome, .int v_foundMoves])), (a_a, .inl (cI, 180, .inl v_a))] sz)) 0 0 (va_A [(a_this, .inr (6, [.ref a_a, .ref a_fresh, .ref a_kept, .int v_keptMany, .int v_thrown, .ref a_buffer, .int v_buffered, .int v_size, .int v_at, .int v_behind, .int v_kind, .int v_wrong, .int v_wrongAt, .int v_errorAt, .long v_number, .ref a_best, .ref a_rentBy, .ref a_bareBy, .ref a_aheadBy, .ref a_isEdge, .ref a_tried, .ref a_stands, .ref a_found, .ref a_foundOn, .ref a_moving, .int v_movingMany, .int v_foundIncome, .int v_foundMoves])), (a_a, .inl (cI, 180, .inl v_a))] sz) := by
  refine z_met (cc := cX6_placed) (maxL := 3) (ret := (some .int)) (by decide) rfl (Nat.le_of_ble_eq_true rfl) ?_
  intro p e s m below meth c ls E hsz hw hl
  obtain ⟨⟨hx, hb, hml, hown, hts⟩, hr, hlocks⟩ := id E
  have hl : lv_has ls 3 [(0, .ref a_this)] := hl
  unfold f_X6_placed at hf
  refine lv_iconst (v := 0) hx hb dX6_placed_0 (by decide) ?_
  refine lv_istore_n (lv' := [(1, .int (0 : Int32)), (0, .ref a_this)]) hx hb dX6_placed_1 rfl hl (z_lt rfl) rfl (fun ls hl => ?_)
  refine lv_iconst (v := 0) hx hb dX6_placed_2 (by decide) ?_
  refine lv_istore_n (lv' := [(2, .int (0 : Int32)), (1, .int (0 : Int32)), (0, .ref a_this)]) hx hb dX6_placed_3 rfl hl (z_lt rfl) rfl (fun ls hl => ?_)
  exact w_X6_placed_4 E  n _ _ _ hf _ _ _ hw (lv_sub hl [2, 1, 0] rfl)
end
/-! X6_clear -/
section
variable {p : Program} {l : Launch} {e : Env} {s : State} {m : MethodId} {args : Array Value} {below : List Frame} {meth : Method} {c : Code} {D : va_G} {A : Nat → Prop} {cI cZ cM : ClassId} {a_this a_a a_fresh a_kept a_buffer a_best a_rentBy a_bareBy a_aheadBy a_isEdge a_tried a_stands a_found a_foundOn a_moving : Nat} {v_buffered : Int32} {v_size : Int32} {v_at : Int32} {v_behind : Int32} {v_kind : Int32} {v_wrong : Int32} {v_wrongAt : Int32} {v_errorAt : Int32} {v_number : Int64} {v_movingMany : Int32} {v_foundIncome : Int32} {v_foundMoves : Int32} {res : Int32 × (Nat → Int32) × (Nat → Int32) × Int32 × Int32}
def rmX6_clear : Room := { frames := 1, cells := 0, slots := 0, locals := 22 }
abbrev zwX6_clear : List Cond := Cond.code yX6_clear cX6_clear 3 (some .int) :: wsAll
set_option maxHeartbeats 4000000 in
set_option maxRecDepth 100000 in
theorem w_X6_clear_16 {n : Nat} (E : zE p s m args meth c cX6_clear 3 (some .int) zwX6_clear RX6) : ∀ (fu : Nat), ∀ (x1 : Int32) (x2 : Int32) (v_a : Nat → Int32) (v_kept : Nat → Int32) (v_keptMany : Int32) (v_thrown : Int32), f_X6_clear_16 n fu x1 x2 v_a v_kept v_keptMany v_thrown = some res → ∀ (H : Heap) (locs : List Loc) (ls : Array Slot), zW D (zT cI cZ cM) A s [(a_this, .inr (6, [.ref a_a, .ref a_fresh, .ref a_kept, .int v_keptMany, .int v_thrown, .ref a_buffer, .int v_buffered, .int v_size, .int v_at, .int v_behind, .int v_kind, .int v_wrong, .int v_wrongAt, .int v_errorAt, .long v_number, .ref a_best, .ref a_rentBy, .ref a_bareBy, .ref a_aheadBy, .ref a_isEdge, .ref a_tried, .ref a_stands, .ref a_found, .ref a_foundOn, .ref a_moving, .int v_movingMany, .int v_foundIncome, .int v_foundMoves])), (a_a, .inl (cI, 180, .inl v_a)), (a_kept, .inl (cI, 1080, .inl v_kept))] H locs → lv_has ls 3 [(0, .ref a_this), (1, .int x1), (2, .int x2)] → W p l e rmX6_clear s m args below meth c H locs 0 0 (MQ below (zQi D (zT cI cZ cM) res.1 [(a_this, .inr (6, [.ref a_a, .ref a_fresh, .ref a_kept, .int res.2.2.2.1, .int res.2.2.2.2, .ref a_buffer, .int v_buffered, .int v_size, .int v_at, .int v_behind, .int v_kind, .int v_wrong, .int v_wrongAt, .int v_errorAt, .long v_number, .ref a_best, .ref a_rentBy, .ref a_bareBy, .ref a_aheadBy, .ref a_isEdge, .ref a_tried, .ref a_stands, .ref a_found, .ref a_foundOn, .ref a_moving, .int v_movingMany, .int v_foundIncome, .int v_foundMoves])), (a_a, .inl (cI, 180, .inl res.2.1)), (a_kept, .inl (cI, 1080, .inl res.2.2.1))] A) args s 0 0 A) (F0 m 16 ls []) := by
  obtain ⟨⟨hx, hb, hml, hown, hts⟩, hr, hlocks⟩ := id E
  intro fu
  induction fu with
  | zero => intro x1 x2 v_a v_kept v_keptMany v_thrown hf; rw [f_X6_clear_16.eq_1] at hf; cases hf
  | succ fu ih =>
    intro x1 x2 v_a v_kept v_keptMany v_thrown hf H locs ls hw hl
    rw [f_X6_clear_16.eq_2] at hf
    refine lv_iload_n hx hb dX6_clear_16 rfl (lv_at hl 2 rfl) ?_
    refine lv_bipush (v := 8) hx hb dX6_clear_17 (by decide) ?_
    refine lv_icmp_ge (tgt := 38) hx hb dX6_clear_19 (by decide) (fun hc => ?_) (fun hc => ?_)
    · have hf := oI_pos hc hf
      refine lv_iload_n hx hb dX6_clear_38 rfl (lv_at hl 1 rfl) ?_
      cases hf
      exact z_iret E rfl hw dX6_clear_39
    · have hf := oI_neg hc hf
      refine lv_aload_n hx hb dX6_clear_22 rfl (lv_at hl 0 rfl) ?_
      refine z_get E.1 hw in_wsX60 0 rfl rfl 0 (z_lt rfl) mw_593 (v := .ref a_a) rfl dX6_clear_23 ?_
      refine lv_bipush (v := 107) hx hb dX6_clear_26 (by decide) ?_
      refine lv_iload_n hx hb dX6_clear_28 rfl (lv_at hl 2 rfl) ?_
      refine lv_iadd hx hb dX6_clear_29 ?_
      refine lv_iconst (v := -1) hx hb dX6_clear_30 (by decide) ?_
      obtain ⟨h_1, hf⟩ := oA_elim hf
      obtain ⟨v_2, e_v_2, hf⟩ := oL_elim hf
      refine z_iast (ws' := [(a_this, .inr (6, [.ref a_a, .ref a_fresh, .ref a_kept, .int v_keptMany, .int v_thrown, .ref a_buffer, .int v_buffered, .int v_size, .int v_at, .int v_behind, .int v_kind, .int v_wrong, .int v_wrongAt, .int v_errorAt, .long v_number, .ref a_best, .ref a_rentBy, .ref a_bareBy, .ref a_aheadBy, .ref a_isEdge, .ref a_tried, .ref a_stands, .ref a_found, .ref a_foundOn, .ref a_moving, .int v_movingMany, .int v_foundIncome, .int v_foundMoves])), (a_a, .inl (cI, 180, .inl v_2)), (a_kept, .inl (cI, 1080, .inl v_kept))]) E.1 hw 1 0 rfl rfl h_1 (by subst e_v_2; rfl) dX6_clear_31 (fun H locs hw => ?_)
      refine lv_iinc (v := (x2 + (1 : Int32))) (lv' := [(2, .int (x2 + (1 : Int32))), (0, .ref a_this), (1, .int x1)]) hx hb dX6_clear_32 hl (k := 2) rfl rfl (z_lt rfl) rfl (fun ls hl => ?_)
      refine lv_goto (tgt := 16) hx hb dX6_clear_35 (by decide) ?_
      exact ih _ _ _ _ _ _ hf _ _ _ hw (lv_sub hl [1, 2, 0] rfl)
set_option maxHeartbeats 4000000 in
set_option maxRecDepth 100000 in
theorem c_X6_clear {l : Launch} {D : va_G} {cI cZ cM : ClassId} {a_this a_a a_fresh a_kept a_buffer a_best a_rentBy a_bareBy a_aheadBy a_isEdge a_tried a_stands a_found a_foundOn a_moving : Nat} {v_buffered : Int32} {v_size : Int32} {v_at : Int32} {v_behind : Int32} {v_kind : Int32} {v_wrong : Int32} {v_wrongAt : Int32} {v_errorAt : Int32} {v_number : Int64} {v_movingMany : Int32} {v_foundIncome : Int32} {v_foundMoves : Int32} {res : Int32 × (Nat → Int32) × (Nat → Int32) × Int32 × Int32} {sz : Nat} {n : Nat} {v_a : Nat → Int32} {v_kept : Nat → Int32} {v_keptMany : Int32} {v_thrown : Int32} (hf : f_X6_clear n v_a v_kept v_keptMany v_thrown = some res) : Met l yX6_clear zwX6_clear rmX6_clear (zPc D (zT cI cZ cM) [.ref a_this] [(a_this, .inr (6, [.ref a_a, .ref a_fresh, .ref a_kept, .int v_keptMany, .int v_thrown, .ref a_buffer, .int v_buffered, .int v_size, .int v_at, .int v_behind, .int v_kind, .int v_wrong, .int v_wrongAt, .int v_errorAt, .long v_number, .ref a_best, .ref a_rentBy, .ref a_bareBy, .ref a_aheadBy, .ref a_isEdge, .ref a_tried, .ref a_stands, .ref a_found, .ref a_foundOn, .ref a_moving, .int v_movingMany, .int v_foundIncome, .int v_foundMoves])), (a_a, .inl (cI, 180, .inl v_a)), (a_kept, .inl (cI, 1080, .inl v_kept))] sz) (zQi D (zT cI cZ cM) res.1 [(a_this, .inr (6, [.ref a_a, .ref a_fresh, .ref a_kept, .int res.2.2.2.1, .int res.2.2.2.2, .ref a_buffer, .int v_buffered, .int v_size, .int v_at, .int v_behind, .int v_kind, .int v_wrong, .int v_wrongAt, .int v_errorAt, .long v_number, .ref a_best, .ref a_rentBy, .ref a_bareBy, .ref a_aheadBy, .ref a_isEdge, .ref a_tried, .ref a_stands, .ref a_found, .ref a_foundOn, .ref a_moving, .int v_movingMany, .int v_foundIncome, .int v_foundMoves])), (a_a, .inl (cI, 180, .inl res.2.1)), (a_kept, .inl (cI, 1080, .inl res.2.2.1))] (va_A [(a_this, .inr (6, [.ref a_a, .ref a_fresh, .ref a_kept, .int v_keptMany, .int v_thrown, .ref a_buffer, .int v_buffered, .int v_size, .int v_at, .int v_behind, .int v_kind, .int v_wrong, .int v_wrongAt, .int v_errorAt, .long v_number, .ref a_best, .ref a_rentBy, .ref a_bareBy, .ref a_aheadBy, .ref a_isEdge, .ref a_tried, .ref a_stands, .ref a_found, .ref a_foundOn, .ref a_moving, .int v_movingMany, .int v_foundIncome, .int v_foundMoves])), (a_a, .inl (cI, 180, .inl v_a)), (a_kept, .inl (cI, 1080, .inl v_kept))] sz)) 0 0 (va_A [(a_this, .inr (6, [.ref a_a, .ref a_fresh, .ref a_kept, .int v_keptMany, .int v_thrown, .ref a_buffer, .int v_buffered, .int v_size, .int v_at, .int v_behind, .int v_kind, .int v_wrong, .int v_wrongAt, .int v_errorAt, .long v_number, .ref a_best, .ref a_rentBy, .ref a_bareBy, .ref a_aheadBy, .ref a_isEdge, .ref a_tried, .ref a_stands, .ref a_found, .ref a_foundOn, .ref a_moving, .int v_movingMany, .int v_foundIncome, .int v_foundMoves])), (a_a, .inl (cI, 180, .inl v_a)), (a_kept, .inl (cI, 1080, .inl v_kept))] sz) := by
  refine z_met (cc := cX6_clear) (maxL := 3) (ret := (some .int)) (by decide) rfl (Nat.le_of_ble_eq_true rfl) ?_
  intro p e s m below meth c ls E hsz hw hl
  obtain ⟨⟨hx, hb, hml, hown, hts⟩, hr, hlocks⟩ := id E
  have hl : lv_has ls 3 [(0, .ref a_this)] := hl
  unfold f_X6_clear at hf
  refine lv_aload_n hx hb dX6_clear_0 rfl (lv_at hl 0 rfl) ?_
  refine lv_iconst (v := 0) hx hb dX6_clear_1 (by decide) ?_
  refine z_put (ws' := [(a_this, .inr (6, [.ref a_a, .ref a_fresh, .ref a_kept, .int v_keptMany, .int (0 : Int32), .ref a_buffer, .int v_buffered, .int v_size, .int v_at, .int v_behind, .int v_kind, .int v_wrong, .int v_wrongAt, .int v_errorAt, .long v_number, .ref a_best, .ref a_rentBy, .ref a_bareBy, .ref a_aheadBy, .ref a_isEdge, .ref a_tried, .ref a_stands, .ref a_found, .ref a_foundOn, .ref a_moving, .int v_movingMany, .int v_foundIncome, .int v_foundMoves])), (a_a, .inl (cI, 180, .inl v_a)), (a_kept, .inl (cI, 1080, .inl v_kept))]) E.1 hw in_wsX60 tyX6 tyX6_ok nmX6 0 rfl rfl 4 (z_lt rfl) mw_594 rfl rfl rfl (z_lt rfl) rfl dX6_clear_2 (fun H locs hw => ?_)
  refine lv_aload_n hx hb dX6_clear_5 rfl (lv_at hl 0 rfl) ?_
  obtain ⟨v_3, v_4, h_5, hf⟩ := oB2_elim hf
  refine z_callVv (ws' := [(a_this, .inr (6, [.ref a_a, .ref a_fresh, .ref a_kept, .int v_4, .int (0 : Int32), .ref a_buffer, .int v_buffered, .int v_size, .int v_at, .int v_behind, .int v_kind, .int v_wrong, .int v_wrongAt, .int v_errorAt, .long v_number, .ref a_best, .ref a_rentBy, .ref a_bareBy, .ref a_aheadBy, .ref a_isEdge, .ref a_tried, .ref a_stands, .ref a_found, .ref a_foundOn, .ref a_moving, .int v_movingMany, .int v_foundIncome, .int v_foundMoves])), (a_a, .inl (cI, 180, .inl v_a)), (a_kept, .inl (cI, 1080, .inl v_3))]) (wr := []) (As := []) (rest := []) E.1 hl hw (c_X6_keeps h_5) (cwV 0 hts (z_gV mw_599 mw_600 mw_601 mw_597 mw_602) rfl rfl rfl (by decide +kernel) ⟨(Nat.le_of_ble_eq_true rfl), (Nat.le_of_ble_eq_true rfl)⟩) 3 [(0, 3)] [] rfl rfl rfl rfl rfl rfl (by decide +kernel) rfl (q0 := 0) rfl rfl rfl (Nat.le_of_ble_eq_true rfl) dX6_clear_6 ⟨Nat.le_of_ble_eq_true rfl, Nat.le_of_ble_eq_true rfl⟩ (fun H locs hw => ?_)
  refine lv_aload_n hx hb dX6_clear_9 rfl (lv_at hl 0 rfl) ?_
  obtain ⟨r_6, h_7, hf⟩ := oB_elim hf
  refine z_callVi (ws' := [(a_this, .inr (6, [.ref a_a, .ref a_fresh, .ref a_kept, .int v_4, .int (0 : Int32), .ref a_buffer, .int v_buffered, .int v_size, .int v_at, .int v_behind, .int v_kind, .int v_wrong, .int v_wrongAt, .int v_errorAt, .long v_number, .ref a_best, .ref a_rentBy, .ref a_bareBy, .ref a_aheadBy, .ref a_isEdge, .ref a_tried, .ref a_stands, .ref a_found, .ref a_foundOn, .ref a_moving, .int v_movingMany, .int v_foundIncome, .int v_foundMoves])), (a_a, .inl (cI, 180, .inl v_a)), (a_kept, .inl (cI, 1080, .inl v_3))]) (wr := [(a_kept, .inl (cI, 1080, .inl v_3))]) (As := []) (rest := []) E.1 hl hw (c_X6_placed h_7) (cwV 0 hts (z_gV mw_700 mw_701 mw_702 mw_597 mw_703) rfl rfl rfl (by decide +kernel) ⟨(Nat.le_of_ble_eq_true rfl), (Nat.le_of_ble_eq_true rfl)⟩) 3 [(0, 2)] [(2, 1)] rfl rfl rfl rfl rfl rfl (by decide +kernel) rfl (q0 := 0) rfl rfl rfl (Nat.le_of_ble_eq_true rfl) dX6_clear_10 ⟨Nat.le_of_ble_eq_true rfl, Nat.le_of_ble_eq_true rfl⟩ (fun H locs hw => ?_)
  refine lv_istore_n (lv' := [(1, .int r_6), (0, .ref a_this)]) hx hb dX6_clear_13 rfl hl (z_lt rfl) rfl (fun ls hl => ?_)
  refine lv_iconst (v := 0) hx hb dX6_clear_14 (by decide) ?_
  refine lv_istore_n (lv' := [(2, .int (0 : Int32)), (1, .int r_6), (0, .ref a_this)]) hx hb dX6_clear_15 rfl hl (z_lt rfl) rfl (fun ls hl => ?_)
  exact w_X6_clear_16 E  n _ _ _ _ _ _ hf _ _ _ hw (lv_sub hl [2, 1, 0] rfl)
end
/-! X6_isAhead -/
section
variable {p : Program} {l : Launch} {e : Env} {s : State} {m : MethodId} {args : Array Value} {below : List Frame} {meth : Method} {c : Code} {D : va_G} {A : Nat → Prop} {cI cZ cM : ClassId} {a_this a_a a_fresh a_kept a_buffer a_best a_rentBy a_bareBy a_aheadBy a_isEdge a_tried a_stands a_found a_foundOn a_moving : Nat} {v_keptMany : Int32} {v_thrown : Int32} {v_buffered : Int32} {v_size : Int32} {v_at : Int32} {v_behind : Int32} {v_kind : Int32} {v_wrong : Int32} {v_wrongAt : Int32} {v_errorAt : Int32} {v_number : Int64} {v_movingMany : Int32} {v_foundIncome : Int32} {v_foundMoves : Int32} {res : Int32}
def rmX6_isAhead : Room := { frames := 0, cells := 0, slots := 0, locals := 0 }
abbrev zwX6_isAhead : List Cond := Cond.code yX6_isAhead cX6_isAhead 4 (some .boolean) :: wsAll
set_option maxHeartbeats 4000000 in
set_option maxRecDepth 100000 in
theorem w_X6_isAhead_55 {n : Nat} (E : zE p s m args meth c cX6_isAhead 4 (some .boolean) zwX6_isAhead RX6) {k2 : Int32 → (Nat → Int32) → (Nat → Int32) → (Nat → Int32) → Option (Int32)} (hk2 : ∀ (x1 : Int32) (v_a : Nat → Int32) (v_stands : Nat → Int32) (v_foundOn : Nat → Int32), k2 x1 v_a v_stands v_foundOn = some res → ∀ (H : Heap) (locs : List Loc) (ls : Array Slot), zW D (zT cI cZ cM) A s [(a_this, .inr (6, [.ref a_a, .ref a_fresh, .ref a_kept, .int v_keptMany, .int v_thrown, .ref a_buffer, .int v_buffered, .int v_size, .int v_at, .int v_behind, .int v_kind, .int v_wrong, .int v_wrongAt, .int v_errorAt, .long v_number, .ref a_best, .ref a_rentBy, .ref a_bareBy, .ref a_aheadBy, .ref a_isEdge, .ref a_tried, .ref a_stands, .ref a_found, .ref a_foundOn, .ref a_moving, .int v_movingMany, .int v_foundIncome, .int v_foundMoves])), (a_a, .inl (cI, 180, .inl v_a)), (a_stands, .inl (cI, 24, .inl v_stands)), (a_foundOn, .inl (cI, 24, .inl v_foundOn))] H locs → lv_has ls 4 [(0, .ref a_this), (1, .int x1)] → W p l e rmX6_isAhead s m args below meth c H locs 0 0 (MQ below (zQi D (zT cI cZ cM) res [(a_this, .inr (6, [.ref a_a, .ref a_fresh, .ref a_kept, .int v_keptMany, .int v_thrown, .ref a_buffer, .int v_buffered, .int v_size, .int v_at, .int v_behind, .int v_kind, .int v_wrong, .int v_wrongAt, .int v_errorAt, .long v_number, .ref a_best, .ref a_rentBy, .ref a_bareBy, .ref a_aheadBy, .ref a_isEdge, .ref a_tried, .ref a_stands, .ref a_found, .ref a_foundOn, .ref a_moving, .int v_movingMany, .int v_foundIncome, .int v_foundMoves])), (a_a, .inl (cI, 180, .inl v_a)), (a_stands, .inl (cI, 24, .inl v_stands)), (a_foundOn, .inl (cI, 24, .inl v_foundOn))] A) args s 0 0 A) (F0 m 2 ls [])) : ∀ (t0 : Int32) (x1 : Int32) (x2 : Int32) (v_a : Nat → Int32) (v_stands : Nat → Int32) (v_foundOn : Nat → Int32), f_X6_isAhead_55 n k2 t0 x1 x2 v_a v_stands v_foundOn = some res → ∀ (H : Heap) (locs : List Loc) (ls : Array Slot), zW D (zT cI cZ cM) A s [(a_this, .inr (6, [.ref a_a, .ref a_fresh, .ref a_kept, .int v_keptMany, .int v_thrown, .ref a_buffer, .int v_buffered, .int v_size, .int v_at, .int v_behind, .int v_kind, .int v_wrong, .int v_wrongAt, .int v_errorAt, .long v_number, .ref a_best, .ref a_rentBy, .ref a_bareBy, .ref a_aheadBy, .ref a_isEdge, .ref a_tried, .ref a_stands, .ref a_found, .ref a_foundOn, .ref a_moving, .int v_movingMany, .int v_foundIncome, .int v_foundMoves])), (a_a, .inl (cI, 180, .inl v_a)), (a_stands, .inl (cI, 24, .inl v_stands)), (a_foundOn, .inl (cI, 24, .inl v_foundOn))] H locs → lv_has ls 4 [(0, .ref a_this), (1, .int x1), (2, .int x2)] → W p l e rmX6_isAhead s m args below meth c H locs 0 0 (MQ below (zQi D (zT cI cZ cM) res [(a_this, .inr (6, [.ref a_a, .ref a_fresh, .ref a_kept, .int v_keptMany, .int v_thrown, .ref a_buffer, .int v_buffered, .int v_size, .int v_at, .int v_behind, .int v_kind, .int v_wrong, .int v_wrongAt, .int v_errorAt, .long v_number, .ref a_best, .ref a_rentBy, .ref a_bareBy, .ref a_aheadBy, .ref a_isEdge, .ref a_tried, .ref a_stands, .ref a_found, .ref a_foundOn, .ref a_moving, .int v_movingMany, .int v_foundIncome, .int v_foundMoves])), (a_a, .inl (cI, 180, .inl v_a)), (a_stands, .inl (cI, 24, .inl v_stands)), (a_foundOn, .inl (cI, 24, .inl v_foundOn))] A) args s 0 0 A) (F0 m 55 ls [.int t0]) := by
  obtain ⟨⟨hx, hb, hml, hown, hts⟩, hr, hlocks⟩ := id E
  intro t0 x1 x2 v_a v_stands v_foundOn hf H locs ls hw hl
  unfold f_X6_isAhead_55 at hf
  refine lv_istore_n (lv' := [(3, .int t0), (0, .ref a_this), (1, .int x1), (2, .int x2)]) hx hb dX6_isAhead_55 rfl hl (z_lt rfl) rfl (fun ls hl => ?_)
  refine lv_iload_n hx hb dX6_isAhead_56 rfl (lv_at hl 3 rfl) ?_
  refine lv_iload_n hx hb dX6_isAhead_57 rfl (lv_at hl 0 rfl) ?_
  refine lv_icmp_eq (tgt := 72) hx hb dX6_isAhead_58 (by decide) (fun hc => ?_) (fun hc => ?_)
  · have hf := oI_pos hc hf
    refine lv_iinc (v := (x1 + (1 : Int32))) (lv' := [(1, .int (x1 + (1 : Int32))), (3, .int t0), (0, .ref a_this), (2, .int x2)]) hx hb dX6_isAhead_72 hl (k := 2) rfl rfl (z_lt rfl) rfl (fun ls hl => ?_)
    refine lv_goto (tgt := 2) hx hb dX6_isAhead_75 (by decide) ?_
    exact hk2 _ _ _ _ hf _ _ _ hw (lv_sub hl [2, 0] rfl)
  · have hf := oI_neg hc hf
    refine lv_iload_n hx hb dX6_isAhead_61 rfl (lv_at hl 3 rfl) ?_
    refine lv_iload_n hx hb dX6_isAhead_62 rfl (lv_at hl 0 rfl) ?_
    refine lv_icmp_ge (tgt := 70) hx hb dX6_isAhead_63 (by decide) (fun hc => ?_) (fun hc => ?_)
    · have hf := oI_pos hc hf
      refine lv_iconst (v := 0) hx hb dX6_isAhead_70 (by decide) ?_
      cases hf
      exact z_zret E rfl z_n0 hw dX6_isAhead_71
    · have hf := oI_neg hc hf
      refine lv_iconst (v := 1) hx hb dX6_isAhead_66 (by decide) ?_
      refine lv_goto (tgt := 71) hx hb dX6_isAhead_67 (by decide) ?_
      cases hf
      exact z_zret E rfl z_n1 hw dX6_isAhead_71
set_option maxHeartbeats 4000000 in
set_option maxRecDepth 100000 in
theorem w_X6_isAhead_33 {n : Nat} (E : zE p s m args meth c cX6_isAhead 4 (some .boolean) zwX6_isAhead RX6) {k2 : Int32 → (Nat → Int32) → (Nat → Int32) → (Nat → Int32) → Option (Int32)} (hk2 : ∀ (x1 : Int32) (v_a : Nat → Int32) (v_stands : Nat → Int32) (v_foundOn : Nat → Int32), k2 x1 v_a v_stands v_foundOn = some res → ∀ (H : Heap) (locs : List Loc) (ls : Array Slot), zW D (zT cI cZ cM) A s [(a_this, .inr (6, [.ref a_a, .ref a_fresh, .ref a_kept, .int v_keptMany, .int v_thrown, .ref a_buffer, .int v_buffered, .int v_size, .int v_at, .int v_behind, .int v_kind, .int v_wrong, .int v_wrongAt, .int v_errorAt, .long v_number, .ref a_best, .ref a_rentBy, .ref a_bareBy, .ref a_aheadBy, .ref a_isEdge, .ref a_tried, .ref a_stands, .ref a_found, .ref a_foundOn, .ref a_moving, .int v_movingMany, .int v_foundIncome, .int v_foundMoves])), (a_a, .inl (cI, 180, .inl v_a)), (a_stands, .inl (cI, 24, .inl v_stands)), (a_foundOn, .inl (cI, 24, .inl v_foundOn))] H locs → lv_has ls 4 [(0, .ref a_this), (1, .int x1)] → W p l e rmX6_isAhead s m args below meth c H locs 0 0 (MQ below (zQi D (zT cI cZ cM) res [(a_this, .inr (6, [.ref a_a, .ref a_fresh, .ref a_kept, .int v_keptMany, .int v_thrown, .ref a_buffer, .int v_buffered, .int v_size, .int v_at, .int v_behind, .int v_kind, .int v_wrong, .int v_wrongAt, .int v_errorAt, .long v_number, .ref a_best, .ref a_rentBy, .ref a_bareBy, .ref a_aheadBy, .ref a_isEdge, .ref a_tried, .ref a_stands, .ref a_found, .ref a_foundOn, .ref a_moving, .int v_movingMany, .int v_foundIncome, .int v_foundMoves])), (a_a, .inl (cI, 180, .inl v_a)), (a_stands, .inl (cI, 24, .inl v_stands)), (a_foundOn, .inl (cI, 24, .inl v_foundOn))] A) args s 0 0 A) (F0 m 2 ls [])) : ∀ (t0 : Int32) (x1 : Int32) (v_a : Nat → Int32) (v_stands : Nat → Int32) (v_foundOn : Nat → Int32), f_X6_isAhead_33 n k2 t0 x1 v_a v_stands v_foundOn = some res → ∀ (H : Heap) (locs : List Loc) (ls : Array Slot), zW D (zT cI cZ cM) A s [(a_this, .inr (6, [.ref a_a, .ref a_fresh, .ref a_kept, .int v_keptMany, .int v_thrown, .ref a_buffer, .int v_buffered, .int v_size, .int v_at, .int v_behind, .int v_kind, .int v_wrong, .int v_wrongAt, .int v_errorAt, .long v_number, .ref a_best, .ref a_rentBy, .ref a_bareBy, .ref a_aheadBy, .ref a_isEdge, .ref a_tried, .ref a_stands, .ref a_found, .ref a_foundOn, .ref a_moving, .int v_movingMany, .int v_foundIncome, .int v_foundMoves])), (a_a, .inl (cI, 180, .inl v_a)), (a_stands, .inl (cI, 24, .inl v_stands)), (a_foundOn, .inl (cI, 24, .inl v_foundOn))] H locs → lv_has ls 4 [(0, .ref a_this), (1, .int x1)] → W p l e rmX6_isAhead s m args below meth c H locs 0 0 (MQ below (zQi D (zT cI cZ cM) res [(a_this, .inr (6, [.ref a_a, .ref a_fresh, .ref a_kept, .int v_keptMany, .int v_thrown, .ref a_buffer, .int v_buffered, .int v_size, .int v_at, .int v_behind, .int v_kind, .int v_wrong, .int v_wrongAt, .int v_errorAt, .long v_number, .ref a_best, .ref a_rentBy, .ref a_bareBy, .ref a_aheadBy, .ref a_isEdge, .ref a_tried, .ref a_stands, .ref a_found, .ref a_foundOn, .ref a_moving, .int v_movingMany, .int v_foundIncome, .int v_foundMoves])), (a_a, .inl (cI, 180, .inl v_a)), (a_stands, .inl (cI, 24, .inl v_stands)), (a_foundOn, .inl (cI, 24, .inl v_foundOn))] A) args s 0 0 A) (F0 m 33 ls [.int t0]) := by
  obtain ⟨⟨hx, hb, hml, hown, hts⟩, hr, hlocks⟩ := id E
  intro t0 x1 v_a v_stands v_foundOn hf H locs ls hw hl
  unfold f_X6_isAhead_33 at hf
  refine lv_istore_n (lv' := [(2, .int t0), (0, .ref a_this), (1, .int x1)]) hx hb dX6_isAhead_33 rfl hl (z_lt rfl) rfl (fun ls hl => ?_)
  refine lv_aload_n hx hb dX6_isAhead_34 rfl (lv_at hl 1 rfl) ?_
  refine z_get E.1 hw in_wsX60 0 rfl rfl 23 (z_lt rfl) mw_708 (v := .ref a_foundOn) rfl dX6_isAhead_35 ?_
  refine lv_iload_n hx hb dX6_isAhead_38 rfl (lv_at hl 2 rfl) ?_
  obtain ⟨h_1, hf⟩ := oA_elim hf
  refine z_iald E.1 hw 3 0 rfl rfl h_1 dX6_isAhead_39 ?_
  refine lv_iconst (v := -1) hx hb dX6_isAhead_40 (by decide) ?_
  refine lv_icmp_ne (tgt := 49) hx hb dX6_isAhead_41 (by decide) (fun hc => ?_) (fun hc => ?_)
  · have hf := oI_neg hc hf
    refine lv_aload_n hx hb dX6_isAhead_49 rfl (lv_at hl 1 rfl) ?_
    refine z_get E.1 hw in_wsX60 0 rfl rfl 23 (z_lt rfl) mw_708 (v := .ref a_foundOn) rfl dX6_isAhead_50 ?_
    refine lv_iload_n hx hb dX6_isAhead_53 rfl (lv_at hl 2 rfl) ?_
    obtain ⟨h_2, hf⟩ := oA_elim hf
    refine z_iald E.1 hw 3 0 rfl rfl h_2 dX6_isAhead_54 ?_
    exact w_X6_isAhead_55 E hk2 _ _ _ _ _ _ hf _ _ _ hw (lv_sub hl [1, 2, 0] rfl)
  · have hf := oI_pos hc hf
    refine lv_bipush (v := 8) hx hb dX6_isAhead_44 (by decide) ?_
    refine lv_goto (tgt := 55) hx hb dX6_isAhead_46 (by decide) ?_
    exact w_X6_isAhead_55 E hk2 _ _ _ _ _ _ hf _ _ _ hw (lv_sub hl [1, 2, 0] rfl)
set_option maxHeartbeats 4000000 in
set_option maxRecDepth 100000 in
theorem w_X6_isAhead_2 {n : Nat} (E : zE p s m args meth c cX6_isAhead 4 (some .boolean) zwX6_isAhead RX6) : ∀ (fu : Nat), ∀ (x1 : Int32) (v_a : Nat → Int32) (v_stands : Nat → Int32) (v_foundOn : Nat → Int32), f_X6_isAhead_2 n fu x1 v_a v_stands v_foundOn = some res → ∀ (H : Heap) (locs : List Loc) (ls : Array Slot), zW D (zT cI cZ cM) A s [(a_this, .inr (6, [.ref a_a, .ref a_fresh, .ref a_kept, .int v_keptMany, .int v_thrown, .ref a_buffer, .int v_buffered, .int v_size, .int v_at, .int v_behind, .int v_kind, .int v_wrong, .int v_wrongAt, .int v_errorAt, .long v_number, .ref a_best, .ref a_rentBy, .ref a_bareBy, .ref a_aheadBy, .ref a_isEdge, .ref a_tried, .ref a_stands, .ref a_found, .ref a_foundOn, .ref a_moving, .int v_movingMany, .int v_foundIncome, .int v_foundMoves])), (a_a, .inl (cI, 180, .inl v_a)), (a_stands, .inl (cI, 24, .inl v_stands)), (a_foundOn, .inl (cI, 24, .inl v_foundOn))] H locs → lv_has ls 4 [(0, .ref a_this), (1, .int x1)] → W p l e rmX6_isAhead s m args below meth c H locs 0 0 (MQ below (zQi D (zT cI cZ cM) res [(a_this, .inr (6, [.ref a_a, .ref a_fresh, .ref a_kept, .int v_keptMany, .int v_thrown, .ref a_buffer, .int v_buffered, .int v_size, .int v_at, .int v_behind, .int v_kind, .int v_wrong, .int v_wrongAt, .int v_errorAt, .long v_number, .ref a_best, .ref a_rentBy, .ref a_bareBy, .ref a_aheadBy, .ref a_isEdge, .ref a_tried, .ref a_stands, .ref a_found, .ref a_foundOn, .ref a_moving, .int v_movingMany, .int v_foundIncome, .int v_foundMoves])), (a_a, .inl (cI, 180, .inl v_a)), (a_stands, .inl (cI, 24, .inl v_stands)), (a_foundOn, .inl (cI, 24, .inl v_foundOn))] A) args s 0 0 A) (F0 m 2 ls []) := by
  obtain ⟨⟨hx, hb, hml, hown, hts⟩, hr, hlocks⟩ := id E
  intro fu
  induction fu with
  | zero => intro x1 v_a v_stands v_foundOn hf; rw [f_X6_isAhead_2.eq_1] at hf; cases hf
  | succ fu ih =>
    intro x1 v_a v_stands v_foundOn hf H locs ls hw hl
    rw [f_X6_isAhead_2.eq_2] at hf
    refine lv_iload_n hx hb dX6_isAhead_2 rfl (lv_at hl 1 rfl) ?_
    refine lv_aload_n hx hb dX6_isAhead_3 rfl (lv_at hl 0 rfl) ?_
    refine z_get E.1 hw in_wsX60 0 rfl rfl 0 (z_lt rfl) mw_593 (v := .ref a_a) rfl dX6_isAhead_4 ?_
    refine lv_iconst (v := 1) hx hb dX6_isAhead_7 (by decide) ?_
    obtain ⟨h_3, hf⟩ := oA_elim hf
    refine z_iald E.1 hw 1 0 rfl rfl h_3 dX6_isAhead_8 ?_
    refine lv_icmp_ge (tgt := 78) hx hb dX6_isAhead_9 (by decide) (fun hc => ?_) (fun hc => ?_)
    · have hf := oI_pos hc hf
      refine lv_iconst (v := 0) hx hb dX6_isAhead_78 (by decide) ?_
      cases hf
      exact z_zret E rfl z_n0 hw dX6_isAhead_79
    · have hf := oI_neg hc hf
      refine lv_aload_n hx hb dX6_isAhead_12 rfl (lv_at hl 0 rfl) ?_
      refine z_get E.1 hw in_wsX60 0 rfl rfl 21 (z_lt rfl) mw_673 (v := .ref a_stands) rfl dX6_isAhead_13 ?_
      refine lv_iload_n hx hb dX6_isAhead_16 rfl (lv_at hl 1 rfl) ?_
      obtain ⟨h_4, hf⟩ := oA_elim hf
      refine z_iald E.1 hw 2 0 rfl rfl h_4 dX6_isAhead_17 ?_
      refine lv_iconst (v := -1) hx hb dX6_isAhead_18 (by decide) ?_
      refine lv_icmp_ne (tgt := 27) hx hb dX6_isAhead_19 (by decide) (fun hc => ?_) (fun hc => ?_)
      · have hf := oI_neg hc hf
        refine lv_aload_n hx hb dX6_isAhead_27 rfl (lv_at hl 0 rfl) ?_
        refine z_get E.1 hw in_wsX60 0 rfl rfl 21 (z_lt rfl) mw_673 (v := .ref a_stands) rfl dX6_isAhead_28 ?_
        refine lv_iload_n hx hb dX6_isAhead_31 rfl (lv_at hl 1 rfl) ?_
        obtain ⟨h_5, hf⟩ := oA_elim hf
        refine z_iald E.1 hw 2 0 rfl rfl h_5 dX6_isAhead_32 ?_
        exact w_X6_isAhead_33 E ih _ _ _ _ _ hf _ _ _ hw (lv_sub hl [0, 1] rfl)
      · have hf := oI_pos hc hf
        refine lv_bipush (v := 8) hx hb dX6_isAhead_22 (by decide) ?_
        refine lv_goto (tgt := 33) hx hb dX6_isAhead_24 (by decide) ?_
        exact w_X6_isAhead_33 E ih _ _ _ _ _ hf _ _ _ hw (lv_sub hl [0, 1] rfl)
set_option maxHeartbeats 4000000 in
set_option maxRecDepth 100000 in
theorem c_X6_isAhead {l : Launch} {D : va_G} {cI cZ cM : ClassId} {a_this a_a a_fresh a_kept a_buffer a_best a_rentBy a_bareBy a_aheadBy a_isEdge a_tried a_stands a_found a_foundOn a_moving : Nat} {v_keptMany : Int32} {v_thrown : Int32} {v_buffered : Int32} {v_size : Int32} {v_at : Int32} {v_behind : Int32} {v_kind : Int32} {v_wrong : Int32} {v_wrongAt : Int32} {v_errorAt : Int32} {v_number : Int64} {v_movingMany : Int32} {v_foundIncome : Int32} {v_foundMoves : Int32} {res : Int32} {sz : Nat} {n : Nat} {v_a : Nat → Int32} {v_stands : Nat → Int32} {v_foundOn : Nat → Int32} (hf : f_X6_isAhead n v_a v_stands v_foundOn = some res) : Met l yX6_isAhead zwX6_isAhead rmX6_isAhead (zPc D (zT cI cZ cM) [.ref a_this] [(a_this, .inr (6, [.ref a_a, .ref a_fresh, .ref a_kept, .int v_keptMany, .int v_thrown, .ref a_buffer, .int v_buffered, .int v_size, .int v_at, .int v_behind, .int v_kind, .int v_wrong, .int v_wrongAt, .int v_errorAt, .long v_number, .ref a_best, .ref a_rentBy, .ref a_bareBy, .ref a_aheadBy, .ref a_isEdge, .ref a_tried, .ref a_stands, .ref a_found, .ref a_foundOn, .ref a_moving, .int v_movingMany, .int v_foundIncome, .int v_foundMoves])), (a_a, .inl (cI, 180, .inl v_a)), (a_stands, .inl (cI, 24, .inl v_stands)), (a_foundOn, .inl (cI, 24, .inl v_foundOn))] sz) (zQi D (zT cI cZ cM) res [(a_this, .inr (6, [.ref a_a, .ref a_fresh, .ref a_kept, .int v_keptMany, .int v_thrown, .ref a_buffer, .int v_buffered, .int v_size, .int v_at, .int v_behind, .int v_kind, .int v_wrong, .int v_wrongAt, .int v_errorAt, .long v_number, .ref a_best, .ref a_rentBy, .ref a_bareBy, .ref a_aheadBy, .ref a_isEdge, .ref a_tried, .ref a_stands, .ref a_found, .ref a_foundOn, .ref a_moving, .int v_movingMany, .int v_foundIncome, .int v_foundMoves])), (a_a, .inl (cI, 180, .inl v_a)), (a_stands, .inl (cI, 24, .inl v_stands)), (a_foundOn, .inl (cI, 24, .inl v_foundOn))] (va_A [(a_this, .inr (6, [.ref a_a, .ref a_fresh, .ref a_kept, .int v_keptMany, .int v_thrown, .ref a_buffer, .int v_buffered, .int v_size, .int v_at, .int v_behind, .int v_kind, .int v_wrong, .int v_wrongAt, .int v_errorAt, .long v_number, .ref a_best, .ref a_rentBy, .ref a_bareBy, .ref a_aheadBy, .ref a_isEdge, .ref a_tried, .ref a_stands, .ref a_found, .ref a_foundOn, .ref a_moving, .int v_movingMany, .int v_foundIncome, .int v_foundMoves])), (a_a, .inl (cI, 180, .inl v_a)), (a_stands, .inl (cI, 24, .inl v_stands)), (a_foundOn, .inl (cI, 24, .inl v_foundOn))] sz)) 0 0 (va_A [(a_this, .inr (6, [.ref a_a, .ref a_fresh, .ref a_kept, .int v_keptMany, .int v_thrown, .ref a_buffer, .int v_buffered, .int v_size, .int v_at, .int v_behind, .int v_kind, .int v_wrong, .int v_wrongAt, .int v_errorAt, .long v_number, .ref a_best, .ref a_rentBy, .ref a_bareBy, .ref a_aheadBy, .ref a_isEdge, .ref a_tried, .ref a_stands, .ref a_found, .ref a_foundOn, .ref a_moving, .int v_movingMany, .int v_foundIncome, .int v_foundMoves])), (a_a, .inl (cI, 180, .inl v_a)), (a_stands, .inl (cI, 24, .inl v_stands)), (a_foundOn, .inl (cI, 24, .inl v_foundOn))] sz) := by
  refine z_met (cc := cX6_isAhead) (maxL := 4) (ret := (some .boolean)) (by decide) rfl (Nat.le_of_ble_eq_true rfl) ?_
  intro p e s m below meth c ls E hsz hw hl
  obtain ⟨⟨hx, hb, hml, hown, hts⟩, hr, hlocks⟩ := id E
  have hl : lv_has ls 4 [(0, .ref a_this)] := hl
  unfold f_X6_isAhead at hf
  refine lv_iconst (v := 0) hx hb dX6_isAhead_0 (by decide) ?_
  refine lv_istore_n (lv' := [(1, .int (0 : Int32)), (0, .ref a_this)]) hx hb dX6_isAhead_1 rfl hl (z_lt rfl) rfl (fun ls hl => ?_)
  exact w_X6_isAhead_2 E  n _ _ _ _ hf _ _ _ hw (lv_sub hl [1, 0] rfl)
end
/-! X6_compares -/
section
variable {p : Program} {l : Launch} {e : Env} {s : State} {m : MethodId} {args : Array Value} {below : List Frame} {meth : Method} {c : Code} {D : va_G} {A : Nat → Prop} {cI cZ cM : ClassId} {a_this a_a a_fresh a_kept a_buffer a_best a_rentBy a_bareBy a_aheadBy a_isEdge a_tried a_stands a_found a_foundOn a_moving : Nat} {v_keptMany : Int32} {v_thrown : Int32} {v_buffered : Int32} {v_size : Int32} {v_at : Int32} {v_behind : Int32} {v_kind : Int32} {v_wrong : Int32} {v_wrongAt : Int32} {v_errorAt : Int32} {v_number : Int64} {v_movingMany : Int32} {res : (Nat → Int32) × (Nat → Int32) × Int32 × Int32}
def rmX6_compares : Room := { frames := 2, cells := 0, slots := 0, locals := 48 }
abbrev zwX6_compares : List Cond := Cond.code yX6_compares cX6_compares 5 none :: wsAll
set_option maxHeartbeats 4000000 in
set_option maxRecDepth 100000 in
theorem w_X6_compares_199 {n : Nat} {v_a : Nat → Int32} {v_tried : Nat → Int32} (E : zE p s m args meth c cX6_compares 5 none zwX6_compares RX6) : ∀ (fu : Nat), ∀ (x4 : Int32) (v_stands : Nat → Int32) (v_found : Nat → Int32) (v_foundOn : Nat → Int32) (v_foundIncome : Int32) (v_foundMoves : Int32), f_X6_compares_199 n fu x4 v_stands v_found v_foundOn v_foundIncome v_foundMoves = some res → ∀ (H : Heap) (locs : List Loc) (ls : Array Slot), zW D (zT cI cZ cM) A s [(a_this, .inr (6, [.ref a_a, .ref a_fresh, .ref a_kept, .int v_keptMany, .int v_thrown, .ref a_buffer, .int v_buffered, .int v_size, .int v_at, .int v_behind, .int v_kind, .int v_wrong, .int v_wrongAt, .int v_errorAt, .long v_number, .ref a_best, .ref a_rentBy, .ref a_bareBy, .ref a_aheadBy, .ref a_isEdge, .ref a_tried, .ref a_stands, .ref a_found, .ref a_foundOn, .ref a_moving, .int v_movingMany, .int v_foundIncome, .int v_foundMoves])), (a_a, .inl (cI, 180, .inl v_a)), (a_tried, .inl (cI, 8, .inl v_tried)), (a_stands, .inl (cI, 24, .inl v_stands)), (a_found, .inl (cI, 8, .inl v_found)), (a_foundOn, .inl (cI, 24, .inl v_foundOn))] H locs → lv_has ls 5 [(0, .ref a_this), (4, .int x4)] → W p l e rmX6_compares s m args below meth c H locs 0 0 (MQ below (zQv D (zT cI cZ cM) [(a_this, .inr (6, [.ref a_a, .ref a_fresh, .ref a_kept, .int v_keptMany, .int v_thrown, .ref a_buffer, .int v_buffered, .int v_size, .int v_at, .int v_behind, .int v_kind, .int v_wrong, .int v_wrongAt, .int v_errorAt, .long v_number, .ref a_best, .ref a_rentBy, .ref a_bareBy, .ref a_aheadBy, .ref a_isEdge, .ref a_tried, .ref a_stands, .ref a_found, .ref a_foundOn, .ref a_moving, .int v_movingMany, .int res.2.2.1, .int res.2.2.2])), (a_a, .inl (cI, 180, .inl v_a)), (a_tried, .inl (cI, 8, .inl v_tried)), (a_stands, .inl (cI, 24, .inl v_stands)), (a_found, .inl (cI, 8, .inl res.1)), (a_foundOn, .inl (cI, 24, .inl res.2.1))] A) args s 0 0 A) (F0 m 199 ls []) := by
  obtain ⟨⟨hx, hb, hml, hown, hts⟩, hr, hlocks⟩ := id E
  intro fu
  induction fu with
  | zero => intro x4 v_stands v_found v_foundOn v_foundIncome v_foundMoves hf; rw [f_X6_compares_199.eq_1] at hf; cases hf
  | succ fu ih =>
    intro x4 v_stands v_found v_foundOn v_foundIncome v_foundMoves hf H locs ls hw hl
    rw [f_X6_compares_199.eq_2] at hf
    refine lv_iload hx hb dX6_compares_199 (lv_at hl 1 rfl) ?_
    refine lv_bipush (v := 24) hx hb dX6_compares_201 (by decide) ?_
    refine lv_icmp_ge (tgt := 226) hx hb dX6_compares_203 (by decide) (fun hc => ?_) (fun hc => ?_)
    · have hf := oI_pos hc hf
      cases hf
      exact z_vret E rfl hw dX6_compares_226
    · have hf := oI_neg hc hf
      refine lv_aload_n hx hb dX6_compares_206 rfl (lv_at hl 0 rfl) ?_
      refine z_get E.1 hw in_wsX60 0 rfl rfl 23 (z_lt rfl) mw_708 (v := .ref a_foundOn) rfl dX6_compares_207 ?_
      refine lv_iload hx hb dX6_compares_210 (lv_at hl 1 rfl) ?_
      refine lv_aload_n hx hb dX6_compares_212 rfl (lv_at hl 0 rfl) ?_
      refine z_get E.1 hw in_wsX60 0 rfl rfl 21 (z_lt rfl) mw_673 (v := .ref a_stands) rfl dX6_compares_213 ?_
      refine lv_iload hx hb dX6_compares_216 (lv_at hl 1 rfl) ?_
      obtain ⟨h_1, hf⟩ := oA_elim hf
      refine z_iald E.1 hw 3 0 rfl rfl h_1 dX6_compares_218 ?_
      obtain ⟨h_2, hf⟩ := oA_elim hf
      obtain ⟨v_3, e_v_3, hf⟩ := oL_elim hf
      refine z_iast (ws' := [(a_this, .inr (6, [.ref a_a, .ref a_fresh, .ref a_kept, .int v_keptMany, .int v_thrown, .ref a_buffer, .int v_buffered, .int v_size, .int v_at, .int v_behind, .int v_kind, .int v_wrong, .int v_wrongAt, .int v_errorAt, .long v_number, .ref a_best, .ref a_rentBy, .ref a_bareBy, .ref a_aheadBy, .ref a_isEdge, .ref a_tried, .ref a_stands, .ref a_found, .ref a_foundOn, .ref a_moving, .int v_movingMany, .int v_foundIncome, .int v_foundMoves])), (a_a, .inl (cI, 180, .inl v_a)), (a_tried, .inl (cI, 8, .inl v_tried)), (a_stands, .inl (cI, 24, .inl v_stands)), (a_found, .inl (cI, 8, .inl v_found)), (a_foundOn, .inl (cI, 24, .inl v_3))]) E.1 hw 5 0 rfl rfl h_2 (by subst e_v_3; rfl) dX6_compares_219 (fun H locs hw => ?_)
      refine lv_iinc (v := (x4 + (1 : Int32))) (lv' := [(4, .int (x4 + (1 : Int32))), (0, .ref a_this)]) hx hb dX6_compares_220 hl (k := 1) rfl rfl (z_lt rfl) rfl (fun ls hl => ?_)
      refine lv_goto (tgt := 199) hx hb dX6_compares_223 (by decide) ?_
      exact ih _ _ _ _ _ _ hf _ _ _ hw (lv_sub hl [1, 0] rfl)
set_option maxHeartbeats 4000000 in
set_option maxRecDepth 100000 in
theorem w_X6_compares_169 {n : Nat} {v_a : Nat → Int32} (E : zE p s m args meth c cX6_compares 5 none zwX6_compares RX6) : ∀ (fu : Nat), ∀ (x4 : Int32) (v_tried : Nat → Int32) (v_stands : Nat → Int32) (v_found : Nat → Int32) (v_foundOn : Nat → Int32) (v_foundIncome : Int32) (v_foundMoves : Int32), f_X6_compares_169 n fu x4 v_tried v_stands v_found v_foundOn v_foundIncome v_foundMoves = some res → ∀ (H : Heap) (locs : List Loc) (ls : Array Slot), zW D (zT cI cZ cM) A s [(a_this, .inr (6, [.ref a_a, .ref a_fresh, .ref a_kept, .int v_keptMany, .int v_thrown, .ref a_buffer, .int v_buffered, .int v_size, .int v_at, .int v_behind, .int v_kind, .int v_wrong, .int v_wrongAt, .int v_errorAt, .long v_number, .ref a_best, .ref a_rentBy, .ref a_bareBy, .ref a_aheadBy, .ref a_isEdge, .ref a_tried, .ref a_stands, .ref a_found, .ref a_foundOn, .ref a_moving, .int v_movingMany, .int v_foundIncome, .int v_foundMoves])), (a_a, .inl (cI, 180, .inl v_a)), (a_tried, .inl (cI, 8, .inl v_tried)), (a_stands, .inl (cI, 24, .inl v_stands)), (a_found, .inl (cI, 8, .inl v_found)), (a_foundOn, .inl (cI, 24, .inl v_foundOn))] H locs → lv_has ls 5 [(0, .ref a_this), (4, .int x4)] → W p l e rmX6_compares s m args below meth c H locs 0 0 (MQ below (zQv D (zT cI cZ cM) [(a_this, .inr (6, [.ref a_a, .ref a_fresh, .ref a_kept, .int v_keptMany, .int v_thrown, .ref a_buffer, .int v_buffered, .int v_size, .int v_at, .int v_behind, .int v_kind, .int v_wrong, .int v_wrongAt, .int v_errorAt, .long v_number, .ref a_best, .ref a_rentBy, .ref a_bareBy, .ref a_aheadBy, .ref a_isEdge, .ref a_tried, .ref a_stands, .ref a_found, .ref a_foundOn, .ref a_moving, .int v_movingMany, .int res.2.2.1, .int res.2.2.2])), (a_a, .inl (cI, 180, .inl v_a)), (a_tried, .inl (cI, 8, .inl v_tried)), (a_stands, .inl (cI, 24, .inl v_stands)), (a_found, .inl (cI, 8, .inl res.1)), (a_foundOn, .inl (cI, 24, .inl res.2.1))] A) args s 0 0 A) (F0 m 169 ls []) := by
  obtain ⟨⟨hx, hb, hml, hown, hts⟩, hr, hlocks⟩ := id E
  intro fu
  induction fu with
  | zero => intro x4 v_tried v_stands v_found v_foundOn v_foundIncome v_foundMoves hf; rw [f_X6_compares_169.eq_1] at hf; cases hf
  | succ fu ih =>
    intro x4 v_tried v_stands v_found v_foundOn v_foundIncome v_foundMoves hf H locs ls hw hl
    rw [f_X6_compares_169.eq_2] at hf
    refine lv_iload hx hb dX6_compares_169 (lv_at hl 1 rfl) ?_
    refine lv_bipush (v := 8) hx hb dX6_compares_171 (by decide) ?_
    refine lv_icmp_ge (tgt := 196) hx hb dX6_compares_173 (by decide) (fun hc => ?_) (fun hc => ?_)
    · have hf := oI_pos hc hf
      refine lv_iconst (v := 0) hx hb dX6_compares_196 (by decide) ?_
      refine lv_istore (lv' := [(4, .int (0 : Int32)), (0, .ref a_this)]) hx hb dX6_compares_197 hl (z_lt rfl) rfl (fun ls hl => ?_)
      exact w_X6_compares_199 E  n _ _ _ _ _ _ hf _ _ _ hw (lv_sub hl [1, 0] rfl)
    · have hf := oI_neg hc hf
      refine lv_aload_n hx hb dX6_compares_176 rfl (lv_at hl 0 rfl) ?_
      refine z_get E.1 hw in_wsX60 0 rfl rfl 22 (z_lt rfl) mw_707 (v := .ref a_found) rfl dX6_compares_177 ?_
      refine lv_iload hx hb dX6_compares_180 (lv_at hl 1 rfl) ?_
      refine lv_aload_n hx hb dX6_compares_182 rfl (lv_at hl 0 rfl) ?_
      refine z_get E.1 hw in_wsX60 0 rfl rfl 20 (z_lt rfl) mw_674 (v := .ref a_tried) rfl dX6_compares_183 ?_
      refine lv_iload hx hb dX6_compares_186 (lv_at hl 1 rfl) ?_
      obtain ⟨h_4, hf⟩ := oA_elim hf
      refine z_iald E.1 hw 2 0 rfl rfl h_4 dX6_compares_188 ?_
      obtain ⟨h_5, hf⟩ := oA_elim hf
      obtain ⟨v_6, e_v_6, hf⟩ := oL_elim hf
      refine z_iast (ws' := [(a_this, .inr (6, [.ref a_a, .ref a_fresh, .ref a_kept, .int v_keptMany, .int v_thrown, .ref a_buffer, .int v_buffered, .int v_size, .int v_at, .int v_behind, .int v_kind, .int v_wrong, .int v_wrongAt, .int v_errorAt, .long v_number, .ref a_best, .ref a_rentBy, .ref a_bareBy, .ref a_aheadBy, .ref a_isEdge, .ref a_tried, .ref a_stands, .ref a_found, .ref a_foundOn, .ref a_moving, .int v_movingMany, .int v_foundIncome, .int v_foundMoves])), (a_a, .inl (cI, 180, .inl v_a)), (a_tried, .inl (cI, 8, .inl v_tried)), (a_stands, .inl (cI, 24, .inl v_stands)), (a_found, .inl (cI, 8, .inl v_6)), (a_foundOn, .inl (cI, 24, .inl v_foundOn))]) E.1 hw 4 0 rfl rfl h_5 (by subst e_v_6; rfl) dX6_compares_189 (fun H locs hw => ?_)
      refine lv_iinc (v := (x4 + (1 : Int32))) (lv' := [(4, .int (x4 + (1 : Int32))), (0, .ref a_this)]) hx hb dX6_compares_190 hl (k := 1) rfl rfl (z_lt rfl) rfl (fun ls hl => ?_)
      refine lv_goto (tgt := 169) hx hb dX6_compares_193 (by decide) ?_
      exact ih _ _ _ _ _ _ _ hf _ _ _ hw (lv_sub hl [1, 0] rfl)
set_option maxHeartbeats 4000000 in
set_option maxRecDepth 100000 in
theorem w_X6_compares_156 {n : Nat} {v_a : Nat → Int32} (E : zE p s m args meth c cX6_compares 5 none zwX6_compares RX6) : ∀ (x1 : Int32) (x2 : Int32) (v_tried : Nat → Int32) (v_stands : Nat → Int32) (v_found : Nat → Int32) (v_foundOn : Nat → Int32) (v_foundIncome : Int32) (v_foundMoves : Int32), f_X6_compares_156 n x1 x2 v_tried v_stands v_found v_foundOn v_foundIncome v_foundMoves = some res → ∀ (H : Heap) (locs : List Loc) (ls : Array Slot), zW D (zT cI cZ cM) A s [(a_this, .inr (6, [.ref a_a, .ref a_fresh, .ref a_kept, .int v_keptMany, .int v_thrown, .ref a_buffer, .int v_buffered, .int v_size, .int v_at, .int v_behind, .int v_kind, .int v_wrong, .int v_wrongAt, .int v_errorAt, .long v_number, .ref a_best, .ref a_rentBy, .ref a_bareBy, .ref a_aheadBy, .ref a_isEdge, .ref a_tried, .ref a_stands, .ref a_found, .ref a_foundOn, .ref a_moving, .int v_movingMany, .int v_foundIncome, .int v_foundMoves])), (a_a, .inl (cI, 180, .inl v_a)), (a_tried, .inl (cI, 8, .inl v_tried)), (a_stands, .inl (cI, 24, .inl v_stands)), (a_found, .inl (cI, 8, .inl v_found)), (a_foundOn, .inl (cI, 24, .inl v_foundOn))] H locs → lv_has ls 5 [(0, .ref a_this), (1, .int x1), (2, .int x2)] → W p l e rmX6_compares s m args below meth c H locs 0 0 (MQ below (zQv D (zT cI cZ cM) [(a_this, .inr (6, [.ref a_a, .ref a_fresh, .ref a_kept, .int v_keptMany, .int v_thrown, .ref a_buffer, .int v_buffered, .int v_size, .int v_at, .int v_behind, .int v_kind, .int v_wrong, .int v_wrongAt, .int v_errorAt, .long v_number, .ref a_best, .ref a_rentBy, .ref a_bareBy, .ref a_aheadBy, .ref a_isEdge, .ref a_tried, .ref a_stands, .ref a_found, .ref a_foundOn, .ref a_moving, .int v_movingMany, .int res.2.2.1, .int res.2.2.2])), (a_a, .inl (cI, 180, .inl v_a)), (a_tried, .inl (cI, 8, .inl v_tried)), (a_stands, .inl (cI, 24, .inl v_stands)), (a_found, .inl (cI, 8, .inl res.1)), (a_foundOn, .inl (cI, 24, .inl res.2.1))] A) args s 0 0 A) (F0 m 156 ls []) := by
  obtain ⟨⟨hx, hb, hml, hown, hts⟩, hr, hlocks⟩ := id E
  intro x1 x2 v_tried v_stands v_found v_foundOn v_foundIncome v_foundMoves hf H locs ls hw hl
  unfold f_X6_compares_156 at hf
  refine lv_aload_n hx hb dX6_compares_156 rfl (lv_at hl 0 rfl) ?_
  refine lv_iload_n hx hb dX6_compares_157 rfl (lv_at hl 1 rfl) ?_
  refine z_put (ws' := [(a_this, .inr (6, [.ref a_a, .ref a_fresh, .ref a_kept, .int v_keptMany, .int v_thrown, .ref a_buffer, .int v_buffered, .int v_size, .int v_at, .int v_behind, .int v_kind, .int v_wrong, .int v_wrongAt, .int v_errorAt, .long v_number, .ref a_best, .ref a_rentBy, .ref a_bareBy, .ref a_aheadBy, .ref a_isEdge, .ref a_tried, .ref a_stands, .ref a_found, .ref a_foundOn, .ref a_moving, .int v_movingMany, .int x1, .int v_foundMoves])), (a_a, .inl (cI, 180, .inl v_a)), (a_tried, .inl (cI, 8, .inl v_tried)), (a_stands, .inl (cI, 24, .inl v_stands)), (a_found, .inl (cI, 8, .inl v_found)), (a_foundOn, .inl (cI, 24, .inl v_foundOn))]) E.1 hw in_wsX60 tyX6 tyX6_ok nmX6 0 rfl rfl 26 (z_lt rfl) mw_705 rfl rfl rfl (z_lt rfl) rfl dX6_compares_158 (fun H locs hw => ?_)
  refine lv_aload_n hx hb dX6_compares_161 rfl (lv_at hl 0 rfl) ?_
  refine lv_iload_n hx hb dX6_compares_162 rfl (lv_at hl 2 rfl) ?_
  refine z_put (ws' := [(a_this, .inr (6, [.ref a_a, .ref a_fresh, .ref a_kept, .int v_keptMany, .int v_thrown, .ref a_buffer, .int v_buffered, .int v_size, .int v_at, .int v_behind, .int v_kind, .int v_wrong, .int v_wrongAt, .int v_errorAt, .long v_number, .ref a_best, .ref a_rentBy, .ref a_bareBy, .ref a_aheadBy, .ref a_isEdge, .ref a_tried, .ref a_stands, .ref a_found, .ref a_foundOn, .ref a_moving, .int v_movingMany, .int x1, .int x2])), (a_a, .inl (cI, 180, .inl v_a)), (a_tried, .inl (cI, 8, .inl v_tried)), (a_stands, .inl (cI, 24, .inl v_stands)), (a_found, .inl (cI, 8, .inl v_found)), (a_foundOn, .inl (cI, 24, .inl v_foundOn))]) E.1 hw in_wsX60 tyX6 tyX6_ok nmX6 0 rfl rfl 27 (z_lt rfl) mw_706 rfl rfl rfl (z_lt rfl) rfl dX6_compares_163 (fun H locs hw => ?_)
  refine lv_iconst (v := 0) hx hb dX6_compares_166 (by decide) ?_
  refine lv_istore (lv' := [(4, .int (0 : Int32)), (0, .ref a_this), (1, .int x1), (2, .int x2)]) hx hb dX6_compares_167 hl (z_lt rfl) rfl (fun ls hl => ?_)
  exact w_X6_compares_169 E  n _ _ _ _ _ _ _ hf _ _ _ hw (lv_sub hl [1, 0] rfl)
set_option maxHeartbeats 4000000 in
set_option maxRecDepth 100000 in
theorem w_X6_compares_142 {n : Nat} {v_a : Nat → Int32} (E : zE p s m args meth c cX6_compares 5 none zwX6_compares RX6) : ∀ (t0 : Int32) (x1 : Int32) (x2 : Int32) (v_tried : Nat → Int32) (v_stands : Nat → Int32) (v_found : Nat → Int32) (v_foundOn : Nat → Int32) (v_foundIncome : Int32) (v_foundMoves : Int32), f_X6_compares_142 n t0 x1 x2 v_tried v_stands v_found v_foundOn v_foundIncome v_foundMoves = some res → ∀ (H : Heap) (locs : List Loc) (ls : Array Slot), zW D (zT cI cZ cM) A s [(a_this, .inr (6, [.ref a_a, .ref a_fresh, .ref a_kept, .int v_keptMany, .int v_thrown, .ref a_buffer, .int v_buffered, .int v_size, .int v_at, .int v_behind, .int v_kind, .int v_wrong, .int v_wrongAt, .int v_errorAt, .long v_number, .ref a_best, .ref a_rentBy, .ref a_bareBy, .ref a_aheadBy, .ref a_isEdge, .ref a_tried, .ref a_stands, .ref a_found, .ref a_foundOn, .ref a_moving, .int v_movingMany, .int v_foundIncome, .int v_foundMoves])), (a_a, .inl (cI, 180, .inl v_a)), (a_tried, .inl (cI, 8, .inl v_tried)), (a_stands, .inl (cI, 24, .inl v_stands)), (a_found, .inl (cI, 8, .inl v_found)), (a_foundOn, .inl (cI, 24, .inl v_foundOn))] H locs → lv_has ls 5 [(0, .ref a_this), (1, .int x1), (2, .int x2)] → W p l e rmX6_compares s m args below meth c H locs 0 0 (MQ below (zQv D (zT cI cZ cM) [(a_this, .inr (6, [.ref a_a, .ref a_fresh, .ref a_kept, .int v_keptMany, .int v_thrown, .ref a_buffer, .int v_buffered, .int v_size, .int v_at, .int v_behind, .int v_kind, .int v_wrong, .int v_wrongAt, .int v_errorAt, .long v_number, .ref a_best, .ref a_rentBy, .ref a_bareBy, .ref a_aheadBy, .ref a_isEdge, .ref a_tried, .ref a_stands, .ref a_found, .ref a_foundOn, .ref a_moving, .int v_movingMany, .int res.2.2.1, .int res.2.2.2])), (a_a, .inl (cI, 180, .inl v_a)), (a_tried, .inl (cI, 8, .inl v_tried)), (a_stands, .inl (cI, 24, .inl v_stands)), (a_found, .inl (cI, 8, .inl res.1)), (a_foundOn, .inl (cI, 24, .inl res.2.1))] A) args s 0 0 A) (F0 m 142 ls [.int t0]) := by
  obtain ⟨⟨hx, hb, hml, hown, hts⟩, hr, hlocks⟩ := id E
  intro t0 x1 x2 v_tried v_stands v_found v_foundOn v_foundIncome v_foundMoves hf H locs ls hw hl
  unfold f_X6_compares_142 at hf
  refine lv_istore_n (lv' := [(3, .int t0), (0, .ref a_this), (1, .int x1), (2, .int x2)]) hx hb dX6_compares_142 rfl hl (z_lt rfl) rfl (fun ls hl => ?_)
  refine lv_aload_n hx hb dX6_compares_143 rfl (lv_at hl 1 rfl) ?_
  refine z_get E.1 hw in_wsX60 0 rfl rfl 26 (z_lt rfl) mw_705 (v := .int v_foundIncome) rfl dX6_compares_144 ?_
  refine lv_iconst (v := -1) hx hb dX6_compares_147 (by decide) ?_
  refine lv_icmp_eq (tgt := 156) hx hb dX6_compares_148 (by decide) (fun hc => ?_) (fun hc => ?_)
  · have hf := oI_pos hc hf
    exact w_X6_compares_156 E  _ _ _ _ _ _ _ _ hf _ _ _ hw (lv_sub hl [1, 2, 3] rfl)
  · have hf := oI_neg hc hf
    refine lv_iload_n hx hb dX6_compares_151 rfl (lv_at hl 0 rfl) ?_
    refine lv_if_eq (tgt := 156) hx hb dX6_compares_152 (by decide) (fun hc => ?_) (fun hc => ?_)
    · have hf := oI_pos hc hf
      exact w_X6_compares_156 E  _ _ _ _ _ _ _ _ hf _ _ _ hw (lv_sub hl [1, 2, 3] rfl)
    · have hf := oI_neg hc hf
      cases hf
      exact z_vret E rfl hw dX6_compares_155
set_option maxHeartbeats 4000000 in
set_option maxRecDepth 100000 in
theorem w_X6_compares_141 {n : Nat} {v_a : Nat → Int32} (E : zE p s m args meth c cX6_compares 5 none zwX6_compares RX6) : ∀ (x1 : Int32) (x2 : Int32) (v_tried : Nat → Int32) (v_stands : Nat → Int32) (v_found : Nat → Int32) (v_foundOn : Nat → Int32) (v_foundIncome : Int32) (v_foundMoves : Int32), f_X6_compares_141 n x1 x2 v_tried v_stands v_found v_foundOn v_foundIncome v_foundMoves = some res → ∀ (H : Heap) (locs : List Loc) (ls : Array Slot), zW D (zT cI cZ cM) A s [(a_this, .inr (6, [.ref a_a, .ref a_fresh, .ref a_kept, .int v_keptMany, .int v_thrown, .ref a_buffer, .int v_buffered, .int v_size, .int v_at, .int v_behind, .int v_kind, .int v_wrong, .int v_wrongAt, .int v_errorAt, .long v_number, .ref a_best, .ref a_rentBy, .ref a_bareBy, .ref a_aheadBy, .ref a_isEdge, .ref a_tried, .ref a_stands, .ref a_found, .ref a_foundOn, .ref a_moving, .int v_movingMany, .int v_foundIncome, .int v_foundMoves])), (a_a, .inl (cI, 180, .inl v_a)), (a_tried, .inl (cI, 8, .inl v_tried)), (a_stands, .inl (cI, 24, .inl v_stands)), (a_found, .inl (cI, 8, .inl v_found)), (a_foundOn, .inl (cI, 24, .inl v_foundOn))] H locs → lv_has ls 5 [(0, .ref a_this), (1, .int x1), (2, .int x2)] → W p l e rmX6_compares s m args below meth c H locs 0 0 (MQ below (zQv D (zT cI cZ cM) [(a_this, .inr (6, [.ref a_a, .ref a_fresh, .ref a_kept, .int v_keptMany, .int v_thrown, .ref a_buffer, .int v_buffered, .int v_size, .int v_at, .int v_behind, .int v_kind, .int v_wrong, .int v_wrongAt, .int v_errorAt, .long v_number, .ref a_best, .ref a_rentBy, .ref a_bareBy, .ref a_aheadBy, .ref a_isEdge, .ref a_tried, .ref a_stands, .ref a_found, .ref a_foundOn, .ref a_moving, .int v_movingMany, .int res.2.2.1, .int res.2.2.2])), (a_a, .inl (cI, 180, .inl v_a)), (a_tried, .inl (cI, 8, .inl v_tried)), (a_stands, .inl (cI, 24, .inl v_stands)), (a_found, .inl (cI, 8, .inl res.1)), (a_foundOn, .inl (cI, 24, .inl res.2.1))] A) args s 0 0 A) (F0 m 141 ls []) := by
  obtain ⟨⟨hx, hb, hml, hown, hts⟩, hr, hlocks⟩ := id E
  intro x1 x2 v_tried v_stands v_found v_foundOn v_foundIncome v_foundMoves hf H locs ls hw hl
  unfold f_X6_compares_141 at hf
  refine lv_iconst (v := 0) hx hb dX6_compares_141 (by decide) ?_
  exact w_X6_compares_142 E  _ _ _ _ _ _ _ _ _ hf _ _ _ hw (lv_sub hl [0, 1, 2] rfl)
set_option maxHeartbeats 4000000 in
set_option maxRecDepth 100000 in
theorem w_X6_compares_137 {n : Nat} {v_a : Nat → Int32} (E : zE p s m args meth c cX6_compares 5 none zwX6_compares RX6) : ∀ (x1 : Int32) (x2 : Int32) (v_tried : Nat → Int32) (v_stands : Nat → Int32) (v_found : Nat → Int32) (v_foundOn : Nat → Int32) (v_foundIncome : Int32) (v_foundMoves : Int32), f_X6_compares_137 n x1 x2 v_tried v_stands v_found v_foundOn v_foundIncome v_foundMoves = some res → ∀ (H : Heap) (locs : List Loc) (ls : Array Slot), zW D (zT cI cZ cM) A s [(a_this, .inr (6, [.ref a_a, .ref a_fresh, .ref a_kept, .int v_keptMany, .int v_thrown, .ref a_buffer, .int v_buffered, .int v_size, .int v_at, .int v_behind, .int v_kind, .int v_wrong, .int v_wrongAt, .int v_errorAt, .long v_number, .ref a_best, .ref a_rentBy, .ref a_bareBy, .ref a_aheadBy, .ref a_isEdge, .ref a_tried, .ref a_stands, .ref a_found, .ref a_foundOn, .ref a_moving, .int v_movingMany, .int v_foundIncome, .int v_foundMoves])), (a_a, .inl (cI, 180, .inl v_a)), (a_tried, .inl (cI, 8, .inl v_tried)), (a_stands, .inl (cI, 24, .inl v_stands)), (a_found, .inl (cI, 8, .inl v_found)), (a_foundOn, .inl (cI, 24, .inl v_foundOn))] H locs → lv_has ls 5 [(0, .ref a_this), (1, .int x1), (2, .int x2)] → W p l e rmX6_compares s m args below meth c H locs 0 0 (MQ below (zQv D (zT cI cZ cM) [(a_this, .inr (6, [.ref a_a, .ref a_fresh, .ref a_kept, .int v_keptMany, .int v_thrown, .ref a_buffer, .int v_buffered, .int v_size, .int v_at, .int v_behind, .int v_kind, .int v_wrong, .int v_wrongAt, .int v_errorAt, .long v_number, .ref a_best, .ref a_rentBy, .ref a_bareBy, .ref a_aheadBy, .ref a_isEdge, .ref a_tried, .ref a_stands, .ref a_found, .ref a_foundOn, .ref a_moving, .int v_movingMany, .int res.2.2.1, .int res.2.2.2])), (a_a, .inl (cI, 180, .inl v_a)), (a_tried, .inl (cI, 8, .inl v_tried)), (a_stands, .inl (cI, 24, .inl v_stands)), (a_found, .inl (cI, 8, .inl res.1)), (a_foundOn, .inl (cI, 24, .inl res.2.1))] A) args s 0 0 A) (F0 m 137 ls []) := by
  obtain ⟨⟨hx, hb, hml, hown, hts⟩, hr, hlocks⟩ := id E
  intro x1 x2 v_tried v_stands v_found v_foundOn v_foundIncome v_foundMoves hf H locs ls hw hl
  unfold f_X6_compares_137 at hf
  refine lv_iconst (v := 1) hx hb dX6_compares_137 (by decide) ?_
  refine lv_goto (tgt := 142) hx hb dX6_compares_138 (by decide) ?_
  exact w_X6_compares_142 E  _ _ _ _ _ _ _ _ _ hf _ _ _ hw (lv_sub hl [0, 1, 2] rfl)
set_option maxHeartbeats 4000000 in
set_option maxRecDepth 100000 in
theorem w_X6_compares_90 {n : Nat} (E : zE p s m args meth c cX6_compares 5 none zwX6_compares RX6) {k14 : Int32 → Int32 → Int32 → (Nat → Int32) → (Nat → Int32) → (Nat → Int32) → (Nat → Int32) → (Nat → Int32) → Int32 → Int32 → Option ((Nat → Int32) × (Nat → Int32) × Int32 × Int32)} (hk14 : ∀ (x1 : Int32) (x2 : Int32) (x3 : Int32) (v_a : Nat → Int32) (v_tried : Nat → Int32) (v_stands : Nat → Int32) (v_found : Nat → Int32) (v_foundOn : Nat → Int32) (v_foundIncome : Int32) (v_foundMoves : Int32), k14 x1 x2 x3 v_a v_tried v_stands v_found v_foundOn v_foundIncome v_foundMoves = some res → ∀ (H : Heap) (locs : List Loc) (ls : Array Slot), zW D (zT cI cZ cM) A s [(a_this, .inr (6, [.ref a_a, .ref a_fresh, .ref a_kept, .int v_keptMany, .int v_thrown, .ref a_buffer, .int v_buffered, .int v_size, .int v_at, .int v_behind, .int v_kind, .int v_wrong, .int v_wrongAt, .int v_errorAt, .long v_number, .ref a_best, .ref a_rentBy, .ref a_bareBy, .ref a_aheadBy, .ref a_isEdge, .ref a_tried, .ref a_stands, .ref a_found, .ref a_foundOn, .ref a_moving, .int v_movingMany, .int v_foundIncome, .int v_foundMoves])), (a_a, .inl (cI, 180, .inl v_a)), (a_tried, .inl (cI, 8, .inl v_tried)), (a_stands, .inl (cI, 24, .inl v_stands)), (a_found, .inl (cI, 8, .inl v_found)), (a_foundOn, .inl (cI, 24, .inl v_foundOn))] H locs → lv_has ls 5 [(0, .ref a_this), (1, .int x1), (2, .int x2), (3, .int x3)] → W p l e rmX6_compares s m args below meth c H locs 0 0 (MQ below (zQv D (zT cI cZ cM) [(a_this, .inr (6, [.ref a_a, .ref a_fresh, .ref a_kept, .int v_keptMany, .int v_thrown, .ref a_buffer, .int v_buffered, .int v_size, .int v_at, .int v_behind, .int v_kind, .int v_wrong, .int v_wrongAt, .int v_errorAt, .long v_number, .ref a_best, .ref a_rentBy, .ref a_bareBy, .ref a_aheadBy, .ref a_isEdge, .ref a_tried, .ref a_stands, .ref a_found, .ref a_foundOn, .ref a_moving, .int v_movingMany, .int res.2.2.1, .int res.2.2.2])), (a_a, .inl (cI, 180, .inl v_a)), (a_tried, .inl (cI, 8, .inl v_tried)), (a_stands, .inl (cI, 24, .inl v_stands)), (a_found, .inl (cI, 8, .inl res.1)), (a_foundOn, .inl (cI, 24, .inl res.2.1))] A) args s 0 0 A) (F0 m 14 ls [])) : ∀ (t0 : Int32) (t1 : Int32) (x1 : Int32) (x3 : Int32) (v_a : Nat → Int32) (v_tried : Nat → Int32) (v_stands : Nat → Int32) (v_found : Nat → Int32) (v_foundOn : Nat → Int32) (v_foundIncome : Int32) (v_foundMoves : Int32), f_X6_compares_90 n k14 t0 t1 x1 x3 v_a v_tried v_stands v_found v_foundOn v_foundIncome v_foundMoves = some res → ∀ (H : Heap) (locs : List Loc) (ls : Array Slot), zW D (zT cI cZ cM) A s [(a_this, .inr (6, [.ref a_a, .ref a_fresh, .ref a_kept, .int v_keptMany, .int v_thrown, .ref a_buffer, .int v_buffered, .int v_size, .int v_at, .int v_behind, .int v_kind, .int v_wrong, .int v_wrongAt, .int v_errorAt, .long v_number, .ref a_best, .ref a_rentBy, .ref a_bareBy, .ref a_aheadBy, .ref a_isEdge, .ref a_tried, .ref a_stands, .ref a_found, .ref a_foundOn, .ref a_moving, .int v_movingMany, .int v_foundIncome, .int v_foundMoves])), (a_a, .inl (cI, 180, .inl v_a)), (a_tried, .inl (cI, 8, .inl v_tried)), (a_stands, .inl (cI, 24, .inl v_stands)), (a_found, .inl (cI, 8, .inl v_found)), (a_foundOn, .inl (cI, 24, .inl v_foundOn))] H locs → lv_has ls 5 [(0, .ref a_this), (1, .int x1), (3, .int x3)] → W p l e rmX6_compares s m args below meth c H locs 0 0 (MQ below (zQv D (zT cI cZ cM) [(a_this, .inr (6, [.ref a_a, .ref a_fresh, .ref a_kept, .int v_keptMany, .int v_thrown, .ref a_buffer, .int v_buffered, .int v_size, .int v_at, .int v_behind, .int v_kind, .int v_wrong, .int v_wrongAt, .int v_errorAt, .long v_number, .ref a_best, .ref a_rentBy, .ref a_bareBy, .ref a_aheadBy, .ref a_isEdge, .ref a_tried, .ref a_stands, .ref a_found, .ref a_foundOn, .ref a_moving, .int v_movingMany, .int res.2.2.1, .int res.2.2.2])), (a_a, .inl (cI, 180, .inl v_a)), (a_tried, .inl (cI, 8, .inl v_tried)), (a_stands, .inl (cI, 24, .inl v_stands)), (a_found, .inl (cI, 8, .inl res.1)), (a_foundOn, .inl (cI, 24, .inl res.2.1))] A) args s 0 0 A) (F0 m 90 ls [.int t1, .int t0]) := by
  obtain ⟨⟨hx, hb, hml, hown, hts⟩, hr, hlocks⟩ := id E
  intro t0 t1 x1 x3 v_a v_tried v_stands v_found v_foundOn v_foundIncome v_foundMoves hf H locs ls hw hl
  unfold f_X6_compares_90 at hf
  refine lv_iadd hx hb dX6_compares_90 ?_
  obtain ⟨y_7, e_y_7, hf⟩ := oL_elim hf
  refine z_top e_y_7 ?_
  refine lv_istore_n (lv' := [(2, .int y_7), (0, .ref a_this), (1, .int x1), (3, .int x3)]) hx hb dX6_compares_91 rfl hl (z_lt rfl) rfl (fun ls hl => ?_)
  refine lv_iinc (v := (x3 + (1 : Int32))) (lv' := [(3, .int (x3 + (1 : Int32))), (2, .int y_7), (0, .ref a_this), (1, .int x1)]) hx hb dX6_compares_92 hl (k := 3) rfl rfl (z_lt rfl) rfl (fun ls hl => ?_)
  refine lv_goto (tgt := 14) hx hb dX6_compares_95 (by decide) ?_
  exact hk14 _ _ _ _ _ _ _ _ _ _ hf _ _ _ hw (lv_sub hl [2, 3, 1, 0] rfl)
set_option maxHeartbeats 4000000 in
set_option maxRecDepth 100000 in
theorem w_X6_compares_89 {n : Nat} (E : zE p s m args meth c cX6_compares 5 none zwX6_compares RX6) {k14 : Int32 → Int32 → Int32 → (Nat → Int32) → (Nat → Int32) → (Nat → Int32) → (Nat → Int32) → (Nat → Int32) → Int32 → Int32 → Option ((Nat → Int32) × (Nat → Int32) × Int32 × Int32)} (hk14 : ∀ (x1 : Int32) (x2 : Int32) (x3 : Int32) (v_a : Nat → Int32) (v_tried : Nat → Int32) (v_stands : Nat → Int32) (v_found : Nat → Int32) (v_foundOn : Nat → Int32) (v_foundIncome : Int32) (v_foundMoves : Int32), k14 x1 x2 x3 v_a v_tried v_stands v_found v_foundOn v_foundIncome v_foundMoves = some res → ∀ (H : Heap) (locs : List Loc) (ls : Array Slot), zW D (zT cI cZ cM) A s [(a_this, .inr (6, [.ref a_a, .ref a_fresh, .ref a_kept, .int v_keptMany, .int v_thrown, .ref a_buffer, .int v_buffered, .int v_size, .int v_at, .int v_behind, .int v_kind, .int v_wrong, .int v_wrongAt, .int v_errorAt, .long v_number, .ref a_best, .ref a_rentBy, .ref a_bareBy, .ref a_aheadBy, .ref a_isEdge, .ref a_tried, .ref a_stands, .ref a_found, .ref a_foundOn, .ref a_moving, .int v_movingMany, .int v_foundIncome, .int v_foundMoves])), (a_a, .inl (cI, 180, .inl v_a)), (a_tried, .inl (cI, 8, .inl v_tried)), (a_stands, .inl (cI, 24, .inl v_stands)), (a_found, .inl (cI, 8, .inl v_found)), (a_foundOn, .inl (cI, 24, .inl v_foundOn))] H locs → lv_has ls 5 [(0, .ref a_this), (1, .int x1), (2, .int x2), (3, .int x3)] → W p l e rmX6_compares s m args below meth c H locs 0 0 (MQ below (zQv D (zT cI cZ cM) [(a_this, .inr (6, [.ref a_a, .ref a_fresh, .ref a_kept, .int v_keptMany, .int v_thrown, .ref a_buffer, .int v_buffered, .int v_size, .int v_at, .int v_behind, .int v_kind, .int v_wrong, .int v_wrongAt, .int v_errorAt, .long v_number, .ref a_best, .ref a_rentBy, .ref a_bareBy, .ref a_aheadBy, .ref a_isEdge, .ref a_tried, .ref a_stands, .ref a_found, .ref a_foundOn, .ref a_moving, .int v_movingMany, .int res.2.2.1, .int res.2.2.2])), (a_a, .inl (cI, 180, .inl v_a)), (a_tried, .inl (cI, 8, .inl v_tried)), (a_stands, .inl (cI, 24, .inl v_stands)), (a_found, .inl (cI, 8, .inl res.1)), (a_foundOn, .inl (cI, 24, .inl res.2.1))] A) args s 0 0 A) (F0 m 14 ls [])) : ∀ (t0 : Int32) (x1 : Int32) (x3 : Int32) (v_a : Nat → Int32) (v_tried : Nat → Int32) (v_stands : Nat → Int32) (v_found : Nat → Int32) (v_foundOn : Nat → Int32) (v_foundIncome : Int32) (v_foundMoves : Int32), f_X6_compares_89 n k14 t0 x1 x3 v_a v_tried v_stands v_found v_foundOn v_foundIncome v_foundMoves = some res → ∀ (H : Heap) (locs : List Loc) (ls : Array Slot), zW D (zT cI cZ cM) A s [(a_this, .inr (6, [.ref a_a, .ref a_fresh, .ref a_kept, .int v_keptMany, .int v_thrown, .ref a_buffer, .int v_buffered, .int v_size, .int v_at, .int v_behind, .int v_kind, .int v_wrong, .int v_wrongAt, .int v_errorAt, .long v_number, .ref a_best, .ref a_rentBy, .ref a_bareBy, .ref a_aheadBy, .ref a_isEdge, .ref a_tried, .ref a_stands, .ref a_found, .ref a_foundOn, .ref a_moving, .int v_movingMany, .int v_foundIncome, .int v_foundMoves])), (a_a, .inl (cI, 180, .inl v_a)), (a_tried, .inl (cI, 8, .inl v_tried)), (a_stands, .inl (cI, 24, .inl v_stands)), (a_found, .inl (cI, 8, .inl v_found)), (a_foundOn, .inl (cI, 24, .inl v_foundOn))] H locs → lv_has ls 5 [(0, .ref a_this), (1, .int x1), (3, .int x3)] → W p l e rmX6_compares s m args below meth c H locs 0 0 (MQ below (zQv D (zT cI cZ cM) [(a_this, .inr (6, [.ref a_a, .ref a_fresh, .ref a_kept, .int v_keptMany, .int v_thrown, .ref a_buffer, .int v_buffered, .int v_size, .int v_at, .int v_behind, .int v_kind, .int v_wrong, .int v_wrongAt, .int v_errorAt, .long v_number, .ref a_best, .ref a_rentBy, .ref a_bareBy, .ref a_aheadBy, .ref a_isEdge, .ref a_tried, .ref a_stands, .ref a_found, .ref a_foundOn, .ref a_moving, .int v_movingMany, .int res.2.2.1, .int res.2.2.2])), (a_a, .inl (cI, 180, .inl v_a)), (a_tried, .inl (cI, 8, .inl v_tried)), (a_stands, .inl (cI, 24, .inl v_stands)), (a_found, .inl (cI, 8, .inl res.1)), (a_foundOn, .inl (cI, 24, .inl res.2.1))] A) args s 0 0 A) (F0 m 89 ls [.int t0]) := by
  obtain ⟨⟨hx, hb, hml, hown, hts⟩, hr, hlocks⟩ := id E
  intro t0 x1 x3 v_a v_tried v_stands v_found v_foundOn v_foundIncome v_foundMoves hf H locs ls hw hl
  unfold f_X6_compares_89 at hf
  refine lv_iconst (v := 0) hx hb dX6_compares_89 (by decide) ?_
  exact w_X6_compares_90 E hk14 _ _ _ _ _ _ _ _ _ _ _ hf _ _ _ hw (lv_sub hl [0, 1, 2] rfl)
set_option maxHeartbeats 4000000 in
set_option maxRecDepth 100000 in
theorem w_X6_compares_51 {n : Nat} (E : zE p s m args meth c cX6_compares 5 none zwX6_compares RX6) {k14 : Int32 → Int32 → Int32 → (Nat → Int32) → (Nat → Int32) → (Nat → Int32) → (Nat → Int32) → (Nat → Int32) → Int32 → Int32 → Option ((Nat → Int32) × (Nat → Int32) × Int32 × Int32)} (hk14 : ∀ (x1 : Int32) (x2 : Int32) (x3 : Int32) (v_a : Nat → Int32) (v_tried : Nat → Int32) (v_stands : Nat → Int32) (v_found : Nat → Int32) (v_foundOn : Nat → Int32) (v_foundIncome : Int32) (v_foundMoves : Int32), k14 x1 x2 x3 v_a v_tried v_stands v_found v_foundOn v_foundIncome v_foundMoves = some res → ∀ (H : Heap) (locs : List Loc) (ls : Array Slot), zW D (zT cI cZ cM) A s [(a_this, .inr (6, [.ref a_a, .ref a_fresh, .ref a_kept, .int v_keptMany, .int v_thrown, .ref a_buffer, .int v_buffered, .int v_size, .int v_at, .int v_behind, .int v_kind, .int v_wrong, .int v_wrongAt, .int v_errorAt, .long v_number, .ref a_best, .ref a_rentBy, .ref a_bareBy, .ref a_aheadBy, .ref a_isEdge, .ref a_tried, .ref a_stands, .ref a_found, .ref a_foundOn, .ref a_moving, .int v_movingMany, .int v_foundIncome, .int v_foundMoves])), (a_a, .inl (cI, 180, .inl v_a)), (a_tried, .inl (cI, 8, .inl v_tried)), (a_stands, .inl (cI, 24, .inl v_stands)), (a_found, .inl (cI, 8, .inl v_found)), (a_foundOn, .inl (cI, 24, .inl v_foundOn))] H locs → lv_has ls 5 [(0, .ref a_this), (1, .int x1), (2, .int x2), (3, .int x3)] → W p l e rmX6_compares s m args below meth c H locs 0 0 (MQ below (zQv D (zT cI cZ cM) [(a_this, .inr (6, [.ref a_a, .ref a_fresh, .ref a_kept, .int v_keptMany, .int v_thrown, .ref a_buffer, .int v_buffered, .int v_size, .int v_at, .int v_behind, .int v_kind, .int v_wrong, .int v_wrongAt, .int v_errorAt, .long v_number, .ref a_best, .ref a_rentBy, .ref a_bareBy, .ref a_aheadBy, .ref a_isEdge, .ref a_tried, .ref a_stands, .ref a_found, .ref a_foundOn, .ref a_moving, .int v_movingMany, .int res.2.2.1, .int res.2.2.2])), (a_a, .inl (cI, 180, .inl v_a)), (a_tried, .inl (cI, 8, .inl v_tried)), (a_stands, .inl (cI, 24, .inl v_stands)), (a_found, .inl (cI, 8, .inl res.1)), (a_foundOn, .inl (cI, 24, .inl res.2.1))] A) args s 0 0 A) (F0 m 14 ls [])) : ∀ (t0 : Int32) (t1 : Int32) (x2 : Int32) (x3 : Int32) (v_a : Nat → Int32) (v_tried : Nat → Int32) (v_stands : Nat → Int32) (v_found : Nat → Int32) (v_foundOn : Nat → Int32) (v_foundIncome : Int32) (v_foundMoves : Int32), f_X6_compares_51 n k14 t0 t1 x2 x3 v_a v_tried v_stands v_found v_foundOn v_foundIncome v_foundMoves = some res → ∀ (H : Heap) (locs : List Loc) (ls : Array Slot), zW D (zT cI cZ cM) A s [(a_this, .inr (6, [.ref a_a, .ref a_fresh, .ref a_kept, .int v_keptMany, .int v_thrown, .ref a_buffer, .int v_buffered, .int v_size, .int v_at, .int v_behind, .int v_kind, .int v_wrong, .int v_wrongAt, .int v_errorAt, .long v_number, .ref a_best, .ref a_rentBy, .ref a_bareBy, .ref a_aheadBy, .ref a_isEdge, .ref a_tried, .ref a_stands, .ref a_found, .ref a_foundOn, .ref a_moving, .int v_movingMany, .int v_foundIncome, .int v_foundMoves])), (a_a, .inl (cI, 180, .inl v_a)), (a_tried, .inl (cI, 8, .inl v_tried)), (a_stands, .inl (cI, 24, .inl v_stands)), (a_found, .inl (cI, 8, .inl v_found)), (a_foundOn, .inl (cI, 24, .inl v_foundOn))] H locs → lv_has ls 5 [(0, .ref a_this), (2, .int x2), (3, .int x3)] → W p l e rmX6_compares s m args below meth c H locs 0 0 (MQ below (zQv D (zT cI cZ cM) [(a_this, .inr (6, [.ref a_a, .ref a_fresh, .ref a_kept, .int v_keptMany, .int v_thrown, .ref a_buffer, .int v_buffered, .int v_size, .int v_at, .int v_behind, .int v_kind, .int v_wrong, .int v_wrongAt, .int v_errorAt, .long v_number, .ref a_best, .ref a_rentBy, .ref a_bareBy, .ref a_aheadBy, .ref a_isEdge, .ref a_tried, .ref a_stands, .ref a_found, .ref a_foundOn, .ref a_moving, .int v_movingMany, .int res.2.2.1, .int res.2.2.2])), (a_a, .inl (cI, 180, .inl v_a)), (a_tried, .inl (cI, 8, .inl v_tried)), (a_stands, .inl (cI, 24, .inl v_stands)), (a_found, .inl (cI, 8, .inl res.1)), (a_foundOn, .inl (cI, 24, .inl res.2.1))] A) args s 0 0 A) (F0 m 51 ls [.int t1, .int t0]) := by
  obtain ⟨⟨hx, hb, hml, hown, hts⟩, hr, hlocks⟩ := id E
  intro t0 t1 x2 x3 v_a v_tried v_stands v_found v_foundOn v_foundIncome v_foundMoves hf H locs ls hw hl
  unfold f_X6_compares_51 at hf
  refine lv_iadd hx hb dX6_compares_51 ?_
  obtain ⟨y_8, e_y_8, hf⟩ := oL_elim hf
  refine z_top e_y_8 ?_
  refine lv_istore_n (lv' := [(1, .int y_8), (0, .ref a_this), (2, .int x2), (3, .int x3)]) hx hb dX6_compares_52 rfl hl (z_lt rfl) rfl (fun ls hl => ?_)
  refine lv_iload_n hx hb dX6_compares_53 rfl (lv_at hl 2 rfl) ?_
  refine lv_aload_n hx hb dX6_compares_54 rfl (lv_at hl 1 rfl) ?_
  refine z_get E.1 hw in_wsX60 0 rfl rfl 0 (z_lt rfl) mw_593 (v := .ref a_a) rfl dX6_compares_55 ?_
  refine lv_bipush (v := 107) hx hb dX6_compares_58 (by decide) ?_
  refine lv_iload_n hx hb dX6_compares_60 rfl (lv_at hl 3 rfl) ?_
  refine lv_iadd hx hb dX6_compares_61 ?_
  obtain ⟨h_9, hf⟩ := oA_elim hf
  refine z_iald E.1 hw 1 0 rfl rfl h_9 dX6_compares_62 ?_
  refine lv_iconst (v := -1) hx hb dX6_compares_63 (by decide) ?_
  refine lv_icmp_eq (tgt := 89) hx hb dX6_compares_64 (by decide) (fun hc => ?_) (fun hc => ?_)
  · have hf := oI_pos hc hf
    exact w_X6_compares_89 E hk14 _ _ _ _ _ _ _ _ _ _ hf _ _ _ hw (lv_sub hl [1, 0, 3] rfl)
  · have hf := oI_neg hc hf
    refine lv_aload_n hx hb dX6_compares_67 rfl (lv_at hl 1 rfl) ?_
    refine z_get E.1 hw in_wsX60 0 rfl rfl 20 (z_lt rfl) mw_674 (v := .ref a_tried) rfl dX6_compares_68 ?_
    refine lv_iload_n hx hb dX6_compares_71 rfl (lv_at hl 3 rfl) ?_
    obtain ⟨h_10, hf⟩ := oA_elim hf
    refine z_iald E.1 hw 2 0 rfl rfl h_10 dX6_compares_72 ?_
    refine lv_aload_n hx hb dX6_compares_73 rfl (lv_at hl 1 rfl) ?_
    refine z_get E.1 hw in_wsX60 0 rfl rfl 0 (z_lt rfl) mw_593 (v := .ref a_a) rfl dX6_compares_74 ?_
    refine lv_bipush (v := 107) hx hb dX6_compares_77 (by decide) ?_
    refine lv_iload_n hx hb dX6_compares_79 rfl (lv_at hl 3 rfl) ?_
    refine lv_iadd hx hb dX6_compares_80 ?_
    obtain ⟨h_11, hf⟩ := oA_elim hf
    refine z_iald E.1 hw 1 0 rfl rfl h_11 dX6_compares_81 ?_
    refine lv_icmp_eq (tgt := 89) hx hb dX6_compares_82 (by decide) (fun hc => ?_) (fun hc => ?_)
    · have hf := oI_pos hc hf
      exact w_X6_compares_89 E hk14 _ _ _ _ _ _ _ _ _ _ hf _ _ _ hw (lv_sub hl [1, 0, 3] rfl)
    · have hf := oI_neg hc hf
      refine lv_iconst (v := 1) hx hb dX6_compares_85 (by decide) ?_
      refine lv_goto (tgt := 90) hx hb dX6_compares_86 (by decide) ?_
      exact w_X6_compares_90 E hk14 _ _ _ _ _ _ _ _ _ _ _ hf _ _ _ hw (lv_sub hl [1, 0, 3] rfl)
set_option maxHeartbeats 4000000 in
set_option maxRecDepth 100000 in
theorem w_X6_compares_14 {n : Nat} (E : zE p s m args meth c cX6_compares 5 none zwX6_compares RX6) : ∀ (fu : Nat), ∀ (x1 : Int32) (x2 : Int32) (x3 : Int32) (v_a : Nat → Int32) (v_tried : Nat → Int32) (v_stands : Nat → Int32) (v_found : Nat → Int32) (v_foundOn : Nat → Int32) (v_foundIncome : Int32) (v_foundMoves : Int32), f_X6_compares_14 n fu x1 x2 x3 v_a v_tried v_stands v_found v_foundOn v_foundIncome v_foundMoves = some res → ∀ (H : Heap) (locs : List Loc) (ls : Array Slot), zW D (zT cI cZ cM) A s [(a_this, .inr (6, [.ref a_a, .ref a_fresh, .ref a_kept, .int v_keptMany, .int v_thrown, .ref a_buffer, .int v_buffered, .int v_size, .int v_at, .int v_behind, .int v_kind, .int v_wrong, .int v_wrongAt, .int v_errorAt, .long v_number, .ref a_best, .ref a_rentBy, .ref a_bareBy, .ref a_aheadBy, .ref a_isEdge, .ref a_tried, .ref a_stands, .ref a_found, .ref a_foundOn, .ref a_moving, .int v_movingMany, .int v_foundIncome, .int v_foundMoves])), (a_a, .inl (cI, 180, .inl v_a)), (a_tried, .inl (cI, 8, .inl v_tried)), (a_stands, .inl (cI, 24, .inl v_stands)), (a_found, .inl (cI, 8, .inl v_found)), (a_foundOn, .inl (cI, 24, .inl v_foundOn))] H locs → lv_has ls 5 [(0, .ref a_this), (1, .int x1), (2, .int x2), (3, .int x3)] → W p l e rmX6_compares s m args below meth c H locs 0 0 (MQ below (zQv D (zT cI cZ cM) [(a_this, .inr (6, [.ref a_a, .ref a_fresh, .ref a_kept, .int v_keptMany, .int v_thrown, .ref a_buffer, .int v_buffered, .int v_size, .int v_at, .int v_behind, .int v_kind, .int v_wrong, .int v_wrongAt, .int v_errorAt, .long v_number, .ref a_best, .ref a_rentBy, .ref a_bareBy, .ref a_aheadBy, .ref a_isEdge, .ref a_tried, .ref a_stands, .ref a_found, .ref a_foundOn, .ref a_moving, .int v_movingMany, .int res.2.2.1, .int res.2.2.2])), (a_a, .inl (cI, 180, .inl v_a)), (a_tried, .inl (cI, 8, .inl v_tried)), (a_stands, .inl (cI, 24, .inl v_stands)), (a_found, .inl (cI, 8, .inl res.1)), (a_foundOn, .inl (cI, 24, .inl res.2.1))] A) args s 0 0 A) (F0 m 14 ls []) := by
  obtain ⟨⟨hx, hb, hml, hown, hts⟩, hr, hlocks⟩ := id E
  intro fu
  induction fu with
  | zero => intro x1 x2 x3 v_a v_tried v_stands v_found v_foundOn v_foundIncome v_foundMoves hf; rw [f_X6_compares_14.eq_1] at hf; cases hf
  | succ fu ih =>
    intro x1 x2 x3 v_a v_tried v_stands v_found v_foundOn v_foundIncome v_foundMoves hf H locs ls hw hl
    rw [f_X6_compares_14.eq_2] at hf
    refine lv_iload_n hx hb dX6_compares_14 rfl (lv_at hl 3 rfl) ?_
    refine lv_aload_n hx hb dX6_compares_15 rfl (lv_at hl 0 rfl) ?_
    refine z_get E.1 hw in_wsX60 0 rfl rfl 0 (z_lt rfl) mw_593 (v := .ref a_a) rfl dX6_compares_16 ?_
    refine lv_bipush (v := 74) hx hb dX6_compares_19 (by decide) ?_
    obtain ⟨h_12, hf⟩ := oA_elim hf
    refine z_iald E.1 hw 1 0 rfl rfl h_12 dX6_compares_21 ?_
    refine lv_icmp_ge (tgt := 98) hx hb dX6_compares_22 (by decide) (fun hc => ?_) (fun hc => ?_)
    · have hf := oI_pos hc hf
      refine lv_iload_n hx hb dX6_compares_98 rfl (lv_at hl 1 rfl) ?_
      refine lv_aload_n hx hb dX6_compares_99 rfl (lv_at hl 0 rfl) ?_
      refine z_get E.1 hw in_wsX60 0 rfl rfl 26 (z_lt rfl) mw_705 (v := .int v_foundIncome) rfl dX6_compares_100 ?_
      refine lv_icmp_lt (tgt := 137) hx hb dX6_compares_103 (by decide) (fun hc => ?_) (fun hc => ?_)
      · have hf := oI_pos hc hf
        exact w_X6_compares_137 E  _ _ _ _ _ _ _ _ hf _ _ _ hw (lv_sub hl [0, 1, 2] rfl)
      · have hf := oI_neg hc hf
        refine lv_iload_n hx hb dX6_compares_106 rfl (lv_at hl 1 rfl) ?_
        refine lv_aload_n hx hb dX6_compares_107 rfl (lv_at hl 0 rfl) ?_
        refine z_get E.1 hw in_wsX60 0 rfl rfl 26 (z_lt rfl) mw_705 (v := .int v_foundIncome) rfl dX6_compares_108 ?_
        refine lv_icmp_ne (tgt := 141) hx hb dX6_compares_111 (by decide) (fun hc => ?_) (fun hc => ?_)
        · have hf := oI_neg hc hf
          exact w_X6_compares_141 E  _ _ _ _ _ _ _ _ hf _ _ _ hw (lv_sub hl [0, 1, 2] rfl)
        · have hf := oI_pos hc hf
          refine lv_iload_n hx hb dX6_compares_114 rfl (lv_at hl 2 rfl) ?_
          refine lv_aload_n hx hb dX6_compares_115 rfl (lv_at hl 0 rfl) ?_
          refine z_get E.1 hw in_wsX60 0 rfl rfl 27 (z_lt rfl) mw_706 (v := .int v_foundMoves) rfl dX6_compares_116 ?_
          refine lv_icmp_gt (tgt := 137) hx hb dX6_compares_119 (by decide) (fun hc => ?_) (fun hc => ?_)
          · have hf := oI_pos hc hf
            exact w_X6_compares_137 E  _ _ _ _ _ _ _ _ hf _ _ _ hw (lv_sub hl [0, 1, 2] rfl)
          · have hf := oI_neg hc hf
            refine lv_iload_n hx hb dX6_compares_122 rfl (lv_at hl 2 rfl) ?_
            refine lv_aload_n hx hb dX6_compares_123 rfl (lv_at hl 0 rfl) ?_
            refine z_get E.1 hw in_wsX60 0 rfl rfl 27 (z_lt rfl) mw_706 (v := .int v_foundMoves) rfl dX6_compares_124 ?_
            refine lv_icmp_ne (tgt := 141) hx hb dX6_compares_127 (by decide) (fun hc => ?_) (fun hc => ?_)
            · have hf := oI_neg hc hf
              exact w_X6_compares_141 E  _ _ _ _ _ _ _ _ hf _ _ _ hw (lv_sub hl [0, 1, 2] rfl)
            · have hf := oI_pos hc hf
              refine lv_aload_n hx hb dX6_compares_130 rfl (lv_at hl 0 rfl) ?_
              obtain ⟨r_13, h_14, hf⟩ := oB_elim hf
              refine z_callVi (ws' := [(a_this, .inr (6, [.ref a_a, .ref a_fresh, .ref a_kept, .int v_keptMany, .int v_thrown, .ref a_buffer, .int v_buffered, .int v_size, .int v_at, .int v_behind, .int v_kind, .int v_wrong, .int v_wrongAt, .int v_errorAt, .long v_number, .ref a_best, .ref a_rentBy, .ref a_bareBy, .ref a_aheadBy, .ref a_isEdge, .ref a_tried, .ref a_stands, .ref a_found, .ref a_foundOn, .ref a_moving, .int v_movingMany, .int v_foundIncome, .int v_foundMoves])), (a_a, .inl (cI, 180, .inl v_a)), (a_tried, .inl (cI, 8, .inl v_tried)), (a_stands, .inl (cI, 24, .inl v_stands)), (a_found, .inl (cI, 8, .inl v_found)), (a_foundOn, .inl (cI, 24, .inl v_foundOn))]) (wr := [(a_tried, .inl (cI, 8, .inl v_tried)), (a_found, .inl (cI, 8, .inl v_found))]) (As := []) (rest := []) E.1 hl hw (c_X6_isAhead h_14) (cwV 0 hts (z_gV mw_709 mw_710 mw_711 mw_597 mw_712) rfl rfl rfl (by decide +kernel) ⟨(Nat.le_of_ble_eq_true rfl), (Nat.le_of_ble_eq_true rfl)⟩) 6 [(0, 2), (3, 1), (5, 1)] [(2, 1), (4, 1)] rfl rfl rfl rfl rfl rfl (by decide +kernel) rfl (q0 := 0) rfl rfl rfl (Nat.le_of_ble_eq_true rfl) dX6_compares_131 ⟨Nat.le_of_ble_eq_true rfl, Nat.le_of_ble_eq_true rfl⟩ (fun H locs hw => ?_)
              refine lv_if_ne (tgt := 141) hx hb dX6_compares_134 (by decide) (fun hc => ?_) (fun hc => ?_)
              · have hf := oI_neg hc hf
                exact w_X6_compares_141 E  _ _ _ _ _ _ _ _ hf _ _ _ hw (lv_sub hl [0, 1, 2] rfl)
              · have hf := oI_pos hc hf
                exact w_X6_compares_137 E  _ _ _ _ _ _ _ _ hf _ _ _ hw (lv_sub hl [0, 1, 2] rfl)
    · have hf := oI_neg hc hf
      refine lv_iload_n hx hb dX6_compares_25 rfl (lv_at hl 1 rfl) ?_
      refine lv_aload_n hx hb dX6_compares_26 rfl (lv_at hl 0 rfl) ?_
      refine z_get E.1 hw in_wsX60 0 rfl rfl 20 (z_lt rfl) mw_674 (v := .ref a_tried) rfl dX6_compares_27 ?_
      refine lv_iload_n hx hb dX6_compares_30 rfl (lv_at hl 3 rfl) ?_
      obtain ⟨h_15, hf⟩ := oA_elim hf
      refine z_iald E.1 hw 2 0 rfl rfl h_15 dX6_compares_31 ?_
      refine lv_iconst (v := -1) hx hb dX6_compares_32 (by decide) ?_
      refine lv_icmp_ne (tgt := 40) hx hb dX6_compares_33 (by decide) (fun hc => ?_) (fun hc => ?_)
      · have hf := oI_neg hc hf
        refine lv_aload_n hx hb dX6_compares_40 rfl (lv_at hl 0 rfl) ?_
        refine lv_iload_n hx hb dX6_compares_41 rfl (lv_at hl 3 rfl) ?_
        refine lv_aload_n hx hb dX6_compares_42 rfl (lv_at hl 0 rfl) ?_
        refine z_get E.1 hw in_wsX60 0 rfl rfl 20 (z_lt rfl) mw_674 (v := .ref a_tried) rfl dX6_compares_43 ?_
        refine lv_iload_n hx hb dX6_compares_46 rfl (lv_at hl 3 rfl) ?_
        obtain ⟨h_16, hf⟩ := oA_elim hf
        refine z_iald E.1 hw 2 0 rfl rfl h_16 dX6_compares_47 ?_
        obtain ⟨r_17, h_18, hf⟩ := oB_elim hf
        refine z_callVi (ws' := [(a_this, .inr (6, [.ref a_a, .ref a_fresh, .ref a_kept, .int v_keptMany, .int v_thrown, .ref a_buffer, .int v_buffered, .int v_size, .int v_at, .int v_behind, .int v_kind, .int v_wrong, .int v_wrongAt, .int v_errorAt, .long v_number, .ref a_best, .ref a_rentBy, .ref a_bareBy, .ref a_aheadBy, .ref a_isEdge, .ref a_tried, .ref a_stands, .ref a_found, .ref a_foundOn, .ref a_moving, .int v_movingMany, .int v_foundIncome, .int v_foundMoves])), (a_a, .inl (cI, 180, .inl v_a)), (a_tried, .inl (cI, 8, .inl v_tried)), (a_stands, .inl (cI, 24, .inl v_stands)), (a_found, .inl (cI, 8, .inl v_found)), (a_foundOn, .inl (cI, 24, .inl v_foundOn))]) (wr := [(a_tried, .inl (cI, 8, .inl v_tried)), (a_stands, .inl (cI, 24, .inl v_stands)), (a_found, .inl (cI, 8, .inl v_found)), (a_foundOn, .inl (cI, 24, .inl v_foundOn))]) (As := [.int x3, .int (v_tried (x3).toNatClampNeg)]) (rest := [.int x1]) E.1 hl hw (c_X6_rentOf h_18) (cwV 2 hts (z_gV mw_644 mw_645 mw_646 mw_597 mw_647) rfl rfl rfl (by decide +kernel) ⟨(Nat.le_of_ble_eq_true rfl), (Nat.le_of_ble_eq_true rfl)⟩) 6 [(0, 2)] [(2, 4)] rfl rfl rfl rfl rfl rfl (by decide +kernel) rfl (q0 := 0) rfl rfl rfl (Nat.le_of_ble_eq_true rfl) dX6_compares_48 ⟨Nat.le_of_ble_eq_true rfl, Nat.le_of_ble_eq_true rfl⟩ (fun H locs hw => ?_)
        exact w_X6_compares_51 E ih _ _ _ _ _ _ _ _ _ _ _ hf _ _ _ hw (lv_sub hl [0, 2, 3] rfl)
      · have hf := oI_pos hc hf
        refine lv_iconst (v := 0) hx hb dX6_compares_36 (by decide) ?_
        refine lv_goto (tgt := 51) hx hb dX6_compares_37 (by decide) ?_
        exact w_X6_compares_51 E ih _ _ _ _ _ _ _ _ _ _ _ hf _ _ _ hw (lv_sub hl [0, 2, 3] rfl)
set_option maxHeartbeats 4000000 in
set_option maxRecDepth 100000 in
theorem c_X6_compares {l : Launch} {D : va_G} {cI cZ cM : ClassId} {a_this a_a a_fresh a_kept a_buffer a_best a_rentBy a_bareBy a_aheadBy a_isEdge a_tried a_stands a_found a_foundOn a_moving : Nat} {v_keptMany : Int32} {v_thrown : Int32} {v_buffered : Int32} {v_size : Int32} {v_at : Int32} {v_behind : Int32} {v_kind : Int32} {v_wrong : Int32} {v_wrongAt : Int32} {v_errorAt : Int32} {v_number : Int64} {v_movingMany : Int32} {res : (Nat → Int32) × (Nat → Int32) × Int32 × Int32} {sz : Nat} {n : Nat} {v_a : Nat → Int32} {v_tried : Nat → Int32} {v_stands : Nat → Int32} {v_found : Nat → Int32} {v_foundOn : Nat → Int32} {v_foundIncome : Int32} {v_foundMoves : Int32} (hf : f_X6_compares n v_a v_tried v_stands v_found v_foundOn v_foundIncome v_foundMoves = some res) : Met l yX6_compares zwX6_compares rmX6_compares (zPc D (zT cI cZ cM) [.ref a_this] [(a_this, .inr (6, [.ref a_a, .ref a_fresh, .ref a_kept, .int v_keptMany, .int v_thrown, .ref a_buffer, .int v_buffered, .int v_size, .int v_at, .int v_behind, .int v_kind, .int v_wrong, .int v_wrongAt, .int v_errorAt, .long v_number, .ref a_best, .ref a_rentBy, .ref a_bareBy, .ref a_aheadBy, .ref a_isEdge, .ref a_tried, .ref a_stands, .ref a_found, .ref a_foundOn, .ref a_moving, .int v_movingMany, .int v_foundIncome, .int v_foundMoves])), (a_a, .inl (cI, 180, .inl v_a)), (a_tried, .inl (cI, 8, .inl v_tried)), (a_stands, .inl (cI, 24, .inl v_stands)), (a_found, .inl (cI, 8, .inl v_found)), (a_foundOn, .inl (cI, 24, .inl v_foundOn))] sz) (zQv D (zT cI cZ cM) [(a_this, .inr (6, [.ref a_a, .ref a_fresh, .ref a_kept, .int v_keptMany, .int v_thrown, .ref a_buffer, .int v_buffered, .int v_size, .int v_at, .int v_behind, .int v_kind, .int v_wrong, .int v_wrongAt, .int v_errorAt, .long v_number, .ref a_best, .ref a_rentBy, .ref a_bareBy, .ref a_aheadBy, .ref a_isEdge, .ref a_tried, .ref a_stands, .ref a_found, .ref a_foundOn, .ref a_moving, .int v_movingMany, .int res.2.2.1, .int res.2.2.2])), (a_a, .inl (cI, 180, .inl v_a)), (a_tried, .inl (cI, 8, .inl v_tried)), (a_stands, .inl (cI, 24, .inl v_stands)), (a_found, .inl (cI, 8, .inl res.1)), (a_foundOn, .inl (cI, 24, .inl res.2.1))] (va_A [(a_this, .inr (6, [.ref a_a, .ref a_fresh, .ref a_kept, .int v_keptMany, .int v_thrown, .ref a_buffer, .int v_buffered, .int v_size, .int v_at, .int v_behind, .int v_kind, .int v_wrong, .int v_wrongAt, .int v_errorAt, .long v_number, .ref a_best, .ref a_rentBy, .ref a_bareBy, .ref a_aheadBy, .ref a_isEdge, .ref a_tried, .ref a_stands, .ref a_found, .ref a_foundOn, .ref a_moving, .int v_movingMany, .int v_foundIncome, .int v_foundMoves])), (a_a, .inl (cI, 180, .inl v_a)), (a_tried, .inl (cI, 8, .inl v_tried)), (a_stands, .inl (cI, 24, .inl v_stands)), (a_found, .inl (cI, 8, .inl v_found)), (a_foundOn, .inl (cI, 24, .inl v_foundOn))] sz)) 0 0 (va_A [(a_this, .inr (6, [.ref a_a, .ref a_fresh, .ref a_kept, .int v_keptMany, .int v_thrown, .ref a_buffer, .int v_buffered, .int v_size, .int v_at, .int v_behind, .int v_kind, .int v_wrong, .int v_wrongAt, .int v_errorAt, .long v_number, .ref a_best, .ref a_rentBy, .ref a_bareBy, .ref a_aheadBy, .ref a_isEdge, .ref a_tried, .ref a_stands, .ref a_found, .ref a_foundOn, .ref a_moving, .int v_movingMany, .int v_foundIncome, .int v_foundMoves])), (a_a, .inl (cI, 180, .inl v_a)), (a_tried, .inl (cI, 8, .inl v_tried)), (a_stands, .inl (cI, 24, .inl v_stands)), (a_found, .inl (cI, 8, .inl v_found)), (a_foundOn, .inl (cI, 24, .inl v_foundOn))] sz) := by
  refine z_met (cc := cX6_compares) (maxL := 5) (ret := none) (by decide) rfl (Nat.le_of_ble_eq_true rfl) ?_
  intro p e s m below meth c ls E hsz hw hl
  obtain ⟨⟨hx, hb, hml, hown, hts⟩, hr, hlocks⟩ := id E
  have hl : lv_has ls 5 [(0, .ref a_this)] := hl
  unfold f_X6_compares at hf
  refine lv_aload_n hx hb dX6_compares_0 rfl (lv_at hl 0 rfl) ?_
  obtain ⟨r_19, h_20, hf⟩ := oB_elim hf
  refine z_callVi (ws' := [(a_this, .inr (6, [.ref a_a, .ref a_fresh, .ref a_kept, .int v_keptMany, .int v_thrown, .ref a_buffer, .int v_buffered, .int v_size, .int v_at, .int v_behind, .int v_kind, .int v_wrong, .int v_wrongAt, .int v_errorAt, .long v_number, .ref a_best, .ref a_rentBy, .ref a_bareBy, .ref a_aheadBy, .ref a_isEdge, .ref a_tried, .ref a_stands, .ref a_found, .ref a_foundOn, .ref a_moving, .int v_movingMany, .int v_foundIncome, .int v_foundMoves])), (a_a, .inl (cI, 180, .inl v_a)), (a_tried, .inl (cI, 8, .inl v_tried)), (a_stands, .inl (cI, 24, .inl v_stands)), (a_found, .inl (cI, 8, .inl v_found)), (a_foundOn, .inl (cI, 24, .inl v_foundOn))]) (wr := [(a_found, .inl (cI, 8, .inl v_found)), (a_foundOn, .inl (cI, 24, .inl v_foundOn))]) (As := []) (rest := []) E.1 hl hw (c_X6_isSound h_20) (cwV 0 hts (z_gV mw_687 mw_688 mw_689 mw_597 mw_690) rfl rfl rfl (by decide +kernel) ⟨(Nat.le_of_ble_eq_true rfl), (Nat.le_of_ble_eq_true rfl)⟩) 6 [(0, 4)] [(4, 2)] rfl rfl rfl rfl rfl rfl (by decide +kernel) rfl (q0 := 0) rfl rfl rfl (Nat.le_of_ble_eq_true rfl) dX6_compares_1 ⟨Nat.le_of_ble_eq_true rfl, Nat.le_of_ble_eq_true rfl⟩ (fun H locs hw => ?_)
  refine lv_if_ne (tgt := 8) hx hb dX6_compares_4 (by decide) (fun hc => ?_) (fun hc => ?_)
  · have hf := oI_neg hc hf
    refine lv_iconst (v := 0) hx hb dX6_compares_8 (by decide) ?_
    refine lv_istore_n (lv' := [(1, .int (0 : Int32)), (0, .ref a_this)]) hx hb dX6_compares_9 rfl hl (z_lt rfl) rfl (fun ls hl => ?_)
    refine lv_iconst (v := 0) hx hb dX6_compares_10 (by decide) ?_
    refine lv_istore_n (lv' := [(2, .int (0 : Int32)), (1, .int (0 : Int32)), (0, .ref a_this)]) hx hb dX6_compares_11 rfl hl (z_lt rfl) rfl (fun ls hl => ?_)
    refine lv_iconst (v := 0) hx hb dX6_compares_12 (by decide) ?_
    refine lv_istore_n (lv' := [(3, .int (0 : Int32)), (2, .int (0 : Int32)), (1, .int (0 : Int32)), (0, .ref a_this)]) hx hb dX6_compares_13 rfl hl (z_lt rfl) rfl (fun ls hl => ?_)
    exact w_X6_compares_14 E  n _ _ _ _ _ _ _ _ _ _ hf _ _ _ hw (lv_sub hl [3, 2, 1, 0] rfl)
  · have hf := oI_pos hc hf
    cases hf
    exact z_vret E rfl hw dX6_compares_7
end
/-! X6_isTrader -/
section
variable {p : Program} {l : Launch} {e : Env} {s : State} {m : MethodId} {args : Array Value} {below : List Frame} {meth : Method} {c : Code} {D : va_G} {A : Nat → Prop} {cI cZ cM : ClassId} {a_this a_a a_fresh a_kept a_buffer a_best a_rentBy a_bareBy a_aheadBy a_isEdge a_tried a_stands a_found a_foundOn a_moving : Nat} {v_keptMany : Int32} {v_thrown : Int32} {v_buffered : Int32} {v_size : Int32} {v_at : Int32} {v_behind : Int32} {v_kind : Int32} {v_wrong : Int32} {v_wrongAt : Int32} {v_errorAt : Int32} {v_number : Int64} {v_movingMany : Int32} {v_foundIncome : Int32} {v_foundMoves : Int32} {res : Int32}
def rmX6_isTrader : Room := { frames := 1, cells := 0, slots := 0, locals := 25 }
abbrev zwX6_isTrader : List Cond := Cond.code yX6_isTrader cX6_isTrader 2 (some .boolean) :: wsAll
set_option maxHeartbeats 4000000 in
set_option maxRecDepth 100000 in
theorem c_X6_isTrader {l : Launch} {D : va_G} {cI cZ cM : ClassId} {a_this a_a a_fresh a_kept a_buffer a_best a_rentBy a_bareBy a_aheadBy a_isEdge a_tried a_stands a_found a_foundOn a_moving : Nat} {v_keptMany : Int32} {v_thrown : Int32} {v_buffered : Int32} {v_size : Int32} {v_at : Int32} {v_behind : Int32} {v_kind : Int32} {v_wrong : Int32} {v_wrongAt : Int32} {v_errorAt : Int32} {v_number : Int64} {v_movingMany : Int32} {v_foundIncome : Int32} {v_foundMoves : Int32} {res : Int32} {sz : Nat} {v_a : Nat → Int32} {x1 : Int32} (hf : f_X6_isTrader v_a x1 = some res) : Met l yX6_isTrader zwX6_isTrader rmX6_isTrader (zPc D (zT cI cZ cM) [.ref a_this, .int x1] [(a_this, .inr (6, [.ref a_a, .ref a_fresh, .ref a_kept, .int v_keptMany, .int v_thrown, .ref a_buffer, .int v_buffered, .int v_size, .int v_at, .int v_behind, .int v_kind, .int v_wrong, .int v_wrongAt, .int v_errorAt, .long v_number, .ref a_best, .ref a_rentBy, .ref a_bareBy, .ref a_aheadBy, .ref a_isEdge, .ref a_tried, .ref a_stands, .ref a_found, .ref a_foundOn, .ref a_moving, .int v_movingMany, .int v_foundIncome, .int v_foundMoves])), (a_a, .inl (cI, 180, .inl v_a))] sz) (zQi D (zT cI cZ cM) res [(a_this, .inr (6, [.ref a_a, .ref a_fresh, .ref a_kept, .int v_keptMany, .int v_thrown, .ref a_buffer, .int v_buffered, .int v_size, .int v_at, .int v_behind, .int v_kind, .int v_wrong, .int v_wrongAt, .int v_errorAt, .long v_number, .ref a_best, .ref a_rentBy, .ref a_bareBy, .ref a_aheadBy, .ref a_isEdge, .ref a_tried, .ref a_stands, .ref a_found, .ref a_foundOn, .ref a_moving, .int v_movingMany, .int v_foundIncome, .int v_foundMoves])), (a_a, .inl (cI, 180, .inl v_a))] (va_A [(a_this, .inr (6, [.ref a_a, .ref a_fresh, .ref a_kept, .int v_keptMany, .int v_thrown, .ref a_buffer, .int v_buffered, .int v_size, .int v_at, .int v_behind, .int v_kind, .int v_wrong, .int v_wrongAt, .int v_errorAt, .long v_number, .ref a_best, .ref a_rentBy, .ref a_bareBy, .ref a_aheadBy, .ref a_isEdge, .ref a_tried, .ref a_stands, .ref a_found, .ref a_foundOn, .ref a_moving, .int v_movingMany, .int v_foundIncome, .int v_foundMoves])), (a_a, .inl (cI, 180, .inl v_a))] sz)) 0 0 (va_A [(a_this, .inr (6, [.ref a_a, .ref a_fresh, .ref a_kept, .int v_keptMany, .int v_thrown, .ref a_buffer, .int v_buffered, .int v_size, .int v_at, .int v_behind, .int v_kind, .int v_wrong, .int v_wrongAt, .int v_errorAt, .long v_number, .ref a_best, .ref a_rentBy, .ref a_bareBy, .ref a_aheadBy, .ref a_isEdge, .ref a_tried, .ref a_stands, .ref a_found, .ref a_foundOn, .ref a_moving, .int v_movingMany, .int v_foundIncome, .int v_foundMoves])), (a_a, .inl (cI, 180, .inl v_a))] sz) := by
  refine z_met (cc := cX6_isTrader) (maxL := 2) (ret := (some .boolean)) (by decide) rfl (Nat.le_of_ble_eq_true rfl) ?_
  intro p e s m below meth c ls E hsz hw hl
  obtain ⟨⟨hx, hb, hml, hown, hts⟩, hr, hlocks⟩ := id E
  have hl : lv_has ls 2 [(0, .ref a_this), (1, .int x1)] := hl
  unfold f_X6_isTrader at hf
  refine lv_iload_n hx hb dX6_isTrader_0 rfl (lv_at hl 1 rfl) ?_
  refine lv_i2l hx hb dX6_isTrader_1 rfl ?_
  refine lv_lconst (v := 0) hx hb dX6_isTrader_2 (by decide) ?_
  refine lv_aload_n hx hb dX6_isTrader_3 rfl (lv_at hl 0 rfl) ?_
  refine z_get E.1 hw in_wsX60 0 rfl rfl 0 (z_lt rfl) mw_593 (v := .ref a_a) rfl dX6_isTrader_4 ?_
  refine lv_bipush (v := 74) hx hb dX6_isTrader_7 (by decide) ?_
  obtain ⟨h_1, hf⟩ := oA_elim hf
  refine z_iald E.1 hw 1 0 rfl rfl h_1 dX6_isTrader_9 ?_
  refine lv_iconst (v := 1) hx hb dX6_isTrader_10 (by decide) ?_
  refine lv_isub hx hb dX6_isTrader_11 ?_
  refine lv_i2l hx hb dX6_isTrader_12 rfl ?_
  obtain ⟨r_2, h_3, hf⟩ := oB_elim hf
  refine z_callSi (ws' := [(a_this, .inr (6, [.ref a_a, .ref a_fresh, .ref a_kept, .int v_keptMany, .int v_thrown, .ref a_buffer, .int v_buffered, .int v_size, .int v_at, .int v_behind, .int v_kind, .int v_wrong, .int v_wrongAt, .int v_errorAt, .long v_number, .ref a_best, .ref a_rentBy, .ref a_bareBy, .ref a_aheadBy, .ref a_isEdge, .ref a_tried, .ref a_stands, .ref a_found, .ref a_foundOn, .ref a_moving, .int v_movingMany, .int v_foundIncome, .int v_foundMoves])), (a_a, .inl (cI, 180, .inl v_a))]) (wr := [(a_this, .inr (6, [.ref a_a, .ref a_fresh, .ref a_kept, .int v_keptMany, .int v_thrown, .ref a_buffer, .int v_buffered, .int v_size, .int v_at, .int v_behind, .int v_kind, .int v_wrong, .int v_wrongAt, .int v_errorAt, .long v_number, .ref a_best, .ref a_rentBy, .ref a_bareBy, .ref a_aheadBy, .ref a_isEdge, .ref a_tried, .ref a_stands, .ref a_found, .ref a_foundOn, .ref a_moving, .int v_movingMany, .int v_foundIncome, .int v_foundMoves])), (a_a, .inl (cI, 180, .inl v_a))]) (As := [.long ((x1).toInt64), .long (0 : Int64), .long ((((v_a ((74 : Int32)).toNatClampNeg) - (1 : Int32))).toInt64)]) (rest := []) E.1 hl hw (c_X6_isIn h_3) (va_cwS 3 hts (z_gS mw_595 mw_596 mw_597 mw_598) rfl rfl rfl (by decide +kernel) ⟨(Nat.le_of_ble_eq_true rfl), (Nat.le_of_ble_eq_true rfl)⟩) 2 [] [(0, 2)] rfl rfl rfl rfl rfl rfl (by decide +kernel) rfl rfl (Nat.le_of_ble_eq_true rfl) dX6_isTrader_13 ⟨Nat.le_of_ble_eq_true rfl, Nat.le_of_ble_eq_true rfl⟩ (fun H locs hw => ?_)
  obtain ⟨h_4, hf⟩ := oG_elim hf
  cases hf
  exact z_zret E rfl (z_nar h_4) hw dX6_isTrader_16
end
/-! X6_contribution -/
section
variable {p : Program} {l : Launch} {e : Env} {s : State} {m : MethodId} {args : Array Value} {below : List Frame} {meth : Method} {c : Code} {D : va_G} {A : Nat → Prop} {cI cZ cM : ClassId} {a_this a_a a_fresh a_kept a_buffer a_best a_rentBy a_bareBy a_aheadBy a_isEdge a_tried a_stands a_found a_foundOn a_moving : Nat} {v_keptMany : Int32} {v_buffered : Int32} {v_size : Int32} {v_at : Int32} {v_behind : Int32} {v_kind : Int32} {v_wrong : Int32} {v_wrongAt : Int32} {v_errorAt : Int32} {v_number : Int64} {v_movingMany : Int32} {v_foundIncome : Int32} {v_foundMoves : Int32} {res : Int32 × Int32 × (Nat → Int32) × (Nat → Int32) × (Nat → Int32) × (Nat → Int32)}
def rmX6_contribution : Room := { frames := 3, cells := 0, slots := 0, locals := 79 }
abbrev zwX6_contribution : List Cond := Cond.code yX6_contribution cX6_contribution 2 (some .int) :: wsAll
set_option maxHeartbeats 4000000 in
set_option maxRecDepth 100000 in
theorem w_X6_contribution_14 {n : Nat} (E : zE p s m args meth c cX6_contribution 2 (some .int) zwX6_contribution RX6) : ∀ (t1 : Int32) (x1 : Int32) (v_a : Nat → Int32) (v_thrown : Int32) (v_best : Nat → Int32) (v_rentBy : Nat → Int32) (v_bareBy : Nat → Int32) (v_aheadBy : Nat → Int32), f_X6_contribution_14 n t1 x1 v_a v_thrown v_best v_rentBy v_bareBy v_aheadBy = some res → ∀ (H : Heap) (locs : List Loc) (ls : Array Slot), zW D (zT cI cZ cM) A s [(a_this, .inr (6, [.ref a_a, .ref a_fresh, .ref a_kept, .int v_keptMany, .int v_thrown, .ref a_buffer, .int v_buffered, .int v_size, .int v_at, .int v_behind, .int v_kind, .int v_wrong, .int v_wrongAt, .int v_errorAt, .long v_number, .ref a_best, .ref a_rentBy, .ref a_bareBy, .ref a_aheadBy, .ref a_isEdge, .ref a_tried, .ref a_stands, .ref a_found, .ref a_foundOn, .ref a_moving, .int v_movingMany, .int v_foundIncome, .int v_foundMoves])), (a_a, .inl (cI, 180, .inl v_a)), (a_best, .inl (cI, 345600, .inl v_best)), (a_rentBy, .inl (cI, 192, .inl v_rentBy)), (a_bareBy, .inl (cI, 192, .inl v_bareBy)), (a_aheadBy, .inl (cI, 192, .inl v_aheadBy))] H locs → lv_has ls 2 [(0, .ref a_this), (1, .int x1)] → W p l e rmX6_contribution s m args below meth c H locs 0 0 (MQ below (zQi D (zT cI cZ cM) res.1 [(a_this, .inr (6, [.ref a_a, .ref a_fresh, .ref a_kept, .int v_keptMany, .int res.2.1, .ref a_buffer, .int v_buffered, .int v_size, .int v_at, .int v_behind, .int v_kind, .int v_wrong, .int v_wrongAt, .int v_errorAt, .long v_number, .ref a_best, .ref a_rentBy, .ref a_bareBy, .ref a_aheadBy, .ref a_isEdge, .ref a_tried, .ref a_stands, .ref a_found, .ref a_foundOn, .ref a_moving, .int v_movingMany, .int v_foundIncome, .int v_foundMoves])), (a_a, .inl (cI, 180, .inl v_a)), (a_best, .inl (cI, 345600, .inl res.2.2.1)), (a_rentBy, .inl (cI, 192, .inl res.2.2.2.1)), (a_bareBy, .inl (cI, 192, .inl res.2.2.2.2.1)), (a_aheadBy, .inl (cI, 192, .inl res.2.2.2.2.2))] A) args s 0 0 A) (F0 m 14 ls [.int t1, .ref a_this]) := by
  obtain ⟨⟨hx, hb, hml, hown, hts⟩, hr, hlocks⟩ := id E
  intro t1 x1 v_a v_thrown v_best v_rentBy v_bareBy v_aheadBy hf H locs ls hw hl
  unfold f_X6_contribution_14 at hf
  refine z_put (ws' := [(a_this, .inr (6, [.ref a_a, .ref a_fresh, .ref a_kept, .int v_keptMany, .int t1, .ref a_buffer, .int v_buffered, .int v_size, .int v_at, .int v_behind, .int v_kind, .int v_wrong, .int v_wrongAt, .int v_errorAt, .long v_number, .ref a_best, .ref a_rentBy, .ref a_bareBy, .ref a_aheadBy, .ref a_isEdge, .ref a_tried, .ref a_stands, .ref a_found, .ref a_foundOn, .ref a_moving, .int v_movingMany, .int v_foundIncome, .int v_foundMoves])), (a_a, .inl (cI, 180, .inl v_a)), (a_best, .inl (cI, 345600, .inl v_best)), (a_rentBy, .inl (cI, 192, .inl v_rentBy)), (a_bareBy, .inl (cI, 192, .inl v_bareBy)), (a_aheadBy, .inl (cI, 192, .inl v_aheadBy))]) E.1 hw in_wsX60 tyX6 tyX6_ok nmX6 0 rfl rfl 4 (z_lt rfl) mw_594 rfl rfl rfl (z_lt rfl) rfl dX6_contribution_14 (fun H locs hw => ?_)
  refine lv_aload_n hx hb dX6_contribution_17 rfl (lv_at hl 0 rfl) ?_
  refine z_get E.1 hw in_wsX60 0 rfl rfl 4 (z_lt rfl) mw_594 (v := .int t1) rfl dX6_contribution_18 ?_
  refine lv_if_le (tgt := 26) hx hb dX6_contribution_21 (by decide) (fun hc => ?_) (fun hc => ?_)
  · have hf := oI_pos hc hf
    refine lv_aload_n hx hb dX6_contribution_26 rfl (lv_at hl 0 rfl) ?_
    refine lv_aload_n hx hb dX6_contribution_27 rfl (lv_at hl 0 rfl) ?_
    refine z_get E.1 hw in_wsX60 0 rfl rfl 0 (z_lt rfl) mw_593 (v := .ref a_a) rfl dX6_contribution_28 ?_
    refine lv_sipush (v := 179) hx hb dX6_contribution_31 (by decide) ?_
    obtain ⟨h_1, hf⟩ := oA_elim hf
    refine z_iald E.1 hw 1 0 rfl rfl h_1 dX6_contribution_34 ?_
    obtain ⟨r_2, v_3, v_4, v_5, v_6, h_7, hf⟩ := oB5_elim hf
    refine z_callVi (ws' := [(a_this, .inr (6, [.ref a_a, .ref a_fresh, .ref a_kept, .int v_keptMany, .int t1, .ref a_buffer, .int v_buffered, .int v_size, .int v_at, .int v_behind, .int v_kind, .int v_wrong, .int v_wrongAt, .int v_errorAt, .long v_number, .ref a_best, .ref a_rentBy, .ref a_bareBy, .ref a_aheadBy, .ref a_isEdge, .ref a_tried, .ref a_stands, .ref a_found, .ref a_foundOn, .ref a_moving, .int v_movingMany, .int v_foundIncome, .int v_foundMoves])), (a_a, .inl (cI, 180, .inl v_a)), (a_best, .inl (cI, 345600, .inl v_3)), (a_rentBy, .inl (cI, 192, .inl v_4)), (a_bareBy, .inl (cI, 192, .inl v_5)), (a_aheadBy, .inl (cI, 192, .inl v_6))]) (wr := []) (As := [.int (v_a ((179 : Int32)).toNatClampNeg)]) (rest := []) E.1 hl hw (c_X6_plans h_7) (cwV 1 hts (z_gV mw_632 mw_633 mw_634 mw_597 mw_635) rfl rfl rfl (by decide +kernel) ⟨(Nat.le_of_ble_eq_true rfl), (Nat.le_of_ble_eq_true rfl)⟩) 6 [(0, 6)] [] rfl rfl rfl rfl rfl rfl (by decide +kernel) rfl (q0 := 0) rfl rfl rfl (Nat.le_of_ble_eq_true rfl) dX6_contribution_35 ⟨Nat.le_of_ble_eq_true rfl, Nat.le_of_ble_eq_true rfl⟩ (fun H locs hw => ?_)
    refine lv_aload_n hx hb dX6_contribution_38 rfl (lv_at hl 0 rfl) ?_
    refine z_get E.1 hw in_wsX60 0 rfl rfl 15 (z_lt rfl) mw_623 (v := .ref a_best) rfl dX6_contribution_39 ?_
    refine lv_iconst (v := 0) hx hb dX6_contribution_42 (by decide) ?_
    refine lv_iconst (v := 1) hx hb dX6_contribution_43 (by decide) ?_
    refine lv_iload_n hx hb dX6_contribution_44 rfl (lv_at hl 1 rfl) ?_
    refine lv_ishl hx hb dX6_contribution_45 ?_
    refine lv_bipush (v := 8) hx hb dX6_contribution_46 (by decide) ?_
    refine lv_aload_n hx hb dX6_contribution_48 rfl (lv_at hl 0 rfl) ?_
    refine z_get E.1 hw in_wsX60 0 rfl rfl 0 (z_lt rfl) mw_593 (v := .ref a_a) rfl dX6_contribution_49 ?_
    refine lv_sipush (v := 179) hx hb dX6_contribution_52 (by decide) ?_
    obtain ⟨h_8, hf⟩ := oA_elim hf
    refine z_iald E.1 hw 1 0 rfl rfl h_8 dX6_contribution_55 ?_
    obtain ⟨r_9, h_10, hf⟩ := oB_elim hf
    refine z_callSi (ws' := [(a_this, .inr (6, [.ref a_a, .ref a_fresh, .ref a_kept, .int v_keptMany, .int t1, .ref a_buffer, .int v_buffered, .int v_size, .int v_at, .int v_behind, .int v_kind, .int v_wrong, .int v_wrongAt, .int v_errorAt, .long v_number, .ref a_best, .ref a_rentBy, .ref a_bareBy, .ref a_aheadBy, .ref a_isEdge, .ref a_tried, .ref a_stands, .ref a_found, .ref a_foundOn, .ref a_moving, .int v_movingMany, .int v_foundIncome, .int v_foundMoves])), (a_a, .inl (cI, 180, .inl v_a)), (a_best, .inl (cI, 345600, .inl v_3)), (a_rentBy, .inl (cI, 192, .inl v_4)), (a_bareBy, .inl (cI, 192, .inl v_5)), (a_aheadBy, .inl (cI, 192, .inl v_6))]) (wr := [(a_this, .inr (6, [.ref a_a, .ref a_fresh, .ref a_kept, .int v_keptMany, .int t1, .ref a_buffer, .int v_buffered, .int v_size, .int v_at, .int v_behind, .int v_kind, .int v_wrong, .int v_wrongAt, .int v_errorAt, .long v_number, .ref a_best, .ref a_rentBy, .ref a_bareBy, .ref a_aheadBy, .ref a_isEdge, .ref a_tried, .ref a_stands, .ref a_found, .ref a_foundOn, .ref a_moving, .int v_movingMany, .int v_foundIncome, .int v_foundMoves])), (a_a, .inl (cI, 180, .inl v_a)), (a_best, .inl (cI, 345600, .inl v_3)), (a_rentBy, .inl (cI, 192, .inl v_4)), (a_bareBy, .inl (cI, 192, .inl v_5)), (a_aheadBy, .inl (cI, 192, .inl v_6))]) (As := [.int (0 : Int32), .int ((1 : Int32) <<< (x1 &&& 31)), .int (8 : Int32), .int (v_a ((179 : Int32)).toNatClampNeg)]) (rest := [.ref a_best, .int r_2]) E.1 hl hw (c_X6_at h_10) (va_cwS 4 hts (z_gS mw_629 mw_630 mw_597 mw_618) rfl rfl rfl (by decide +kernel) ⟨(Nat.le_of_ble_eq_true rfl), (Nat.le_of_ble_eq_true rfl)⟩) 6 [] [(0, 6)] rfl rfl rfl rfl rfl rfl (by decide +kernel) rfl rfl (Nat.le_of_ble_eq_true rfl) dX6_contribution_56 ⟨Nat.le_of_ble_eq_true rfl, Nat.le_of_ble_eq_true rfl⟩ (fun H locs hw => ?_)
    obtain ⟨h_11, hf⟩ := oA_elim hf
    refine z_iald E.1 hw 2 0 rfl rfl h_11 dX6_contribution_59 ?_
    refine lv_bipush (v := 16) hx hb dX6_contribution_60 (by decide) ?_
    refine lv_idiv hx hb dX6_contribution_62 (by decide) ?_
    refine lv_isub hx hb dX6_contribution_63 ?_
    cases hf
    exact z_iret E rfl hw dX6_contribution_64
  · have hf := oI_neg hc hf
    refine lv_iconst (v := 0) hx hb dX6_contribution_24 (by decide) ?_
    cases hf
    exact z_iret E rfl hw dX6_contribution_25
set_option maxHeartbeats 4000000 in
set_option maxRecDepth 100000 in
theorem c_X6_contribution {l : Launch} {D : va_G} {cI cZ cM : ClassId} {a_this a_a a_fresh a_kept a_buffer a_best a_rentBy a_bareBy a_aheadBy a_isEdge a_tried a_stands a_found a_foundOn a_moving : Nat} {v_keptMany : Int32} {v_buffered : Int32} {v_size : Int32} {v_at : Int32} {v_behind : Int32} {v_kind : Int32} {v_wrong : Int32} {v_wrongAt : Int32} {v_errorAt : Int32} {v_number : Int64} {v_movingMany : Int32} {v_foundIncome : Int32} {v_foundMoves : Int32} {res : Int32 × Int32 × (Nat → Int32) × (Nat → Int32) × (Nat → Int32) × (Nat → Int32)} {sz : Nat} {n : Nat} {v_a : Nat → Int32} {v_thrown : Int32} {v_best : Nat → Int32} {v_rentBy : Nat → Int32} {v_bareBy : Nat → Int32} {v_aheadBy : Nat → Int32} {x1 : Int32} (hf : f_X6_contribution n v_a v_thrown v_best v_rentBy v_bareBy v_aheadBy x1 = some res) : Met l yX6_contribution zwX6_contribution rmX6_contribution (zPc D (zT cI cZ cM) [.ref a_this, .int x1] [(a_this, .inr (6, [.ref a_a, .ref a_fresh, .ref a_kept, .int v_keptMany, .int v_thrown, .ref a_buffer, .int v_buffered, .int v_size, .int v_at, .int v_behind, .int v_kind, .int v_wrong, .int v_wrongAt, .int v_errorAt, .long v_number, .ref a_best, .ref a_rentBy, .ref a_bareBy, .ref a_aheadBy, .ref a_isEdge, .ref a_tried, .ref a_stands, .ref a_found, .ref a_foundOn, .ref a_moving, .int v_movingMany, .int v_foundIncome, .int v_foundMoves])), (a_a, .inl (cI, 180, .inl v_a)), (a_best, .inl (cI, 345600, .inl v_best)), (a_rentBy, .inl (cI, 192, .inl v_rentBy)), (a_bareBy, .inl (cI, 192, .inl v_bareBy)), (a_aheadBy, .inl (cI, 192, .inl v_aheadBy))] sz) (zQi D (zT cI cZ cM) res.1 [(a_this, .inr (6, [.ref a_a, .ref a_fresh, .ref a_kept, .int v_keptMany, .int res.2.1, .ref a_buffer, .int v_buffered, .int v_size, .int v_at, .int v_behind, .int v_kind, .int v_wrong, .int v_wrongAt, .int v_errorAt, .long v_number, .ref a_best, .ref a_rentBy, .ref a_bareBy, .ref a_aheadBy, .ref a_isEdge, .ref a_tried, .ref a_stands, .ref a_found, .ref a_foundOn, .ref a_moving, .int v_movingMany, .int v_foundIncome, .int v_foundMoves])), (a_a, .inl (cI, 180, .inl v_a)), (a_best, .inl (cI, 345600, .inl res.2.2.1)), (a_rentBy, .inl (cI, 192, .inl res.2.2.2.1)), (a_bareBy, .inl (cI, 192, .inl res.2.2.2.2.1)), (a_aheadBy, .inl (cI, 192, .inl res.2.2.2.2.2))] (va_A [(a_this, .inr (6, [.ref a_a, .ref a_fresh, .ref a_kept, .int v_keptMany, .int v_thrown, .ref a_buffer, .int v_buffered, .int v_size, .int v_at, .int v_behind, .int v_kind, .int v_wrong, .int v_wrongAt, .int v_errorAt, .long v_number, .ref a_best, .ref a_rentBy, .ref a_bareBy, .ref a_aheadBy, .ref a_isEdge, .ref a_tried, .ref a_stands, .ref a_found, .ref a_foundOn, .ref a_moving, .int v_movingMany, .int v_foundIncome, .int v_foundMoves])), (a_a, .inl (cI, 180, .inl v_a)), (a_best, .inl (cI, 345600, .inl v_best)), (a_rentBy, .inl (cI, 192, .inl v_rentBy)), (a_bareBy, .inl (cI, 192, .inl v_bareBy)), (a_aheadBy, .inl (cI, 192, .inl v_aheadBy))] sz)) 0 0 (va_A [(a_this, .inr (6, [.ref a_a, .ref a_fresh, .ref a_kept, .int v_keptMany, .int v_thrown, .ref a_buffer, .int v_buffered, .int v_size, .int v_at, .int v_behind, .int v_kind, .int v_wrong, .int v_wrongAt, .int v_errorAt, .long v_number, .ref a_best, .ref a_rentBy, .ref a_bareBy, .ref a_aheadBy, .ref a_isEdge, .ref a_tried, .ref a_stands, .ref a_found, .ref a_foundOn, .ref a_moving, .int v_movingMany, .int v_foundIncome, .int v_foundMoves])), (a_a, .inl (cI, 180, .inl v_a)), (a_best, .inl (cI, 345600, .inl v_best)), (a_rentBy, .inl (cI, 192, .inl v_rentBy)), (a_bareBy, .inl (cI, 192, .inl v_bareBy)), (a_aheadBy, .inl (cI, 192, .inl v_aheadBy))] sz) := by
  refine z_met (cc := cX6_contribution) (maxL := 2) (ret := (some .int)) (by decide) rfl (Nat.le_of_ble_eq_true rfl) ?_
  intro p e s m below meth c ls E hsz hw hl
  obtain ⟨⟨hx, hb, hml, hown, hts⟩, hr, hlocks⟩ := id E
  have hl : lv_has ls 2 [(0, .ref a_this), (1, .int x1)] := hl
  unfold f_X6_contribution at hf
  refine lv_aload_n hx hb dX6_contribution_0 rfl (lv_at hl 0 rfl) ?_
  refine lv_aload_n hx hb dX6_contribution_1 rfl (lv_at hl 0 rfl) ?_
  refine lv_iload_n hx hb dX6_contribution_2 rfl (lv_at hl 1 rfl) ?_
  obtain ⟨r_12, h_13, hf⟩ := oB_elim hf
  refine z_callVi (ws' := [(a_this, .inr (6, [.ref a_a, .ref a_fresh, .ref a_kept, .int v_keptMany, .int v_thrown, .ref a_buffer, .int v_buffered, .int v_size, .int v_at, .int v_behind, .int v_kind, .int v_wrong, .int v_wrongAt, .int v_errorAt, .long v_number, .ref a_best, .ref a_rentBy, .ref a_bareBy, .ref a_aheadBy, .ref a_isEdge, .ref a_tried, .ref a_stands, .ref a_found, .ref a_foundOn, .ref a_moving, .int v_movingMany, .int v_foundIncome, .int v_foundMoves])), (a_a, .inl (cI, 180, .inl v_a)), (a_best, .inl (cI, 345600, .inl v_best)), (a_rentBy, .inl (cI, 192, .inl v_rentBy)), (a_bareBy, .inl (cI, 192, .inl v_bareBy)), (a_aheadBy, .inl (cI, 192, .inl v_aheadBy))]) (wr := [(a_best, .inl (cI, 345600, .inl v_best)), (a_rentBy, .inl (cI, 192, .inl v_rentBy)), (a_bareBy, .inl (cI, 192, .inl v_bareBy)), (a_aheadBy, .inl (cI, 192, .inl v_aheadBy))]) (As := [.int x1]) (rest := [.ref a_this]) E.1 hl hw (c_X6_isTrader h_13) (cwV 1 hts (z_gV mw_714 mw_715 mw_716 mw_597 mw_717) rfl rfl rfl (by decide +kernel) ⟨(Nat.le_of_ble_eq_true rfl), (Nat.le_of_ble_eq_true rfl)⟩) 6 [(0, 2)] [(2, 4)] rfl rfl rfl rfl rfl rfl (by decide +kernel) rfl (q0 := 0) rfl rfl rfl (Nat.le_of_ble_eq_true rfl) dX6_contribution_3 ⟨Nat.le_of_ble_eq_true rfl, Nat.le_of_ble_eq_true rfl⟩ (fun H locs hw => ?_)
  refine lv_if_eq (tgt := 13) hx hb dX6_contribution_6 (by decide) (fun hc => ?_) (fun hc => ?_)
  · have hf := oI_pos hc hf
    refine lv_iconst (v := 1) hx hb dX6_contribution_13 (by decide) ?_
    exact w_X6_contribution_14 E  _ _ _ _ _ _ _ _ hf _ _ _ hw (lv_sub hl [0, 1] rfl)
  · have hf := oI_neg hc hf
    refine lv_iconst (v := 0) hx hb dX6_contribution_9 (by decide) ?_
    refine lv_goto (tgt := 14) hx hb dX6_contribution_10 (by decide) ?_
    exact w_X6_contribution_14 E  _ _ _ _ _ _ _ _ hf _ _ _ hw (lv_sub hl [0, 1] rfl)
end
/-! X6_coverValue -/
section
variable {p : Program} {l : Launch} {e : Env} {s : State} {m : MethodId} {args : Array Value} {below : List Frame} {meth : Method} {c : Code} {D : va_G} {A : Nat → Prop} {cI cZ cM : ClassId} {a_this a_a a_fresh a_kept a_buffer a_best a_rentBy a_bareBy a_aheadBy a_isEdge a_tried a_stands a_found a_foundOn a_moving : Nat} {v_keptMany : Int32} {v_buffered : Int32} {v_size : Int32} {v_at : Int32} {v_behind : Int32} {v_kind : Int32} {v_wrong : Int32} {v_wrongAt : Int32} {v_errorAt : Int32} {v_number : Int64} {v_movingMany : Int32} {v_foundIncome : Int32} {v_foundMoves : Int32} {res : Int32 × Int32 × (Nat → Int32) × (Nat → Int32) × (Nat → Int32) × (Nat → Int32)}
def rmX6_coverValue : Room := { frames := 3, cells := 0, slots := 0, locals := 79 }
abbrev zwX6_coverValue : List Cond := Cond.code yX6_coverValue cX6_coverValue 2 (some .int) :: wsAll
set_option maxHeartbeats 4000000 in
set_option maxRecDepth 100000 in
theorem c_X6_coverValue {l : Launch} {D : va_G} {cI cZ cM : ClassId} {a_this a_a a_fresh a_kept a_buffer a_best a_rentBy a_bareBy a_aheadBy a_isEdge a_tried a_stands a_found a_foundOn a_moving : Nat} {v_keptMany : Int32} {v_buffered : Int32} {v_size : Int32} {v_at : Int32} {v_behind : Int32} {v_kind : Int32} {v_wrong : Int32} {v_wrongAt : Int32} {v_errorAt : Int32} {v_number : Int64} {v_movingMany : Int32} {v_foundIncome : Int32} {v_foundMoves : Int32} {res : Int32 × Int32 × (Nat → Int32) × (Nat → Int32) × (Nat → Int32) × (Nat → Int32)} {sz : Nat} {n : Nat} {v_a : Nat → Int32} {v_thrown : Int32} {v_best : Nat → Int32} {v_rentBy : Nat → Int32} {v_bareBy : Nat → Int32} {v_aheadBy : Nat → Int32} (hf : f_X6_coverValue n v_a v_thrown v_best v_rentBy v_bareBy v_aheadBy = some res) : Met l yX6_coverValue zwX6_coverValue rmX6_coverValue (zPc D (zT cI cZ cM) [.ref a_this] [(a_this, .inr (6, [.ref a_a, .ref a_fresh, .ref a_kept, .int v_keptMany, .int v_thrown, .ref a_buffer, .int v_buffered, .int v_size, .int v_at, .int v_behind, .int v_kind, .int v_wrong, .int v_wrongAt, .int v_errorAt, .long v_number, .ref a_best, .ref a_rentBy, .ref a_bareBy, .ref a_aheadBy, .ref a_isEdge, .ref a_tried, .ref a_stands, .ref a_found, .ref a_foundOn, .ref a_moving, .int v_movingMany, .int v_foundIncome, .int v_foundMoves])), (a_a, .inl (cI, 180, .inl v_a)), (a_best, .inl (cI, 345600, .inl v_best)), (a_rentBy, .inl (cI, 192, .inl v_rentBy)), (a_bareBy, .inl (cI, 192, .inl v_bareBy)), (a_aheadBy, .inl (cI, 192, .inl v_aheadBy))] sz) (zQi D (zT cI cZ cM) res.1 [(a_this, .inr (6, [.ref a_a, .ref a_fresh, .ref a_kept, .int v_keptMany, .int res.2.1, .ref a_buffer, .int v_buffered, .int v_size, .int v_at, .int v_behind, .int v_kind, .int v_wrong, .int v_wrongAt, .int v_errorAt, .long v_number, .ref a_best, .ref a_rentBy, .ref a_bareBy, .ref a_aheadBy, .ref a_isEdge, .ref a_tried, .ref a_stands, .ref a_found, .ref a_foundOn, .ref a_moving, .int v_movingMany, .int v_foundIncome, .int v_foundMoves])), (a_a, .inl (cI, 180, .inl v_a)), (a_best, .inl (cI, 345600, .inl res.2.2.1)), (a_rentBy, .inl (cI, 192, .inl res.2.2.2.1)), (a_bareBy, .inl (cI, 192, .inl res.2.2.2.2.1)), (a_aheadBy, .inl (cI, 192, .inl res.2.2.2.2.2))] (va_A [(a_this, .inr (6, [.ref a_a, .ref a_fresh, .ref a_kept, .int v_keptMany, .int v_thrown, .ref a_buffer, .int v_buffered, .int v_size, .int v_at, .int v_behind, .int v_kind, .int v_wrong, .int v_wrongAt, .int v_errorAt, .long v_number, .ref a_best, .ref a_rentBy, .ref a_bareBy, .ref a_aheadBy, .ref a_isEdge, .ref a_tried, .ref a_stands, .ref a_found, .ref a_foundOn, .ref a_moving, .int v_movingMany, .int v_foundIncome, .int v_foundMoves])), (a_a, .inl (cI, 180, .inl v_a)), (a_best, .inl (cI, 345600, .inl v_best)), (a_rentBy, .inl (cI, 192, .inl v_rentBy)), (a_bareBy, .inl (cI, 192, .inl v_bareBy)), (a_aheadBy, .inl (cI, 192, .inl v_aheadBy))] sz)) 0 0 (va_A [(a_this, .inr (6, [.ref a_a, .ref a_fresh, .ref a_kept, .int v_keptMany, .int v_thrown, .ref a_buffer, .int v_buffered, .int v_size, .int v_at, .int v_behind, .int v_kind, .int v_wrong, .int v_wrongAt, .int v_errorAt, .long v_number, .ref a_best, .ref a_rentBy, .ref a_bareBy, .ref a_aheadBy, .ref a_isEdge, .ref a_tried, .ref a_stands, .ref a_found, .ref a_foundOn, .ref a_moving, .int v_movingMany, .int v_foundIncome, .int v_foundMoves])), (a_a, .inl (cI, 180, .inl v_a)), (a_best, .inl (cI, 345600, .inl v_best)), (a_rentBy, .inl (cI, 192, .inl v_rentBy)), (a_bareBy, .inl (cI, 192, .inl v_bareBy)), (a_aheadBy, .inl (cI, 192, .inl v_aheadBy))] sz) := by
  refine z_met (cc := cX6_coverValue) (maxL := 2) (ret := (some .int)) (by decide) rfl (Nat.le_of_ble_eq_true rfl) ?_
  intro p e s m below meth c ls E hsz hw hl
  obtain ⟨⟨hx, hb, hml, hown, hts⟩, hr, hlocks⟩ := id E
  have hl : lv_has ls 2 [(0, .ref a_this)] := hl
  unfold f_X6_coverValue at hf
  refine lv_aload_n hx hb dX6_coverValue_0 rfl (lv_at hl 0 rfl) ?_
  refine lv_iconst (v := 0) hx hb dX6_coverValue_1 (by decide) ?_
  refine z_put (ws' := [(a_this, .inr (6, [.ref a_a, .ref a_fresh, .ref a_kept, .int v_keptMany, .int (0 : Int32), .ref a_buffer, .int v_buffered, .int v_size, .int v_at, .int v_behind, .int v_kind, .int v_wrong, .int v_wrongAt, .int v_errorAt, .long v_number, .ref a_best, .ref a_rentBy, .ref a_bareBy, .ref a_aheadBy, .ref a_isEdge, .ref a_tried, .ref a_stands, .ref a_found, .ref a_foundOn, .ref a_moving, .int v_movingMany, .int v_foundIncome, .int v_foundMoves])), (a_a, .inl (cI, 180, .inl v_a)), (a_best, .inl (cI, 345600, .inl v_best)), (a_rentBy, .inl (cI, 192, .inl v_rentBy)), (a_bareBy, .inl (cI, 192, .inl v_bareBy)), (a_aheadBy, .inl (cI, 192, .inl v_aheadBy))]) E.1 hw in_wsX60 tyX6 tyX6_ok nmX6 0 rfl rfl 4 (z_lt rfl) mw_594 rfl rfl rfl (z_lt rfl) rfl dX6_coverValue_2 (fun H locs hw => ?_)
  refine lv_aload_n hx hb dX6_coverValue_5 rfl (lv_at hl 0 rfl) ?_
  refine lv_aload_n hx hb dX6_coverValue_6 rfl (lv_at hl 0 rfl) ?_
  refine z_get E.1 hw in_wsX60 0 rfl rfl 0 (z_lt rfl) mw_593 (v := .ref a_a) rfl dX6_coverValue_7 ?_
  refine lv_sipush (v := 179) hx hb dX6_coverValue_10 (by decide) ?_
  obtain ⟨h_1, hf⟩ := oA_elim hf
  refine z_iald E.1 hw 1 0 rfl rfl h_1 dX6_coverValue_13 ?_
  obtain ⟨r_2, v_3, v_4, v_5, v_6, h_7, hf⟩ := oB5_elim hf
  refine z_callVi (ws' := [(a_this, .inr (6, [.ref a_a, .ref a_fresh, .ref a_kept, .int v_keptMany, .int (0 : Int32), .ref a_buffer, .int v_buffered, .int v_size, .int v_at, .int v_behind, .int v_kind, .int v_wrong, .int v_wrongAt, .int v_errorAt, .long v_number, .ref a_best, .ref a_rentBy, .ref a_bareBy, .ref a_aheadBy, .ref a_isEdge, .ref a_tried, .ref a_stands, .ref a_found, .ref a_foundOn, .ref a_moving, .int v_movingMany, .int v_foundIncome, .int v_foundMoves])), (a_a, .inl (cI, 180, .inl v_a)), (a_best, .inl (cI, 345600, .inl v_3)), (a_rentBy, .inl (cI, 192, .inl v_4)), (a_bareBy, .inl (cI, 192, .inl v_5)), (a_aheadBy, .inl (cI, 192, .inl v_6))]) (wr := []) (As := [.int (v_a ((179 : Int32)).toNatClampNeg)]) (rest := []) E.1 hl hw (c_X6_plans h_7) (cwV 1 hts (z_gV mw_632 mw_633 mw_634 mw_597 mw_635) rfl rfl rfl (by decide +kernel) ⟨(Nat.le_of_ble_eq_true rfl), (Nat.le_of_ble_eq_true rfl)⟩) 6 [(0, 6)] [] rfl rfl rfl rfl rfl rfl (by decide +kernel) rfl (q0 := 0) rfl rfl rfl (Nat.le_of_ble_eq_true rfl) dX6_coverValue_14 ⟨Nat.le_of_ble_eq_true rfl, Nat.le_of_ble_eq_true rfl⟩ (fun H locs hw => ?_)
  refine lv_istore_n (lv' := [(1, .int r_2), (0, .ref a_this)]) hx hb dX6_coverValue_17 rfl hl (z_lt rfl) rfl (fun ls hl => ?_)
  refine lv_aload_n hx hb dX6_coverValue_18 rfl (lv_at hl 1 rfl) ?_
  refine lv_aload_n hx hb dX6_coverValue_19 rfl (lv_at hl 1 rfl) ?_
  refine z_get E.1 hw in_wsX60 0 rfl rfl 0 (z_lt rfl) mw_593 (v := .ref a_a) rfl dX6_coverValue_20 ?_
  refine lv_sipush (v := 179) hx hb dX6_coverValue_23 (by decide) ?_
  obtain ⟨h_8, hf⟩ := oA_elim hf
  refine z_iald E.1 hw 1 0 rfl rfl h_8 dX6_coverValue_26 ?_
  refine lv_iconst (v := 1) hx hb dX6_coverValue_27 (by decide) ?_
  refine lv_iadd hx hb dX6_coverValue_28 ?_
  obtain ⟨r_9, v_10, v_11, v_12, v_13, h_14, hf⟩ := oB5_elim hf
  refine z_callVi (ws' := [(a_this, .inr (6, [.ref a_a, .ref a_fresh, .ref a_kept, .int v_keptMany, .int (0 : Int32), .ref a_buffer, .int v_buffered, .int v_size, .int v_at, .int v_behind, .int v_kind, .int v_wrong, .int v_wrongAt, .int v_errorAt, .long v_number, .ref a_best, .ref a_rentBy, .ref a_bareBy, .ref a_aheadBy, .ref a_isEdge, .ref a_tried, .ref a_stands, .ref a_found, .ref a_foundOn, .ref a_moving, .int v_movingMany, .int v_foundIncome, .int v_foundMoves])), (a_a, .inl (cI, 180, .inl v_a)), (a_best, .inl (cI, 345600, .inl v_10)), (a_rentBy, .inl (cI, 192, .inl v_11)), (a_bareBy, .inl (cI, 192, .inl v_12)), (a_aheadBy, .inl (cI, 192, .inl v_13))]) (wr := []) (As := [.int ((v_a ((179 : Int32)).toNatClampNeg) + (1 : Int32))]) (rest := []) E.1 hl hw (c_X6_plans h_14) (cwV 1 hts (z_gV mw_632 mw_633 mw_634 mw_597 mw_635) rfl rfl rfl (by decide +kernel) ⟨(Nat.le_of_ble_eq_true rfl), (Nat.le_of_ble_eq_true rfl)⟩) 6 [(0, 6)] [] rfl rfl rfl rfl rfl rfl (by decide +kernel) rfl (q0 := 0) rfl rfl rfl (Nat.le_of_ble_eq_true rfl) dX6_coverValue_29 ⟨Nat.le_of_ble_eq_true rfl, Nat.le_of_ble_eq_true rfl⟩ (fun H locs hw => ?_)
  refine lv_iload_n hx hb dX6_coverValue_32 rfl (lv_at hl 0 rfl) ?_
  refine lv_isub hx hb dX6_coverValue_33 ?_
  cases hf
  exact z_iret E rfl hw dX6_coverValue_34
end
/-! X6_usedCovers -/
section
variable {p : Program} {l : Launch} {e : Env} {s : State} {m : MethodId} {args : Array Value} {below : List Frame} {meth : Method} {c : Code} {D : va_G} {A : Nat → Prop} {cI cZ cM : ClassId} {a_this a_a a_fresh a_kept a_buffer a_best a_rentBy a_bareBy a_aheadBy a_isEdge a_tried a_stands a_found a_foundOn a_moving : Nat} {v_keptMany : Int32} {v_thrown : Int32} {v_buffered : Int32} {v_size : Int32} {v_at : Int32} {v_behind : Int32} {v_kind : Int32} {v_wrong : Int32} {v_wrongAt : Int32} {v_errorAt : Int32} {v_number : Int64} {v_movingMany : Int32} {v_foundIncome : Int32} {v_foundMoves : Int32} {res : Int32}
def rmX6_usedCovers : Room := { frames := 1, cells := 0, slots := 0, locals := 24 }
abbrev zwX6_usedCovers : List Cond := Cond.code yX6_usedCovers cX6_usedCovers 3 (some .int) :: wsAll
set_option maxHeartbeats 4000000 in
set_option maxRecDepth 100000 in
theorem w_X6_usedCovers_47 {n : Nat} (E : zE p s m args meth c cX6_usedCovers 3 (some .int) zwX6_usedCovers RX6) {k4 : Int32 → Int32 → (Nat → Int32) → Option (Int32)} (hk4 : ∀ (x1 : Int32) (x2 : Int32) (v_a : Nat → Int32), k4 x1 x2 v_a = some res → ∀ (H : Heap) (locs : List Loc) (ls : Array Slot), zW D (zT cI cZ cM) A s [(a_this, .inr (6, [.ref a_a, .ref a_fresh, .ref a_kept, .int v_keptMany, .int v_thrown, .ref a_buffer, .int v_buffered, .int v_size, .int v_at, .int v_behind, .int v_kind, .int v_wrong, .int v_wrongAt, .int v_errorAt, .long v_number, .ref a_best, .ref a_rentBy, .ref a_bareBy, .ref a_aheadBy, .ref a_isEdge, .ref a_tried, .ref a_stands, .ref a_found, .ref a_foundOn, .ref a_moving, .int v_movingMany, .int v_foundIncome, .int v_foundMoves])), (a_a, .inl (cI, 180, .inl v_a))] H locs → lv_has ls 3 [(0, .ref a_this), (1, .int x1), (2, .int x2)] → W p l e rmX6_usedCovers s m args below meth c H locs 0 0 (MQ below (zQi D (zT cI cZ cM) res [(a_this, .inr (6, [.ref a_a, .ref a_fresh, .ref a_kept, .int v_keptMany, .int v_thrown, .ref a_buffer, .int v_buffered, .int v_size, .int v_at, .int v_behind, .int v_kind, .int v_wrong, .int v_wrongAt, .int v_errorAt, .long v_number, .ref a_best, .ref a_rentBy, .ref a_bareBy, .ref a_aheadBy, .ref a_isEdge, .ref a_tried, .ref a_stands, .ref a_found, .ref a_foundOn, .ref a_moving, .int v_movingMany, .int v_foundIncome, .int v_foundMoves])), (a_a, .inl (cI, 180, .inl v_a))] A) args s 0 0 A) (F0 m 4 ls [])) : ∀ (t0 : Int32) (t1 : Int32) (x2 : Int32) (v_a : Nat → Int32), f_X6_usedCovers_47 n k4 t0 t1 x2 v_a = some res → ∀ (H : Heap) (locs : List Loc) (ls : Array Slot), zW D (zT cI cZ cM) A s [(a_this, .inr (6, [.ref a_a, .ref a_fresh, .ref a_kept, .int v_keptMany, .int v_thrown, .ref a_buffer, .int v_buffered, .int v_size, .int v_at, .int v_behind, .int v_kind, .int v_wrong, .int v_wrongAt, .int v_errorAt, .long v_number, .ref a_best, .ref a_rentBy, .ref a_bareBy, .ref a_aheadBy, .ref a_isEdge, .ref a_tried, .ref a_stands, .ref a_found, .ref a_foundOn, .ref a_moving, .int v_movingMany, .int v_foundIncome, .int v_foundMoves])), (a_a, .inl (cI, 180, .inl v_a))] H locs → lv_has ls 3 [(0, .ref a_this), (2, .int x2)] → W p l e rmX6_usedCovers s m args below meth c H locs 0 0 (MQ below (zQi D (zT cI cZ cM) res [(a_this, .inr (6, [.ref a_a, .ref a_fresh, .ref a_kept, .int v_keptMany, .int v_thrown, .ref a_buffer, .int v_buffered, .int v_size, .int v_at, .int v_behind, .int v_kind, .int v_wrong, .int v_wrongAt, .int v_errorAt, .long v_number, .ref a_best, .ref a_rentBy, .ref a_bareBy, .ref a_aheadBy, .ref a_isEdge, .ref a_tried, .ref a_stands, .ref a_found, .ref a_foundOn, .ref a_moving, .int v_movingMany, .int v_foundIncome, .int v_foundMoves])), (a_a, .inl (cI, 180, .inl v_a))] A) args s 0 0 A) (F0 m 47 ls [.int t1, .int t0]) := by
  obtain ⟨⟨hx, hb, hml, hown, hts⟩, hr, hlocks⟩ := id E
  intro t0 t1 x2 v_a hf H locs ls hw hl
  unfold f_X6_usedCovers_47 at hf
  refine lv_iadd hx hb dX6_usedCovers_47 ?_
  obtain ⟨y_1, e_y_1, hf⟩ := oL_elim hf
  refine z_top e_y_1 ?_
  refine lv_istore_n (lv' := [(1, .int y_1), (0, .ref a_this), (2, .int x2)]) hx hb dX6_usedCovers_48 rfl hl (z_lt rfl) rfl (fun ls hl => ?_)
  refine lv_iinc (v := (x2 + (1 : Int32))) (lv' := [(2, .int (x2 + (1 : Int32))), (1, .int y_1), (0, .ref a_this)]) hx hb dX6_usedCovers_49 hl (k := 2) rfl rfl (z_lt rfl) rfl (fun ls hl => ?_)
  refine lv_goto (tgt := 4) hx hb dX6_usedCovers_52 (by decide) ?_
  exact hk4 _ _ _ hf _ _ _ hw (lv_sub hl [2, 1, 0] rfl)
set_option maxHeartbeats 4000000 in
set_option maxRecDepth 100000 in
theorem w_X6_usedCovers_4 {n : Nat} (E : zE p s m args meth c cX6_usedCovers 3 (some .int) zwX6_usedCovers RX6) : ∀ (fu : Nat), ∀ (x1 : Int32) (x2 : Int32) (v_a : Nat → Int32), f_X6_usedCovers_4 n fu x1 x2 v_a = some res → ∀ (H : Heap) (locs : List Loc) (ls : Array Slot), zW D (zT cI cZ cM) A s [(a_this, .inr (6, [.ref a_a, .ref a_fresh, .ref a_kept, .int v_keptMany, .int v_thrown, .ref a_buffer, .int v_buffered, .int v_size, .int v_at, .int v_behind, .int v_kind, .int v_wrong, .int v_wrongAt, .int v_errorAt, .long v_number, .ref a_best, .ref a_rentBy, .ref a_bareBy, .ref a_aheadBy, .ref a_isEdge, .ref a_tried, .ref a_stands, .ref a_found, .ref a_foundOn, .ref a_moving, .int v_movingMany, .int v_foundIncome, .int v_foundMoves])), (a_a, .inl (cI, 180, .inl v_a))] H locs → lv_has ls 3 [(0, .ref a_this), (1, .int x1), (2, .int x2)] → W p l e rmX6_usedCovers s m args below meth c H locs 0 0 (MQ below (zQi D (zT cI cZ cM) res [(a_this, .inr (6, [.ref a_a, .ref a_fresh, .ref a_kept, .int v_keptMany, .int v_thrown, .ref a_buffer, .int v_buffered, .int v_size, .int v_at, .int v_behind, .int v_kind, .int v_wrong, .int v_wrongAt, .int v_errorAt, .long v_number, .ref a_best, .ref a_rentBy, .ref a_bareBy, .ref a_aheadBy, .ref a_isEdge, .ref a_tried, .ref a_stands, .ref a_found, .ref a_foundOn, .ref a_moving, .int v_movingMany, .int v_foundIncome, .int v_foundMoves])), (a_a, .inl (cI, 180, .inl v_a))] A) args s 0 0 A) (F0 m 4 ls []) := by
  obtain ⟨⟨hx, hb, hml, hown, hts⟩, hr, hlocks⟩ := id E
  intro fu
  induction fu with
  | zero => intro x1 x2 v_a hf; rw [f_X6_usedCovers_4.eq_1] at hf; cases hf
  | succ fu ih =>
    intro x1 x2 v_a hf H locs ls hw hl
    rw [f_X6_usedCovers_4.eq_2] at hf
    refine lv_iload_n hx hb dX6_usedCovers_4 rfl (lv_at hl 2 rfl) ?_
    refine lv_aload_n hx hb dX6_usedCovers_5 rfl (lv_at hl 0 rfl) ?_
    refine z_get E.1 hw in_wsX60 0 rfl rfl 0 (z_lt rfl) mw_593 (v := .ref a_a) rfl dX6_usedCovers_6 ?_
    refine lv_bipush (v := 74) hx hb dX6_usedCovers_9 (by decide) ?_
    obtain ⟨h_2, hf⟩ := oA_elim hf
    refine z_iald E.1 hw 1 0 rfl rfl h_2 dX6_usedCovers_11 ?_
    refine lv_icmp_ge (tgt := 55) hx hb dX6_usedCovers_12 (by decide) (fun hc => ?_) (fun hc => ?_)
    · have hf := oI_pos hc hf
      refine lv_iload_n hx hb dX6_usedCovers_55 rfl (lv_at hl 1 rfl) ?_
      cases hf
      exact z_iret E rfl hw dX6_usedCovers_56
    · have hf := oI_neg hc hf
      refine lv_iload_n hx hb dX6_usedCovers_15 rfl (lv_at hl 1 rfl) ?_
      refine lv_aload_n hx hb dX6_usedCovers_16 rfl (lv_at hl 0 rfl) ?_
      refine z_get E.1 hw in_wsX60 0 rfl rfl 0 (z_lt rfl) mw_593 (v := .ref a_a) rfl dX6_usedCovers_17 ?_
      refine lv_bipush (v := 107) hx hb dX6_usedCovers_20 (by decide) ?_
      refine lv_iload_n hx hb dX6_usedCovers_22 rfl (lv_at hl 2 rfl) ?_
      refine lv_iadd hx hb dX6_usedCovers_23 ?_
      obtain ⟨h_3, hf⟩ := oA_elim hf
      refine z_iald E.1 hw 1 0 rfl rfl h_3 dX6_usedCovers_24 ?_
      refine lv_iconst (v := -1) hx hb dX6_usedCovers_25 (by decide) ?_
      refine lv_icmp_ne (tgt := 33) hx hb dX6_usedCovers_26 (by decide) (fun hc => ?_) (fun hc => ?_)
      · have hf := oI_neg hc hf
        refine lv_aload_n hx hb dX6_usedCovers_33 rfl (lv_at hl 0 rfl) ?_
        refine lv_iload_n hx hb dX6_usedCovers_34 rfl (lv_at hl 2 rfl) ?_
        refine lv_aload_n hx hb dX6_usedCovers_35 rfl (lv_at hl 0 rfl) ?_
        refine z_get E.1 hw in_wsX60 0 rfl rfl 0 (z_lt rfl) mw_593 (v := .ref a_a) rfl dX6_usedCovers_36 ?_
        refine lv_bipush (v := 107) hx hb dX6_usedCovers_39 (by decide) ?_
        refine lv_iload_n hx hb dX6_usedCovers_41 rfl (lv_at hl 2 rfl) ?_
        refine lv_iadd hx hb dX6_usedCovers_42 ?_
        obtain ⟨h_4, hf⟩ := oA_elim hf
        refine z_iald E.1 hw 1 0 rfl rfl h_4 dX6_usedCovers_43 ?_
        obtain ⟨r_5, h_6, hf⟩ := oB_elim hf
        refine z_callVi (ws' := [(a_this, .inr (6, [.ref a_a, .ref a_fresh, .ref a_kept, .int v_keptMany, .int v_thrown, .ref a_buffer, .int v_buffered, .int v_size, .int v_at, .int v_behind, .int v_kind, .int v_wrong, .int v_wrongAt, .int v_errorAt, .long v_number, .ref a_best, .ref a_rentBy, .ref a_bareBy, .ref a_aheadBy, .ref a_isEdge, .ref a_tried, .ref a_stands, .ref a_found, .ref a_foundOn, .ref a_moving, .int v_movingMany, .int v_foundIncome, .int v_foundMoves])), (a_a, .inl (cI, 180, .inl v_a))]) (wr := []) (As := [.int x2, .int (v_a (((107 : Int32) + x2)).toNatClampNeg)]) (rest := [.int x1]) E.1 hl hw (c_X6_bare h_6) (cwV 2 hts (z_gV mw_648 mw_649 mw_650 mw_597 mw_619) rfl rfl rfl (by decide +kernel) ⟨(Nat.le_of_ble_eq_true rfl), (Nat.le_of_ble_eq_true rfl)⟩) 2 [(0, 2)] [] rfl rfl rfl rfl rfl rfl (by decide +kernel) rfl (q0 := 0) rfl rfl rfl (Nat.le_of_ble_eq_true rfl) dX6_usedCovers_44 ⟨Nat.le_of_ble_eq_true rfl, Nat.le_of_ble_eq_true rfl⟩ (fun H locs hw => ?_)
        exact w_X6_usedCovers_47 E ih _ _ _ _ hf _ _ _ hw (lv_sub hl [0, 2] rfl)
      · have hf := oI_pos hc hf
        refine lv_iconst (v := 0) hx hb dX6_usedCovers_29 (by decide) ?_
        refine lv_goto (tgt := 47) hx hb dX6_usedCovers_30 (by decide) ?_
        exact w_X6_usedCovers_47 E ih _ _ _ _ hf _ _ _ hw (lv_sub hl [0, 2] rfl)
set_option maxHeartbeats 4000000 in
set_option maxRecDepth 100000 in
theorem c_X6_usedCovers {l : Launch} {D : va_G} {cI cZ cM : ClassId} {a_this a_a a_fresh a_kept a_buffer a_best a_rentBy a_bareBy a_aheadBy a_isEdge a_tried a_stands a_found a_foundOn a_moving : Nat} {v_keptMany : Int32} {v_thrown : Int32} {v_buffered : Int32} {v_size : Int32} {v_at : Int32} {v_behind : Int32} {v_kind : Int32} {v_wrong : Int32} {v_wrongAt : Int32} {v_errorAt : Int32} {v_number : Int64} {v_movingMany : Int32} {v_foundIncome : Int32} {v_foundMoves : Int32} {res : Int32} {sz : Nat} {n : Nat} {v_a : Nat → Int32} (hf : f_X6_usedCovers n v_a = some res) : Met l yX6_usedCovers zwX6_usedCovers rmX6_usedCovers (zPc D (zT cI cZ cM) [.ref a_this] [(a_this, .inr (6, [.ref a_a, .ref a_fresh, .ref a_kept, .int v_keptMany, .int v_thrown, .ref a_buffer, .int v_buffered, .int v_size, .int v_at, .int v_behind, .int v_kind, .int v_wrong, .int v_wrongAt, .int v_errorAt, .long v_number, .ref a_best, .ref a_rentBy, .ref a_bareBy, .ref a_aheadBy, .ref a_isEdge, .ref a_tried, .ref a_stands, .ref a_found, .ref a_foundOn, .ref a_moving, .int v_movingMany, .int v_foundIncome, .int v_foundMoves])), (a_a, .inl (cI, 180, .inl v_a))] sz) (zQi D (zT cI cZ cM) res [(a_this, .inr (6, [.ref a_a, .ref a_fresh, .ref a_kept, .int v_keptMany, .int v_thrown, .ref a_buffer, .int v_buffered, .int v_size, .int v_at, .int v_behind, .int v_kind, .int v_wrong, .int v_wrongAt, .int v_errorAt, .long v_number, .ref a_best, .ref a_rentBy, .ref a_bareBy, .ref a_aheadBy, .ref a_isEdge, .ref a_tried, .ref a_stands, .ref a_found, .ref a_foundOn, .ref a_moving, .int v_movingMany, .int v_foundIncome, .int v_foundMoves])), (a_a, .inl (cI, 180, .inl v_a))] (va_A [(a_this, .inr (6, [.ref a_a, .ref a_fresh, .ref a_kept, .int v_keptMany, .int v_thrown, .ref a_buffer, .int v_buffered, .int v_size, .int v_at, .int v_behind, .int v_kind, .int v_wrong, .int v_wrongAt, .int v_errorAt, .long v_number, .ref a_best, .ref a_rentBy, .ref a_bareBy, .ref a_aheadBy, .ref a_isEdge, .ref a_tried, .ref a_stands, .ref a_found, .ref a_foundOn, .ref a_moving, .int v_movingMany, .int v_foundIncome, .int v_foundMoves])), (a_a, .inl (cI, 180, .inl v_a))] sz)) 0 0 (va_A [(a_this, .inr (6, [.ref a_a, .ref a_fresh, .ref a_kept, .int v_keptMany, .int v_thrown, .ref a_buffer, .int v_buffered, .int v_size, .int v_at, .int v_behind, .int v_kind, .int v_wrong, .int v_wrongAt, .int v_errorAt, .long v_number, .ref a_best, .ref a_rentBy, .ref a_bareBy, .ref a_aheadBy, .ref a_isEdge, .ref a_tried, .ref a_stands, .ref a_found, .ref a_foundOn, .ref a_moving, .int v_movingMany, .int v_foundIncome, .int v_foundMoves])), (a_a, .inl (cI, 180, .inl v_a))] sz) := by
  refine z_met (cc := cX6_usedCovers) (maxL := 3) (ret := (some .int)) (by decide) rfl (Nat.le_of_ble_eq_true rfl) ?_
  intro p e s m below meth c ls E hsz hw hl
  obtain ⟨⟨hx, hb, hml, hown, hts⟩, hr, hlocks⟩ := id E
  have hl : lv_has ls 3 [(0, .ref a_this)] := hl
  unfold f_X6_usedCovers at hf
  refine lv_iconst (v := 0) hx hb dX6_usedCovers_0 (by decide) ?_
  refine lv_istore_n (lv' := [(1, .int (0 : Int32)), (0, .ref a_this)]) hx hb dX6_usedCovers_1 rfl hl (z_lt rfl) rfl (fun ls hl => ?_)
  refine lv_iconst (v := 0) hx hb dX6_usedCovers_2 (by decide) ?_
  refine lv_istore_n (lv' := [(2, .int (0 : Int32)), (1, .int (0 : Int32)), (0, .ref a_this)]) hx hb dX6_usedCovers_3 rfl hl (z_lt rfl) rfl (fun ls hl => ?_)
  exact w_X6_usedCovers_4 E  n _ _ _ hf _ _ _ hw (lv_sub hl [2, 1, 0] rfl)
end
/-! X6_coversUsed -/
section
variable {p : Program} {l : Launch} {e : Env} {s : State} {m : MethodId} {args : Array Value} {below : List Frame} {meth : Method} {c : Code} {D : va_G} {A : Nat → Prop} {cI cZ cM : ClassId} {a_this a_a a_fresh a_kept a_buffer a_best a_rentBy a_bareBy a_aheadBy a_isEdge a_tried a_stands a_found a_foundOn a_moving : Nat} {v_keptMany : Int32} {v_buffered : Int32} {v_size : Int32} {v_at : Int32} {v_behind : Int32} {v_kind : Int32} {v_wrong : Int32} {v_wrongAt : Int32} {v_errorAt : Int32} {v_number : Int64} {v_movingMany : Int32} {v_foundIncome : Int32} {v_foundMoves : Int32} {res : Int32 × Int32}
def rmX6_coversUsed : Room := { frames := 2, cells := 0, slots := 0, locals := 46 }
abbrev zwX6_coversUsed : List Cond := Cond.code yX6_coversUsed cX6_coversUsed 1 (some .int) :: wsAll
set_option maxHeartbeats 4000000 in
set_option maxRecDepth 100000 in
theorem c_X6_coversUsed {l : Launch} {D : va_G} {cI cZ cM : ClassId} {a_this a_a a_fresh a_kept a_buffer a_best a_rentBy a_bareBy a_aheadBy a_isEdge a_tried a_stands a_found a_foundOn a_moving : Nat} {v_keptMany : Int32} {v_buffered : Int32} {v_size : Int32} {v_at : Int32} {v_behind : Int32} {v_kind : Int32} {v_wrong : Int32} {v_wrongAt : Int32} {v_errorAt : Int32} {v_number : Int64} {v_movingMany : Int32} {v_foundIncome : Int32} {v_foundMoves : Int32} {res : Int32 × Int32} {sz : Nat} {n : Nat} {v_a : Nat → Int32} {v_thrown : Int32} (hf : f_X6_coversUsed n v_a v_thrown = some res) : Met l yX6_coversUsed zwX6_coversUsed rmX6_coversUsed (zPc D (zT cI cZ cM) [.ref a_this] [(a_this, .inr (6, [.ref a_a, .ref a_fresh, .ref a_kept, .int v_keptMany, .int v_thrown, .ref a_buffer, .int v_buffered, .int v_size, .int v_at, .int v_behind, .int v_kind, .int v_wrong, .int v_wrongAt, .int v_errorAt, .long v_number, .ref a_best, .ref a_rentBy, .ref a_bareBy, .ref a_aheadBy, .ref a_isEdge, .ref a_tried, .ref a_stands, .ref a_found, .ref a_foundOn, .ref a_moving, .int v_movingMany, .int v_foundIncome, .int v_foundMoves])), (a_a, .inl (cI, 180, .inl v_a))] sz) (zQi D (zT cI cZ cM) res.1 [(a_this, .inr (6, [.ref a_a, .ref a_fresh, .ref a_kept, .int v_keptMany, .int res.2, .ref a_buffer, .int v_buffered, .int v_size, .int v_at, .int v_behind, .int v_kind, .int v_wrong, .int v_wrongAt, .int v_errorAt, .long v_number, .ref a_best, .ref a_rentBy, .ref a_bareBy, .ref a_aheadBy, .ref a_isEdge, .ref a_tried, .ref a_stands, .ref a_found, .ref a_foundOn, .ref a_moving, .int v_movingMany, .int v_foundIncome, .int v_foundMoves])), (a_a, .inl (cI, 180, .inl v_a))] (va_A [(a_this, .inr (6, [.ref a_a, .ref a_fresh, .ref a_kept, .int v_keptMany, .int v_thrown, .ref a_buffer, .int v_buffered, .int v_size, .int v_at, .int v_behind, .int v_kind, .int v_wrong, .int v_wrongAt, .int v_errorAt, .long v_number, .ref a_best, .ref a_rentBy, .ref a_bareBy, .ref a_aheadBy, .ref a_isEdge, .ref a_tried, .ref a_stands, .ref a_found, .ref a_foundOn, .ref a_moving, .int v_movingMany, .int v_foundIncome, .int v_foundMoves])), (a_a, .inl (cI, 180, .inl v_a))] sz)) 0 0 (va_A [(a_this, .inr (6, [.ref a_a, .ref a_fresh, .ref a_kept, .int v_keptMany, .int v_thrown, .ref a_buffer, .int v_buffered, .int v_size, .int v_at, .int v_behind, .int v_kind, .int v_wrong, .int v_wrongAt, .int v_errorAt, .long v_number, .ref a_best, .ref a_rentBy, .ref a_bareBy, .ref a_aheadBy, .ref a_isEdge, .ref a_tried, .ref a_stands, .ref a_found, .ref a_foundOn, .ref a_moving, .int v_movingMany, .int v_foundIncome, .int v_foundMoves])), (a_a, .inl (cI, 180, .inl v_a))] sz) := by
  refine z_met (cc := cX6_coversUsed) (maxL := 1) (ret := (some .int)) (by decide) rfl (Nat.le_of_ble_eq_true rfl) ?_
  intro p e s m below meth c ls E hsz hw hl
  obtain ⟨⟨hx, hb, hml, hown, hts⟩, hr, hlocks⟩ := id E
  have hl : lv_has ls 1 [(0, .ref a_this)] := hl
  unfold f_X6_coversUsed at hf
  refine lv_aload_n hx hb dX6_coversUsed_0 rfl (lv_at hl 0 rfl) ?_
  refine lv_iconst (v := 0) hx hb dX6_coversUsed_1 (by decide) ?_
  refine z_put (ws' := [(a_this, .inr (6, [.ref a_a, .ref a_fresh, .ref a_kept, .int v_keptMany, .int (0 : Int32), .ref a_buffer, .int v_buffered, .int v_size, .int v_at, .int v_behind, .int v_kind, .int v_wrong, .int v_wrongAt, .int v_errorAt, .long v_number, .ref a_best, .ref a_rentBy, .ref a_bareBy, .ref a_aheadBy, .ref a_isEdge, .ref a_tried, .ref a_stands, .ref a_found, .ref a_foundOn, .ref a_moving, .int v_movingMany, .int v_foundIncome, .int v_foundMoves])), (a_a, .inl (cI, 180, .inl v_a))]) E.1 hw in_wsX60 tyX6 tyX6_ok nmX6 0 rfl rfl 4 (z_lt rfl) mw_594 rfl rfl rfl (z_lt rfl) rfl dX6_coversUsed_2 (fun H locs hw => ?_)
  refine lv_aload_n hx hb dX6_coversUsed_5 rfl (lv_at hl 0 rfl) ?_
  obtain ⟨r_1, h_2, hf⟩ := oB_elim hf
  refine z_callVi (ws' := [(a_this, .inr (6, [.ref a_a, .ref a_fresh, .ref a_kept, .int v_keptMany, .int (0 : Int32), .ref a_buffer, .int v_buffered, .int v_size, .int v_at, .int v_behind, .int v_kind, .int v_wrong, .int v_wrongAt, .int v_errorAt, .long v_number, .ref a_best, .ref a_rentBy, .ref a_bareBy, .ref a_aheadBy, .ref a_isEdge, .ref a_tried, .ref a_stands, .ref a_found, .ref a_foundOn, .ref a_moving, .int v_movingMany, .int v_foundIncome, .int v_foundMoves])), (a_a, .inl (cI, 180, .inl v_a))]) (wr := []) (As := []) (rest := []) E.1 hl hw (c_X6_usedCovers h_2) (cwV 0 hts (z_gV mw_720 mw_721 mw_722 mw_597 mw_723) rfl rfl rfl (by decide +kernel) ⟨(Nat.le_of_ble_eq_true rfl), (Nat.le_of_ble_eq_true rfl)⟩) 2 [(0, 2)] [] rfl rfl rfl rfl rfl rfl (by decide +kernel) rfl (q0 := 0) rfl rfl rfl (Nat.le_of_ble_eq_true rfl) dX6_coversUsed_6 ⟨Nat.le_of_ble_eq_true rfl, Nat.le_of_ble_eq_true rfl⟩ (fun H locs hw => ?_)
  cases hf
  exact z_iret E rfl hw dX6_coversUsed_9
end
/-! X6_is -/
section
variable {p : Program} {l : Launch} {e : Env} {s : State} {m : MethodId} {args : Array Value} {below : List Frame} {meth : Method} {c : Code} {D : va_G} {A : Nat → Prop} {cI cZ cM : ClassId} {a_this a_a a_fresh a_kept a_buffer a_best a_rentBy a_bareBy a_aheadBy a_isEdge a_tried a_stands a_found a_foundOn a_moving : Nat} {v_keptMany : Int32} {v_thrown : Int32} {v_buffered : Int32} {v_size : Int32} {v_at : Int32} {v_behind : Int32} {v_wrongAt : Int32} {v_errorAt : Int32} {v_number : Int64} {v_movingMany : Int32} {v_foundIncome : Int32} {v_foundMoves : Int32} {res : Int32}
def rmX6_is : Room := { frames := 0, cells := 0, slots := 0, locals := 0 }
abbrev zwX6_is : List Cond := Cond.code yX6_is cX6_is 2 (some .boolean) :: wsAll
set_option maxHeartbeats 4000000 in
set_option maxRecDepth 100000 in
theorem c_X6_is {l : Launch} {D : va_G} {cI cZ cM : ClassId} {a_this a_a a_fresh a_kept a_buffer a_best a_rentBy a_bareBy a_aheadBy a_isEdge a_tried a_stands a_found a_foundOn a_moving : Nat} {v_keptMany : Int32} {v_thrown : Int32} {v_buffered : Int32} {v_size : Int32} {v_at : Int32} {v_behind : Int32} {v_wrongAt : Int32} {v_errorAt : Int32} {v_number : Int64} {v_movingMany : Int32} {v_foundIncome : Int32} {v_foundMoves : Int32} {res : Int32} {sz : Nat} {v_kind : Int32} {v_wrong : Int32} {x1 : Int32} (hf : f_X6_is v_kind v_wrong x1 = some res) : Met l yX6_is zwX6_is rmX6_is (zPc D (zT cI cZ cM) [.ref a_this, .int x1] [(a_this, .inr (6, [.ref a_a, .ref a_fresh, .ref a_kept, .int v_keptMany, .int v_thrown, .ref a_buffer, .int v_buffered, .int v_size, .int v_at, .int v_behind, .int v_kind, .int v_wrong, .int v_wrongAt, .int v_errorAt, .long v_number, .ref a_best, .ref a_rentBy, .ref a_bareBy, .ref a_aheadBy, .ref a_isEdge, .ref a_tried, .ref a_stands, .ref a_found, .ref a_foundOn, .ref a_moving, .int v_movingMany, .int v_foundIncome, .int v_foundMoves]))] sz) (zQi D (zT cI cZ cM) res [(a_this, .inr (6, [.ref a_a, .ref a_fresh, .ref a_kept, .int v_keptMany, .int v_thrown, .ref a_buffer, .int v_buffered, .int v_size, .int v_at, .int v_behind, .int v_kind, .int v_wrong, .int v_wrongAt, .int v_errorAt, .long v_number, .ref a_best, .ref a_rentBy, .ref a_bareBy, .ref a_aheadBy, .ref a_isEdge, .ref a_tried, .ref a_stands, .ref a_found, .ref a_foundOn, .ref a_moving, .int v_movingMany, .int v_foundIncome, .int v_foundMoves]))] (va_A [(a_this, .inr (6, [.ref a_a, .ref a_fresh, .ref a_kept, .int v_keptMany, .int v_thrown, .ref a_buffer, .int v_buffered, .int v_size, .int v_at, .int v_behind, .int v_kind, .int v_wrong, .int v_wrongAt, .int v_errorAt, .long v_number, .ref a_best, .ref a_rentBy, .ref a_bareBy, .ref a_aheadBy, .ref a_isEdge, .ref a_tried, .ref a_stands, .ref a_found, .ref a_foundOn, .ref a_moving, .int v_movingMany, .int v_foundIncome, .int v_foundMoves]))] sz)) 0 0 (va_A [(a_this, .inr (6, [.ref a_a, .ref a_fresh, .ref a_kept, .int v_keptMany, .int v_thrown, .ref a_buffer, .int v_buffered, .int v_size, .int v_at, .int v_behind, .int v_kind, .int v_wrong, .int v_wrongAt, .int v_errorAt, .long v_number, .ref a_best, .ref a_rentBy, .ref a_bareBy, .ref a_aheadBy, .ref a_isEdge, .ref a_tried, .ref a_stands, .ref a_found, .ref a_foundOn, .ref a_moving, .int v_movingMany, .int v_foundIncome, .int v_foundMoves]))] sz) := by
  refine z_met (cc := cX6_is) (maxL := 2) (ret := (some .boolean)) (by decide) rfl (Nat.le_of_ble_eq_true rfl) ?_
  intro p e s m below meth c ls E hsz hw hl
  obtain ⟨⟨hx, hb, hml, hown, hts⟩, hr, hlocks⟩ := id E
  have hl : lv_has ls 2 [(0, .ref a_this), (1, .int x1)] := hl
  unfold f_X6_is at hf
  refine lv_aload_n hx hb dX6_is_0 rfl (lv_at hl 0 rfl) ?_
  refine z_get E.1 hw in_wsX60 0 rfl rfl 11 (z_lt rfl) mw_729 (v := .int v_wrong) rfl dX6_is_1 ?_
  refine lv_if_ne (tgt := 19) hx hb dX6_is_4 (by decide) (fun hc => ?_) (fun hc => ?_)
  · have hf := oI_neg hc hf
    refine lv_iconst (v := 0) hx hb dX6_is_19 (by decide) ?_
    cases hf
    exact z_zret E rfl z_n0 hw dX6_is_20
  · have hf := oI_pos hc hf
    refine lv_aload_n hx hb dX6_is_7 rfl (lv_at hl 0 rfl) ?_
    refine z_get E.1 hw in_wsX60 0 rfl rfl 10 (z_lt rfl) mw_730 (v := .int v_kind) rfl dX6_is_8 ?_
    refine lv_iload_n hx hb dX6_is_11 rfl (lv_at hl 1 rfl) ?_
    refine lv_icmp_ne (tgt := 19) hx hb dX6_is_12 (by decide) (fun hc => ?_) (fun hc => ?_)
    · have hf := oI_neg hc hf
      refine lv_iconst (v := 0) hx hb dX6_is_19 (by decide) ?_
      cases hf
      exact z_zret E rfl z_n0 hw dX6_is_20
    · have hf := oI_pos hc hf
      refine lv_iconst (v := 1) hx hb dX6_is_15 (by decide) ?_
      refine lv_goto (tgt := 20) hx hb dX6_is_16 (by decide) ?_
      cases hf
      exact z_zret E rfl z_n1 hw dX6_is_20
end
/-! X6_see -/
section
variable {p : Program} {l : Launch} {e : Env} {s : State} {m : MethodId} {args : Array Value} {below : List Frame} {meth : Method} {c : Code} {D : va_G} {A : Nat → Prop} {cI cZ cM : ClassId} {a_this a_a a_fresh a_kept a_buffer a_best a_rentBy a_bareBy a_aheadBy a_isEdge a_tried a_stands a_found a_foundOn a_moving : Nat} {v_keptMany : Int32} {v_thrown : Int32} {v_buffered : Int32} {v_at : Int32} {v_behind : Int32} {v_kind : Int32} {v_wrong : Int32} {v_wrongAt : Int32} {v_errorAt : Int32} {v_number : Int64} {v_movingMany : Int32} {v_foundIncome : Int32} {v_foundMoves : Int32} {res : Int32}
def rmX6_see : Room := { frames := 0, cells := 0, slots := 0, locals := 0 }
abbrev zwX6_see : List Cond := Cond.code yX6_see cX6_see 2 (some .int) :: wsAll
set_option maxHeartbeats 4000000 in
set_option maxRecDepth 100000 in
theorem c_X6_see {l : Launch} {D : va_G} {cI cZ cM : ClassId} {a_this a_a a_fresh a_kept a_buffer a_best a_rentBy a_bareBy a_aheadBy a_isEdge a_tried a_stands a_found a_foundOn a_moving : Nat} {v_keptMany : Int32} {v_thrown : Int32} {v_buffered : Int32} {v_at : Int32} {v_behind : Int32} {v_kind : Int32} {v_wrong : Int32} {v_wrongAt : Int32} {v_errorAt : Int32} {v_number : Int64} {v_movingMany : Int32} {v_foundIncome : Int32} {v_foundMoves : Int32} {res : Int32} {sz : Nat} {v_buffer : Nat → Int32} {v_size : Int32} {x1 : Int32} (hf : f_X6_see v_buffer v_size x1 = some res) : Met l yX6_see zwX6_see rmX6_see (zPc D (zT cI cZ cM) [.ref a_this, .int x1] [(a_this, .inr (6, [.ref a_a, .ref a_fresh, .ref a_kept, .int v_keptMany, .int v_thrown, .ref a_buffer, .int v_buffered, .int v_size, .int v_at, .int v_behind, .int v_kind, .int v_wrong, .int v_wrongAt, .int v_errorAt, .long v_number, .ref a_best, .ref a_rentBy, .ref a_bareBy, .ref a_aheadBy, .ref a_isEdge, .ref a_tried, .ref a_stands, .ref a_found, .ref a_foundOn, .ref a_moving, .int v_movingMany, .int v_foundIncome, .int v_foundMoves])), (a_buffer, .inl (cI, 600, .inl v_buffer))] sz) (zQi D (zT cI cZ cM) res [(a_this, .inr (6, [.ref a_a, .ref a_fresh, .ref a_kept, .int v_keptMany, .int v_thrown, .ref a_buffer, .int v_buffered, .int v_size, .int v_at, .int v_behind, .int v_kind, .int v_wrong, .int v_wrongAt, .int v_errorAt, .long v_number, .ref a_best, .ref a_rentBy, .ref a_bareBy, .ref a_aheadBy, .ref a_isEdge, .ref a_tried, .ref a_stands, .ref a_found, .ref a_foundOn, .ref a_moving, .int v_movingMany, .int v_foundIncome, .int v_foundMoves])), (a_buffer, .inl (cI, 600, .inl v_buffer))] (va_A [(a_this, .inr (6, [.ref a_a, .ref a_fresh, .ref a_kept, .int v_keptMany, .int v_thrown, .ref a_buffer, .int v_buffered, .int v_size, .int v_at, .int v_behind, .int v_kind, .int v_wrong, .int v_wrongAt, .int v_errorAt, .long v_number, .ref a_best, .ref a_rentBy, .ref a_bareBy, .ref a_aheadBy, .ref a_isEdge, .ref a_tried, .ref a_stands, .ref a_found, .ref a_foundOn, .ref a_moving, .int v_movingMany, .int v_foundIncome, .int v_foundMoves])), (a_buffer, .inl (cI, 600, .inl v_buffer))] sz)) 0 0 (va_A [(a_this, .inr (6, [.ref a_a, .ref a_fresh, .ref a_kept, .int v_keptMany, .int v_thrown, .ref a_buffer, .int v_buffered, .int v_size, .int v_at, .int v_behind, .int v_kind, .int v_wrong, .int v_wrongAt, .int v_errorAt, .long v_number, .ref a_best, .ref a_rentBy, .ref a_bareBy, .ref a_aheadBy, .ref a_isEdge, .ref a_tried, .ref a_stands, .ref a_found, .ref a_foundOn, .ref a_moving, .int v_movingMany, .int v_foundIncome, .int v_foundMoves])), (a_buffer, .inl (cI, 600, .inl v_buffer))] sz) := by
  refine z_met (cc := cX6_see) (maxL := 2) (ret := (some .int)) (by decide) rfl (Nat.le_of_ble_eq_true rfl) ?_
  intro p e s m below meth c ls E hsz hw hl
  obtain ⟨⟨hx, hb, hml, hown, hts⟩, hr, hlocks⟩ := id E
  have hl : lv_has ls 2 [(0, .ref a_this), (1, .int x1)] := hl
  unfold f_X6_see at hf
  refine lv_iload_n hx hb dX6_see_0 rfl (lv_at hl 1 rfl) ?_
  refine lv_aload_n hx hb dX6_see_1 rfl (lv_at hl 0 rfl) ?_
  refine z_get E.1 hw in_wsX60 0 rfl rfl 7 (z_lt rfl) mw_737 (v := .int v_size) rfl dX6_see_2 ?_
  refine lv_icmp_ge (tgt := 17) hx hb dX6_see_5 (by decide) (fun hc => ?_) (fun hc => ?_)
  · have hf := oI_pos hc hf
    refine lv_iconst (v := -1) hx hb dX6_see_17 (by decide) ?_
    cases hf
    exact z_iret E rfl hw dX6_see_18
  · have hf := oI_neg hc hf
    refine lv_aload_n hx hb dX6_see_8 rfl (lv_at hl 0 rfl) ?_
    refine z_get E.1 hw in_wsX60 0 rfl rfl 5 (z_lt rfl) mw_607 (v := .ref a_buffer) rfl dX6_see_9 ?_
    refine lv_iload_n hx hb dX6_see_12 rfl (lv_at hl 1 rfl) ?_
    obtain ⟨h_1, hf⟩ := oA_elim hf
    refine z_iald E.1 hw 1 0 rfl rfl h_1 dX6_see_13 ?_
    refine lv_goto (tgt := 18) hx hb dX6_see_14 (by decide) ?_
    cases hf
    exact z_iret E rfl hw dX6_see_18
end
