/-! X6_isFree -/
section
variable {p : Program} {l : Launch} {e : Env} {s : State} {m : MethodId} {args : Array Value} {below : List Frame} {meth : Method} {c : Code} {D : va_G} {A : Nat → Prop} {cI cZ cM : ClassId} {a_this a_a a_fresh a_kept a_buffer a_best a_rentBy a_bareBy a_aheadBy a_isEdge a_tried a_stands a_found a_foundOn a_moving : Nat} {v_keptMany : Int32} {v_thrown : Int32} {v_buffered : Int32} {v_size : Int32} {v_at : Int32} {v_behind : Int32} {v_kind : Int32} {v_wrong : Int32} {v_wrongAt : Int32} {v_errorAt : Int32} {v_number : Int64} {v_movingMany : Int32} {v_foundIncome : Int32} {v_foundMoves : Int32} {res : Int32}
def rmX6_isFree : Room := { frames := 3, cells := 0, slots := 0, locals := 69 }
abbrev zwX6_isFree : List Cond := Cond.code yX6_isFree cX6_isFree 4 (some .boolean) :: wsAll
set_option maxHeartbeats 4000000 in
set_option maxRecDepth 100000 in
theorem w_X6_isFree_2 {n : Nat} (E : zE p s m args meth c cX6_isFree 4 (some .boolean) zwX6_isFree RX6) : ∀ (fu : Nat), ∀ (x1 : Int32) (x2 : Int32) (x3 : Int32) (v_a : Nat → Int32), f_X6_isFree_2 n fu x1 x2 x3 v_a = some res → ∀ (H : Heap) (locs : List Loc) (ls : Array Slot), zW D (zT cI cZ cM) A s [(a_this, .inr (6, [.ref a_a, .ref a_fresh, .ref a_kept, .int v_keptMany, .int v_thrown, .ref a_buffer, .int v_buffered, .int v_size, .int v_at, .int v_behind, .int v_kind, .int v_wrong, .int v_wrongAt, .int v_errorAt, .long v_number, .ref a_best, .ref a_rentBy, .ref a_bareBy, .ref a_aheadBy, .ref a_isEdge, .ref a_tried, .ref a_stands, .ref a_found, .ref a_foundOn, .ref a_moving, .int v_movingMany, .int v_foundIncome, .int v_foundMoves])), (a_a, .inl (cI, 180, .inl v_a))] H locs → lv_has ls 4 [(0, .ref a_this), (1, .int x1), (2, .int x2), (3, .int x3)] → W p l e rmX6_isFree s m args below meth c H locs 0 0 (MQ below (zQi D (zT cI cZ cM) res [(a_this, .inr (6, [.ref a_a, .ref a_fresh, .ref a_kept, .int v_keptMany, .int v_thrown, .ref a_buffer, .int v_buffered, .int v_size, .int v_at, .int v_behind, .int v_kind, .int v_wrong, .int v_wrongAt, .int v_errorAt, .long v_number, .ref a_best, .ref a_rentBy, .ref a_bareBy, .ref a_aheadBy, .ref a_isEdge, .ref a_tried, .ref a_stands, .ref a_found, .ref a_foundOn, .ref a_moving, .int v_movingMany, .int v_foundIncome, .int v_foundMoves])), (a_a, .inl (cI, 180, .inl v_a))] A) args s 0 0 A) (F0 m 2 ls []) := by
  obtain ⟨⟨hx, hb, hml, hown, hts⟩, hr, hlocks⟩ := id E
  intro fu
  induction fu with
  | zero => intro x1 x2 x3 v_a hf; rw [f_X6_isFree_2.eq_1] at hf; cases hf
  | succ fu ih =>
    intro x1 x2 x3 v_a hf H locs ls hw hl
    rw [f_X6_isFree_2.eq_2] at hf
    refine lv_iload_n hx hb dX6_isFree_2 rfl (lv_at hl 3 rfl) ?_
    refine lv_aload_n hx hb dX6_isFree_3 rfl (lv_at hl 0 rfl) ?_
    refine z_get E.1 hw in_wsX60 0 rfl rfl 0 (z_lt rfl) mw_593 (v := .ref a_a) rfl dX6_isFree_4 ?_
    refine lv_bipush (v := 83) hx hb dX6_isFree_7 (by decide) ?_
    refine lv_iload_n hx hb dX6_isFree_9 rfl (lv_at hl 1 rfl) ?_
    refine lv_iadd hx hb dX6_isFree_10 ?_
    obtain ⟨h_1, hf⟩ := oA_elim hf
    refine z_iald E.1 hw 1 0 rfl rfl h_1 dX6_isFree_11 ?_
    refine lv_icmp_ge (tgt := 34) hx hb dX6_isFree_12 (by decide) (fun hc => ?_) (fun hc => ?_)
    · have hf := oI_pos hc hf
      refine lv_iconst (v := 1) hx hb dX6_isFree_34 (by decide) ?_
      cases hf
      exact z_zret E rfl z_n1 hw dX6_isFree_35
    · have hf := oI_neg hc hf
      refine lv_aload_n hx hb dX6_isFree_15 rfl (lv_at hl 0 rfl) ?_
      refine lv_iload_n hx hb dX6_isFree_16 rfl (lv_at hl 2 rfl) ?_
      refine lv_iload_n hx hb dX6_isFree_17 rfl (lv_at hl 3 rfl) ?_
      refine lv_iadd hx hb dX6_isFree_18 ?_
      obtain ⟨r_2, h_3, hf⟩ := oB_elim hf
      refine z_callVi (ws' := [(a_this, .inr (6, [.ref a_a, .ref a_fresh, .ref a_kept, .int v_keptMany, .int v_thrown, .ref a_buffer, .int v_buffered, .int v_size, .int v_at, .int v_behind, .int v_kind, .int v_wrong, .int v_wrongAt, .int v_errorAt, .long v_number, .ref a_best, .ref a_rentBy, .ref a_bareBy, .ref a_aheadBy, .ref a_isEdge, .ref a_tried, .ref a_stands, .ref a_found, .ref a_foundOn, .ref a_moving, .int v_movingMany, .int v_foundIncome, .int v_foundMoves])), (a_a, .inl (cI, 180, .inl v_a))]) (wr := []) (As := [.int (x2 + x3)]) (rest := []) E.1 hl hw (c_X6_on h_3) (cwV 1 hts (z_gV mw_609 mw_610 mw_611 mw_597 mw_612) rfl rfl rfl (by decide +kernel) ⟨(Nat.le_of_ble_eq_true rfl), (Nat.le_of_ble_eq_true rfl)⟩) 2 [(0, 2)] [] rfl rfl rfl rfl rfl rfl (by decide +kernel) rfl (q0 := 0) rfl rfl rfl (Nat.le_of_ble_eq_true rfl) dX6_isFree_19 ⟨Nat.le_of_ble_eq_true rfl, Nat.le_of_ble_eq_true rfl⟩ (fun H locs hw => ?_)
      refine lv_iconst (v := -1) hx hb dX6_isFree_22 (by decide) ?_
      refine lv_icmp_eq (tgt := 28) hx hb dX6_isFree_23 (by decide) (fun hc => ?_) (fun hc => ?_)
      · have hf := oI_pos hc hf
        refine lv_iinc (v := (x3 + (1 : Int32))) (lv' := [(3, .int (x3 + (1 : Int32))), (0, .ref a_this), (1, .int x1), (2, .int x2)]) hx hb dX6_isFree_28 hl (k := 3) rfl rfl (z_lt rfl) rfl (fun ls hl => ?_)
        refine lv_goto (tgt := 2) hx hb dX6_isFree_31 (by decide) ?_
        exact ih _ _ _ _ hf _ _ _ hw (lv_sub hl [1, 2, 3, 0] rfl)
      · have hf := oI_neg hc hf
        refine lv_iconst (v := 0) hx hb dX6_isFree_26 (by decide) ?_
        cases hf
        exact z_zret E rfl z_n0 hw dX6_isFree_27
set_option maxHeartbeats 4000000 in
set_option maxRecDepth 100000 in
theorem c_X6_isFree {l : Launch} {D : va_G} {cI cZ cM : ClassId} {a_this a_a a_fresh a_kept a_buffer a_best a_rentBy a_bareBy a_aheadBy a_isEdge a_tried a_stands a_found a_foundOn a_moving : Nat} {v_keptMany : Int32} {v_thrown : Int32} {v_buffered : Int32} {v_size : Int32} {v_at : Int32} {v_behind : Int32} {v_kind : Int32} {v_wrong : Int32} {v_wrongAt : Int32} {v_errorAt : Int32} {v_number : Int64} {v_movingMany : Int32} {v_foundIncome : Int32} {v_foundMoves : Int32} {res : Int32} {sz : Nat} {n : Nat} {v_a : Nat → Int32} {x1 : Int32} {x2 : Int32} (hf : f_X6_isFree n v_a x1 x2 = some res) : Met l yX6_isFree zwX6_isFree rmX6_isFree (zPc D (zT cI cZ cM) [.ref a_this, .int x1, .int x2] [(a_this, .inr (6, [.ref a_a, .ref a_fresh, .ref a_kept, .int v_keptMany, .int v_thrown, .ref a_buffer, .int v_buffered, .int v_size, .int v_at, .int v_behind, .int v_kind, .int v_wrong, .int v_wrongAt, .int v_errorAt, .long v_number, .ref a_best, .ref a_rentBy, .ref a_bareBy, .ref a_aheadBy, .ref a_isEdge, .ref a_tried, .ref a_stands, .ref a_found, .ref a_foundOn, .ref a_moving, .int v_movingMany, .int v_foundIncome, .int v_foundMoves])), (a_a, .inl (cI, 180, .inl v_a))] sz) (zQi D (zT cI cZ cM) res [(a_this, .inr (6, [.ref a_a, .ref a_fresh, .ref a_kept, .int v_keptMany, .int v_thrown, .ref a_buffer, .int v_buffered, .int v_size, .int v_at, .int v_behind, .int v_kind, .int v_wrong, .int v_wrongAt, .int v_errorAt, .long v_number, .ref a_best, .ref a_rentBy, .ref a_bareBy, .ref a_aheadBy, .ref a_isEdge, .ref a_tried, .ref a_stands, .ref a_found, .ref a_foundOn, .ref a_moving, .int v_movingMany, .int v_foundIncome, .int v_foundMoves])), (a_a, .inl (cI, 180, .inl v_a))] (va_A [(a_this, .inr (6, [.ref a_a, .ref a_fresh, .ref a_kept, .int v_keptMany, .int v_thrown, .ref a_buffer, .int v_buffered, .int v_size, .int v_at, .int v_behind, .int v_kind, .int v_wrong, .int v_wrongAt, .int v_errorAt, .long v_number, .ref a_best, .ref a_rentBy, .ref a_bareBy, .ref a_aheadBy, .ref a_isEdge, .ref a_tried, .ref a_stands, .ref a_found, .ref a_foundOn, .ref a_moving, .int v_movingMany, .int v_foundIncome, .int v_foundMoves])), (a_a, .inl (cI, 180, .inl v_a))] sz)) 0 0 (va_A [(a_this, .inr (6, [.ref a_a, .ref a_fresh, .ref a_kept, .int v_keptMany, .int v_thrown, .ref a_buffer, .int v_buffered, .int v_size, .int v_at, .int v_behind, .int v_kind, .int v_wrong, .int v_wrongAt, .int v_errorAt, .long v_number, .ref a_best, .ref a_rentBy, .ref a_bareBy, .ref a_aheadBy, .ref a_isEdge, .ref a_tried, .ref a_stands, .ref a_found, .ref a_foundOn, .ref a_moving, .int v_movingMany, .int v_foundIncome, .int v_foundMoves])), (a_a, .inl (cI, 180, .inl v_a))] sz) := by
  refine z_met (cc := cX6_isFree) (maxL := 4) (ret := (some .boolean)) (by decide) rfl (Nat.le_of_ble_eq_true rfl) ?_
  intro p e s m below meth c ls E hsz hw hl
  obtain ⟨⟨hx, hb, hml, hown, hts⟩, hr, hlocks⟩ := id E
  have hl : lv_has ls 4 [(0, .ref a_this), (1, .int x1), (2, .int x2)] := hl
  unfold f_X6_isFree at hf
  refine lv_iconst (v := 0) hx hb dX6_isFree_0 (by decide) ?_
  refine lv_istore_n (lv' := [(3, .int (0 : Int32)), (0, .ref a_this), (1, .int x1), (2, .int x2)]) hx hb dX6_isFree_1 rfl hl (z_lt rfl) rfl (fun ls hl => ?_)
  exact w_X6_isFree_2 E  n _ _ _ _ hf _ _ _ hw (lv_sub hl [1, 2, 3, 0] rfl)
end
/-! X6_hinders -/
section
variable {p : Program} {l : Launch} {e : Env} {s : State} {m : MethodId} {args : Array Value} {below : List Frame} {meth : Method} {c : Code} {D : va_G} {A : Nat → Prop} {cI cZ cM : ClassId} {a_this a_a a_fresh a_kept a_buffer a_best a_rentBy a_bareBy a_aheadBy a_isEdge a_tried a_stands a_found a_foundOn a_moving : Nat} {v_keptMany : Int32} {v_thrown : Int32} {v_buffered : Int32} {v_size : Int32} {v_at : Int32} {v_behind : Int32} {v_kind : Int32} {v_wrong : Int32} {v_wrongAt : Int32} {v_errorAt : Int32} {v_number : Int64} {v_movingMany : Int32} {v_foundIncome : Int32} {v_foundMoves : Int32} {res : Int32}
def rmX6_hinders : Room := { frames := 4, cells := 0, slots := 0, locals := 92 }
abbrev zwX6_hinders : List Cond := Cond.code yX6_hinders cX6_hinders 3 (some .int) :: wsAll
set_option maxHeartbeats 4000000 in
set_option maxRecDepth 100000 in
theorem w_X6_hinders_113 {n : Nat} {v_a : Nat → Int32} (E : zE p s m args meth c cX6_hinders 3 (some .int) zwX6_hinders RX6) : f_X6_hinders_113 n = some res → ∀ (H : Heap) (locs : List Loc) (ls : Array Slot), zW D (zT cI cZ cM) A s [(a_this, .inr (6, [.ref a_a, .ref a_fresh, .ref a_kept, .int v_keptMany, .int v_thrown, .ref a_buffer, .int v_buffered, .int v_size, .int v_at, .int v_behind, .int v_kind, .int v_wrong, .int v_wrongAt, .int v_errorAt, .long v_number, .ref a_best, .ref a_rentBy, .ref a_bareBy, .ref a_aheadBy, .ref a_isEdge, .ref a_tried, .ref a_stands, .ref a_found, .ref a_foundOn, .ref a_moving, .int v_movingMany, .int v_foundIncome, .int v_foundMoves])), (a_a, .inl (cI, 180, .inl v_a))] H locs → lv_has ls 3 [] → W p l e rmX6_hinders s m args below meth c H locs 0 0 (MQ below (zQi D (zT cI cZ cM) res [(a_this, .inr (6, [.ref a_a, .ref a_fresh, .ref a_kept, .int v_keptMany, .int v_thrown, .ref a_buffer, .int v_buffered, .int v_size, .int v_at, .int v_behind, .int v_kind, .int v_wrong, .int v_wrongAt, .int v_errorAt, .long v_number, .ref a_best, .ref a_rentBy, .ref a_bareBy, .ref a_aheadBy, .ref a_isEdge, .ref a_tried, .ref a_stands, .ref a_found, .ref a_foundOn, .ref a_moving, .int v_movingMany, .int v_foundIncome, .int v_foundMoves])), (a_a, .inl (cI, 180, .inl v_a))] A) args s 0 0 A) (F0 m 113 ls []) := by
  obtain ⟨⟨hx, hb, hml, hown, hts⟩, hr, hlocks⟩ := id E
  intro  hf H locs ls hw hl
  unfold f_X6_hinders_113 at hf
  refine lv_bipush (v := 6) hx hb dX6_hinders_113 (by decide) ?_
  refine lv_goto (tgt := 119) hx hb dX6_hinders_115 (by decide) ?_
  cases hf
  exact z_iret E rfl hw dX6_hinders_119
set_option maxHeartbeats 4000000 in
set_option maxRecDepth 100000 in
theorem c_X6_hinders {l : Launch} {D : va_G} {cI cZ cM : ClassId} {a_this a_a a_fresh a_kept a_buffer a_best a_rentBy a_bareBy a_aheadBy a_isEdge a_tried a_stands a_found a_foundOn a_moving : Nat} {v_keptMany : Int32} {v_thrown : Int32} {v_buffered : Int32} {v_size : Int32} {v_at : Int32} {v_behind : Int32} {v_kind : Int32} {v_wrong : Int32} {v_wrongAt : Int32} {v_errorAt : Int32} {v_number : Int64} {v_movingMany : Int32} {v_foundIncome : Int32} {v_foundMoves : Int32} {res : Int32} {sz : Nat} {n : Nat} {v_a : Nat → Int32} {x1 : Int32} {x2 : Int32} (hf : f_X6_hinders n v_a x1 x2 = some res) : Met l yX6_hinders zwX6_hinders rmX6_hinders (zPc D (zT cI cZ cM) [.ref a_this, .int x1, .int x2] [(a_this, .inr (6, [.ref a_a, .ref a_fresh, .ref a_kept, .int v_keptMany, .int v_thrown, .ref a_buffer, .int v_buffered, .int v_size, .int v_at, .int v_behind, .int v_kind, .int v_wrong, .int v_wrongAt, .int v_errorAt, .long v_number, .ref a_best, .ref a_rentBy, .ref a_bareBy, .ref a_aheadBy, .ref a_isEdge, .ref a_tried, .ref a_stands, .ref a_found, .ref a_foundOn, .ref a_moving, .int v_movingMany, .int v_foundIncome, .int v_foundMoves])), (a_a, .inl (cI, 180, .inl v_a))] sz) (zQi D (zT cI cZ cM) res [(a_this, .inr (6, [.ref a_a, .ref a_fresh, .ref a_kept, .int v_keptMany, .int v_thrown, .ref a_buffer, .int v_buffered, .int v_size, .int v_at, .int v_behind, .int v_kind, .int v_wrong, .int v_wrongAt, .int v_errorAt, .long v_number, .ref a_best, .ref a_rentBy, .ref a_bareBy, .ref a_aheadBy, .ref a_isEdge, .ref a_tried, .ref a_stands, .ref a_found, .ref a_foundOn, .ref a_moving, .int v_movingMany, .int v_foundIncome, .int v_foundMoves])), (a_a, .inl (cI, 180, .inl v_a))] (va_A [(a_this, .inr (6, [.ref a_a, .ref a_fresh, .ref a_kept, .int v_keptMany, .int v_thrown, .ref a_buffer, .int v_buffered, .int v_size, .int v_at, .int v_behind, .int v_kind, .int v_wrong, .int v_wrongAt, .int v_errorAt, .long v_number, .ref a_best, .ref a_rentBy, .ref a_bareBy, .ref a_aheadBy, .ref a_isEdge, .ref a_tried, .ref a_stands, .ref a_found, .ref a_foundOn, .ref a_moving, .int v_movingMany, .int v_foundIncome, .int v_foundMoves])), (a_a, .inl (cI, 180, .inl v_a))] sz)) 0 0 (va_A [(a_this, .inr (6, [.ref a_a, .ref a_fresh, .ref a_kept, .int v_keptMany, .int v_thrown, .ref a_buffer, .int v_buffered, .int v_size, .int v_at, .int v_behind, .int v_kind, .int v_wrong, .int v_wrongAt, .int v_errorAt, .long v_number, .ref a_best, .ref a_rentBy, .ref a_bareBy, .ref a_aheadBy, .ref a_isEdge, .ref a_tried, .ref a_stands, .ref a_found, .ref a_foundOn, .ref a_moving, .int v_movingMany, .int v_foundIncome, .int v_foundMoves])), (a_a, .inl (cI, 180, .inl v_a))] sz) := by
  refine z_met (cc := cX6_hinders) (maxL := 3) (ret := (some .int)) (by decide) rfl (Nat.le_of_ble_eq_true rfl) ?_
  intro p e s m below meth c ls E hsz hw hl
  obtain ⟨⟨hx, hb, hml, hown, hts⟩, hr, hlocks⟩ := id E
  have hl : lv_has ls 3 [(0, .ref a_this), (1, .int x1), (2, .int x2)] := hl
  unfold f_X6_hinders at hf
  refine lv_aload_n hx hb dX6_hinders_0 rfl (lv_at hl 0 rfl) ?_
  refine z_get E.1 hw in_wsX60 0 rfl rfl 0 (z_lt rfl) mw_593 (v := .ref a_a) rfl dX6_hinders_1 ?_
  refine lv_bipush (v := 107) hx hb dX6_hinders_4 (by decide) ?_
  refine lv_iload_n hx hb dX6_hinders_6 rfl (lv_at hl 1 rfl) ?_
  refine lv_iadd hx hb dX6_hinders_7 ?_
  obtain ⟨h_1, hf⟩ := oA_elim hf
  refine z_iald E.1 hw 1 0 rfl rfl h_1 dX6_hinders_8 ?_
  refine lv_iconst (v := -1) hx hb dX6_hinders_9 (by decide) ?_
  refine lv_icmp_eq (tgt := 15) hx hb dX6_hinders_10 (by decide) (fun hc => ?_) (fun hc => ?_)
  · have hf := oI_pos hc hf
    refine lv_aload_n hx hb dX6_hinders_15 rfl (lv_at hl 0 rfl) ?_
    refine lv_iload_n hx hb dX6_hinders_16 rfl (lv_at hl 1 rfl) ?_
    refine lv_iload_n hx hb dX6_hinders_17 rfl (lv_at hl 2 rfl) ?_
    obtain ⟨r_2, h_3, hf⟩ := oB_elim hf
    refine z_callVi (ws' := [(a_this, .inr (6, [.ref a_a, .ref a_fresh, .ref a_kept, .int v_keptMany, .int v_thrown, .ref a_buffer, .int v_buffered, .int v_size, .int v_at, .int v_behind, .int v_kind, .int v_wrong, .int v_wrongAt, .int v_errorAt, .long v_number, .ref a_best, .ref a_rentBy, .ref a_bareBy, .ref a_aheadBy, .ref a_isEdge, .ref a_tried, .ref a_stands, .ref a_found, .ref a_foundOn, .ref a_moving, .int v_movingMany, .int v_foundIncome, .int v_foundMoves])), (a_a, .inl (cI, 180, .inl v_a))]) (wr := []) (As := [.int x1, .int x2]) (rest := []) E.1 hl hw (c_X6_isRoom h_3) (cwV 2 hts (z_gV mw_640 mw_641 mw_642 mw_597 mw_643) rfl rfl rfl (by decide +kernel) ⟨(Nat.le_of_ble_eq_true rfl), (Nat.le_of_ble_eq_true rfl)⟩) 2 [(0, 2)] [] rfl rfl rfl rfl rfl rfl (by decide +kernel) rfl (q0 := 0) rfl rfl rfl (Nat.le_of_ble_eq_true rfl) dX6_hinders_18 ⟨Nat.le_of_ble_eq_true rfl, Nat.le_of_ble_eq_true rfl⟩ (fun H locs hw => ?_)
    refine lv_if_ne (tgt := 26) hx hb dX6_hinders_21 (by decide) (fun hc => ?_) (fun hc => ?_)
    · have hf := oI_neg hc hf
      refine lv_aload_n hx hb dX6_hinders_26 rfl (lv_at hl 0 rfl) ?_
      refine lv_iload_n hx hb dX6_hinders_27 rfl (lv_at hl 1 rfl) ?_
      refine lv_iload_n hx hb dX6_hinders_28 rfl (lv_at hl 2 rfl) ?_
      obtain ⟨r_4, h_5, hf⟩ := oB_elim hf
      refine z_callVi (ws' := [(a_this, .inr (6, [.ref a_a, .ref a_fresh, .ref a_kept, .int v_keptMany, .int v_thrown, .ref a_buffer, .int v_buffered, .int v_size, .int v_at, .int v_behind, .int v_kind, .int v_wrong, .int v_wrongAt, .int v_errorAt, .long v_number, .ref a_best, .ref a_rentBy, .ref a_bareBy, .ref a_aheadBy, .ref a_isEdge, .ref a_tried, .ref a_stands, .ref a_found, .ref a_foundOn, .ref a_moving, .int v_movingMany, .int v_foundIncome, .int v_foundMoves])), (a_a, .inl (cI, 180, .inl v_a))]) (wr := []) (As := [.int x1, .int x2]) (rest := []) E.1 hl hw (c_X6_isFree h_5) (cwV 2 hts (z_gV mw_784 mw_785 mw_786 mw_597 mw_787) rfl rfl rfl (by decide +kernel) ⟨(Nat.le_of_ble_eq_true rfl), (Nat.le_of_ble_eq_true rfl)⟩) 2 [(0, 2)] [] rfl rfl rfl rfl rfl rfl (by decide +kernel) rfl (q0 := 0) rfl rfl rfl (Nat.le_of_ble_eq_true rfl) dX6_hinders_29 ⟨Nat.le_of_ble_eq_true rfl, Nat.le_of_ble_eq_true rfl⟩ (fun H locs hw => ?_)
      refine lv_if_ne (tgt := 37) hx hb dX6_hinders_32 (by decide) (fun hc => ?_) (fun hc => ?_)
      · have hf := oI_neg hc hf
        refine lv_aload_n hx hb dX6_hinders_37 rfl (lv_at hl 0 rfl) ?_
        refine lv_iload_n hx hb dX6_hinders_38 rfl (lv_at hl 1 rfl) ?_
        refine lv_iload_n hx hb dX6_hinders_39 rfl (lv_at hl 2 rfl) ?_
        obtain ⟨r_6, h_7, hf⟩ := oB_elim hf
        refine z_callVi (ws' := [(a_this, .inr (6, [.ref a_a, .ref a_fresh, .ref a_kept, .int v_keptMany, .int v_thrown, .ref a_buffer, .int v_buffered, .int v_size, .int v_at, .int v_behind, .int v_kind, .int v_wrong, .int v_wrongAt, .int v_errorAt, .long v_number, .ref a_best, .ref a_rentBy, .ref a_bareBy, .ref a_aheadBy, .ref a_isEdge, .ref a_tried, .ref a_stands, .ref a_found, .ref a_foundOn, .ref a_moving, .int v_movingMany, .int v_foundIncome, .int v_foundMoves])), (a_a, .inl (cI, 180, .inl v_a))]) (wr := []) (As := [.int x1, .int x2]) (rest := []) E.1 hl hw (c_X6_rentOf h_7) (cwV 2 hts (z_gV mw_644 mw_645 mw_646 mw_597 mw_647) rfl rfl rfl (by decide +kernel) ⟨(Nat.le_of_ble_eq_true rfl), (Nat.le_of_ble_eq_true rfl)⟩) 2 [(0, 2)] [] rfl rfl rfl rfl rfl rfl (by decide +kernel) rfl (q0 := 0) rfl rfl rfl (Nat.le_of_ble_eq_true rfl) dX6_hinders_40 ⟨Nat.le_of_ble_eq_true rfl, Nat.le_of_ble_eq_true rfl⟩ (fun H locs hw => ?_)
        refine lv_aload_n hx hb dX6_hinders_43 rfl (lv_at hl 0 rfl) ?_
        refine z_get E.1 hw in_wsX60 0 rfl rfl 0 (z_lt rfl) mw_593 (v := .ref a_a) rfl dX6_hinders_44 ?_
        refine lv_bipush (v := 91) hx hb dX6_hinders_47 (by decide) ?_
        refine lv_iload_n hx hb dX6_hinders_49 rfl (lv_at hl 1 rfl) ?_
        refine lv_iadd hx hb dX6_hinders_50 ?_
        obtain ⟨h_8, hf⟩ := oA_elim hf
        refine z_iald E.1 hw 1 0 rfl rfl h_8 dX6_hinders_51 ?_
        refine lv_icmp_le (tgt := 57) hx hb dX6_hinders_52 (by decide) (fun hc => ?_) (fun hc => ?_)
        · have hf := oI_pos hc hf
          refine lv_aload_n hx hb dX6_hinders_57 rfl (lv_at hl 0 rfl) ?_
          obtain ⟨r_9, h_10, hf⟩ := oB_elim hf
          refine z_callVi (ws' := [(a_this, .inr (6, [.ref a_a, .ref a_fresh, .ref a_kept, .int v_keptMany, .int v_thrown, .ref a_buffer, .int v_buffered, .int v_size, .int v_at, .int v_behind, .int v_kind, .int v_wrong, .int v_wrongAt, .int v_errorAt, .long v_number, .ref a_best, .ref a_rentBy, .ref a_bareBy, .ref a_aheadBy, .ref a_isEdge, .ref a_tried, .ref a_stands, .ref a_found, .ref a_foundOn, .ref a_moving, .int v_movingMany, .int v_foundIncome, .int v_foundMoves])), (a_a, .inl (cI, 180, .inl v_a))]) (wr := []) (As := []) (rest := []) E.1 hl hw (c_X6_usedCovers h_10) (cwV 0 hts (z_gV mw_720 mw_721 mw_722 mw_597 mw_723) rfl rfl rfl (by decide +kernel) ⟨(Nat.le_of_ble_eq_true rfl), (Nat.le_of_ble_eq_true rfl)⟩) 2 [(0, 2)] [] rfl rfl rfl rfl rfl rfl (by decide +kernel) rfl (q0 := 0) rfl rfl rfl (Nat.le_of_ble_eq_true rfl) dX6_hinders_58 ⟨Nat.le_of_ble_eq_true rfl, Nat.le_of_ble_eq_true rfl⟩ (fun H locs hw => ?_)
          refine lv_aload_n hx hb dX6_hinders_61 rfl (lv_at hl 0 rfl) ?_
          refine lv_iload_n hx hb dX6_hinders_62 rfl (lv_at hl 1 rfl) ?_
          refine lv_iload_n hx hb dX6_hinders_63 rfl (lv_at hl 2 rfl) ?_
          obtain ⟨r_11, h_12, hf⟩ := oB_elim hf
          refine z_callVi (ws' := [(a_this, .inr (6, [.ref a_a, .ref a_fresh, .ref a_kept, .int v_keptMany, .int v_thrown, .ref a_buffer, .int v_buffered, .int v_size, .int v_at, .int v_behind, .int v_kind, .int v_wrong, .int v_wrongAt, .int v_errorAt, .long v_number, .ref a_best, .ref a_rentBy, .ref a_bareBy, .ref a_aheadBy, .ref a_isEdge, .ref a_tried, .ref a_stands, .ref a_found, .ref a_foundOn, .ref a_moving, .int v_movingMany, .int v_foundIncome, .int v_foundMoves])), (a_a, .inl (cI, 180, .inl v_a))]) (wr := []) (As := [.int x1, .int x2]) (rest := [.int r_9]) E.1 hl hw (c_X6_bare h_12) (cwV 2 hts (z_gV mw_648 mw_649 mw_650 mw_597 mw_619) rfl rfl rfl (by decide +kernel) ⟨(Nat.le_of_ble_eq_true rfl), (Nat.le_of_ble_eq_true rfl)⟩) 2 [(0, 2)] [] rfl rfl rfl rfl rfl rfl (by decide +kernel) rfl (q0 := 0) rfl rfl rfl (Nat.le_of_ble_eq_true rfl) dX6_hinders_64 ⟨Nat.le_of_ble_eq_true rfl, Nat.le_of_ble_eq_true rfl⟩ (fun H locs hw => ?_)
          refine lv_iadd hx hb dX6_hinders_67 ?_
          refine lv_aload_n hx hb dX6_hinders_68 rfl (lv_at hl 0 rfl) ?_
          refine z_get E.1 hw in_wsX60 0 rfl rfl 0 (z_lt rfl) mw_593 (v := .ref a_a) rfl dX6_hinders_69 ?_
          refine lv_sipush (v := 179) hx hb dX6_hinders_72 (by decide) ?_
          obtain ⟨h_13, hf⟩ := oA_elim hf
          refine z_iald E.1 hw 1 0 rfl rfl h_13 dX6_hinders_75 ?_
          refine lv_icmp_le (tgt := 81) hx hb dX6_hinders_76 (by decide) (fun hc => ?_) (fun hc => ?_)
          · have hf := oI_pos hc hf
            refine lv_aload_n hx hb dX6_hinders_81 rfl (lv_at hl 0 rfl) ?_
            refine lv_iload_n hx hb dX6_hinders_82 rfl (lv_at hl 1 rfl) ?_
            refine lv_iload_n hx hb dX6_hinders_83 rfl (lv_at hl 2 rfl) ?_
            refine lv_iload_n hx hb dX6_hinders_84 rfl (lv_at hl 2 rfl) ?_
            refine lv_iconst (v := 1) hx hb dX6_hinders_85 (by decide) ?_
            refine lv_isub hx hb dX6_hinders_86 ?_
            obtain ⟨r_14, h_15, hf⟩ := oB_elim hf
            refine z_callVi (ws' := [(a_this, .inr (6, [.ref a_a, .ref a_fresh, .ref a_kept, .int v_keptMany, .int v_thrown, .ref a_buffer, .int v_buffered, .int v_size, .int v_at, .int v_behind, .int v_kind, .int v_wrong, .int v_wrongAt, .int v_errorAt, .long v_number, .ref a_best, .ref a_rentBy, .ref a_bareBy, .ref a_aheadBy, .ref a_isEdge, .ref a_tried, .ref a_stands, .ref a_found, .ref a_foundOn, .ref a_moving, .int v_movingMany, .int v_foundIncome, .int v_foundMoves])), (a_a, .inl (cI, 180, .inl v_a))]) (wr := []) (As := [.int x1, .int x2, .int (x2 - (1 : Int32))]) (rest := []) E.1 hl hw (c_X6_clashesAt h_15) (cwV 3 hts (z_gV mw_788 mw_789 mw_790 mw_597 mw_698) rfl rfl rfl (by decide +kernel) ⟨(Nat.le_of_ble_eq_true rfl), (Nat.le_of_ble_eq_true rfl)⟩) 2 [(0, 2)] [] rfl rfl rfl rfl rfl rfl (by decide +kernel) rfl (q0 := 0) rfl rfl rfl (Nat.le_of_ble_eq_true rfl) dX6_hinders_87 ⟨Nat.le_of_ble_eq_true rfl, Nat.le_of_ble_eq_true rfl⟩ (fun H locs hw => ?_)
            refine lv_if_ne (tgt := 113) hx hb dX6_hinders_90 (by decide) (fun hc => ?_) (fun hc => ?_)
            · have hf := oI_neg hc hf
              exact w_X6_hinders_113 E   hf _ _ _ hw (lv_sub hl [] rfl)
            · have hf := oI_pos hc hf
              refine lv_aload_n hx hb dX6_hinders_93 rfl (lv_at hl 0 rfl) ?_
              refine lv_iload_n hx hb dX6_hinders_94 rfl (lv_at hl 1 rfl) ?_
              refine lv_iload_n hx hb dX6_hinders_95 rfl (lv_at hl 2 rfl) ?_
              refine lv_iload_n hx hb dX6_hinders_96 rfl (lv_at hl 2 rfl) ?_
              refine lv_aload_n hx hb dX6_hinders_97 rfl (lv_at hl 0 rfl) ?_
              refine z_get E.1 hw in_wsX60 0 rfl rfl 0 (z_lt rfl) mw_593 (v := .ref a_a) rfl dX6_hinders_98 ?_
              refine lv_bipush (v := 83) hx hb dX6_hinders_101 (by decide) ?_
              refine lv_iload_n hx hb dX6_hinders_103 rfl (lv_at hl 1 rfl) ?_
              refine lv_iadd hx hb dX6_hinders_104 ?_
              obtain ⟨h_16, hf⟩ := oA_elim hf
              refine z_iald E.1 hw 1 0 rfl rfl h_16 dX6_hinders_105 ?_
              refine lv_iadd hx hb dX6_hinders_106 ?_
              obtain ⟨r_17, h_18, hf⟩ := oB_elim hf
              refine z_callVi (ws' := [(a_this, .inr (6, [.ref a_a, .ref a_fresh, .ref a_kept, .int v_keptMany, .int v_thrown, .ref a_buffer, .int v_buffered, .int v_size, .int v_at, .int v_behind, .int v_kind, .int v_wrong, .int v_wrongAt, .int v_errorAt, .long v_number, .ref a_best, .ref a_rentBy, .ref a_bareBy, .ref a_aheadBy, .ref a_isEdge, .ref a_tried, .ref a_stands, .ref a_found, .ref a_foundOn, .ref a_moving, .int v_movingMany, .int v_foundIncome, .int v_foundMoves])), (a_a, .inl (cI, 180, .inl v_a))]) (wr := []) (As := [.int x1, .int x2, .int (x2 + (v_a (((83 : Int32) + x1)).toNatClampNeg))]) (rest := []) E.1 hl hw (c_X6_clashesAt h_18) (cwV 3 hts (z_gV mw_788 mw_789 mw_790 mw_597 mw_698) rfl rfl rfl (by decide +kernel) ⟨(Nat.le_of_ble_eq_true rfl), (Nat.le_of_ble_eq_true rfl)⟩) 2 [(0, 2)] [] rfl rfl rfl rfl rfl rfl (by decide +kernel) rfl (q0 := 0) rfl rfl rfl (Nat.le_of_ble_eq_true rfl) dX6_hinders_107 ⟨Nat.le_of_ble_eq_true rfl, Nat.le_of_ble_eq_true rfl⟩ (fun H locs hw => ?_)
              refine lv_if_eq (tgt := 118) hx hb dX6_hinders_110 (by decide) (fun hc => ?_) (fun hc => ?_)
              · have hf := oI_pos hc hf
                refine lv_iconst (v := 0) hx hb dX6_hinders_118 (by decide) ?_
                cases hf
                exact z_iret E rfl hw dX6_hinders_119
              · have hf := oI_neg hc hf
                exact w_X6_hinders_113 E   hf _ _ _ hw (lv_sub hl [] rfl)
          · have hf := oI_neg hc hf
            refine lv_iconst (v := 5) hx hb dX6_hinders_79 (by decide) ?_
            cases hf
            exact z_iret E rfl hw dX6_hinders_80
        · have hf := oI_neg hc hf
          refine lv_iconst (v := 4) hx hb dX6_hinders_55 (by decide) ?_
          cases hf
          exact z_iret E rfl hw dX6_hinders_56
      · have hf := oI_pos hc hf
        refine lv_iconst (v := 3) hx hb dX6_hinders_35 (by decide) ?_
        cases hf
        exact z_iret E rfl hw dX6_hinders_36
    · have hf := oI_pos hc hf
      refine lv_iconst (v := 2) hx hb dX6_hinders_24 (by decide) ?_
      cases hf
      exact z_iret E rfl hw dX6_hinders_25
  · have hf := oI_neg hc hf
    refine lv_iconst (v := 1) hx hb dX6_hinders_13 (by decide) ?_
    cases hf
    exact z_iret E rfl hw dX6_hinders_14
end
/-! X6_takesStart -/
section
variable {p : Program} {l : Launch} {e : Env} {s : State} {m : MethodId} {args : Array Value} {below : List Frame} {meth : Method} {c : Code} {D : va_G} {A : Nat → Prop} {cI cZ cM : ClassId} {a_this a_a a_fresh a_kept a_buffer a_best a_rentBy a_bareBy a_aheadBy a_isEdge a_tried a_stands a_found a_foundOn a_moving : Nat} {v_keptMany : Int32} {v_thrown : Int32} {v_buffered : Int32} {v_size : Int32} {v_at : Int32} {v_behind : Int32} {v_kind : Int32} {v_wrong : Int32} {v_wrongAt : Int32} {v_errorAt : Int32} {v_number : Int64} {v_movingMany : Int32} {v_foundIncome : Int32} {v_foundMoves : Int32} {res : Int32}
def rmX6_takesStart : Room := { frames := 5, cells := 0, slots := 0, locals := 114 }
abbrev zwX6_takesStart : List Cond := Cond.code yX6_takesStart cX6_takesStart 4 (some .int) :: wsAll
set_option maxHeartbeats 4000000 in
set_option maxRecDepth 100000 in
theorem w_X6_takesStart_45 {n : Nat} (E : zE p s m args meth c cX6_takesStart 4 (some .int) zwX6_takesStart RX6) {k4 : Int32 → Int32 → Int32 → (Nat → Int32) → Option (Int32)} (hk4 : ∀ (x1 : Int32) (x2 : Int32) (x3 : Int32) (v_a : Nat → Int32), k4 x1 x2 x3 v_a = some res → ∀ (H : Heap) (locs : List Loc) (ls : Array Slot), zW D (zT cI cZ cM) A s [(a_this, .inr (6, [.ref a_a, .ref a_fresh, .ref a_kept, .int v_keptMany, .int v_thrown, .ref a_buffer, .int v_buffered, .int v_size, .int v_at, .int v_behind, .int v_kind, .int v_wrong, .int v_wrongAt, .int v_errorAt, .long v_number, .ref a_best, .ref a_rentBy, .ref a_bareBy, .ref a_aheadBy, .ref a_isEdge, .ref a_tried, .ref a_stands, .ref a_found, .ref a_foundOn, .ref a_moving, .int v_movingMany, .int v_foundIncome, .int v_foundMoves])), (a_a, .inl (cI, 180, .inl v_a))] H locs → lv_has ls 4 [(0, .ref a_this), (1, .int x1), (2, .int x2), (3, .int x3)] → W p l e rmX6_takesStart s m args below meth c H locs 0 0 (MQ below (zQi D (zT cI cZ cM) res [(a_this, .inr (6, [.ref a_a, .ref a_fresh, .ref a_kept, .int v_keptMany, .int v_thrown, .ref a_buffer, .int v_buffered, .int v_size, .int v_at, .int v_behind, .int v_kind, .int v_wrong, .int v_wrongAt, .int v_errorAt, .long v_number, .ref a_best, .ref a_rentBy, .ref a_bareBy, .ref a_aheadBy, .ref a_isEdge, .ref a_tried, .ref a_stands, .ref a_found, .ref a_foundOn, .ref a_moving, .int v_movingMany, .int v_foundIncome, .int v_foundMoves])), (a_a, .inl (cI, 180, .inl v_a))] A) args s 0 0 A) (F0 m 4 ls [])) : ∀ (x1 : Int32) (x2 : Int32) (x3 : Int32) (v_a : Nat → Int32), f_X6_takesStart_45 n k4 x1 x2 x3 v_a = some res → ∀ (H : Heap) (locs : List Loc) (ls : Array Slot), zW D (zT cI cZ cM) A s [(a_this, .inr (6, [.ref a_a, .ref a_fresh, .ref a_kept, .int v_keptMany, .int v_thrown, .ref a_buffer, .int v_buffered, .int v_size, .int v_at, .int v_behind, .int v_kind, .int v_wrong, .int v_wrongAt, .int v_errorAt, .long v_number, .ref a_best, .ref a_rentBy, .ref a_bareBy, .ref a_aheadBy, .ref a_isEdge, .ref a_tried, .ref a_stands, .ref a_found, .ref a_foundOn, .ref a_moving, .int v_movingMany, .int v_foundIncome, .int v_foundMoves])), (a_a, .inl (cI, 180, .inl v_a))] H locs → lv_has ls 4 [(0, .ref a_this), (1, .int x1), (2, .int x2), (3, .int x3)] → W p l e rmX6_takesStart s m args below meth c H locs 0 0 (MQ below (zQi D (zT cI cZ cM) res [(a_this, .inr (6, [.ref a_a, .ref a_fresh, .ref a_kept, .int v_keptMany, .int v_thrown, .ref a_buffer, .int v_buffered, .int v_size, .int v_at, .int v_behind, .int v_kind, .int v_wrong, .int v_wrongAt, .int v_errorAt, .long v_number, .ref a_best, .ref a_rentBy, .ref a_bareBy, .ref a_aheadBy, .ref a_isEdge, .ref a_tried, .ref a_stands, .ref a_found, .ref a_foundOn, .ref a_moving, .int v_movingMany, .int v_foundIncome, .int v_foundMoves])), (a_a, .inl (cI, 180, .inl v_a))] A) args s 0 0 A) (F0 m 45 ls []) := by
  obtain ⟨⟨hx, hb, hml, hown, hts⟩, hr, hlocks⟩ := id E
  intro x1 x2 x3 v_a hf H locs ls hw hl
  unfold f_X6_takesStart_45 at hf
  refine lv_iinc (v := (x3 + (1 : Int32))) (lv' := [(3, .int (x3 + (1 : Int32))), (0, .ref a_this), (1, .int x1), (2, .int x2)]) hx hb dX6_takesStart_45 hl (k := 3) rfl rfl (z_lt rfl) rfl (fun ls hl => ?_)
  refine lv_goto (tgt := 4) hx hb dX6_takesStart_48 (by decide) ?_
  exact hk4 _ _ _ _ hf _ _ _ hw (lv_sub hl [1, 2, 3, 0] rfl)
set_option maxHeartbeats 4000000 in
set_option maxRecDepth 100000 in
theorem w_X6_takesStart_43 {n : Nat} (E : zE p s m args meth c cX6_takesStart 4 (some .int) zwX6_takesStart RX6) {k4 : Int32 → Int32 → Int32 → (Nat → Int32) → Option (Int32)} (hk4 : ∀ (x1 : Int32) (x2 : Int32) (x3 : Int32) (v_a : Nat → Int32), k4 x1 x2 x3 v_a = some res → ∀ (H : Heap) (locs : List Loc) (ls : Array Slot), zW D (zT cI cZ cM) A s [(a_this, .inr (6, [.ref a_a, .ref a_fresh, .ref a_kept, .int v_keptMany, .int v_thrown, .ref a_buffer, .int v_buffered, .int v_size, .int v_at, .int v_behind, .int v_kind, .int v_wrong, .int v_wrongAt, .int v_errorAt, .long v_number, .ref a_best, .ref a_rentBy, .ref a_bareBy, .ref a_aheadBy, .ref a_isEdge, .ref a_tried, .ref a_stands, .ref a_found, .ref a_foundOn, .ref a_moving, .int v_movingMany, .int v_foundIncome, .int v_foundMoves])), (a_a, .inl (cI, 180, .inl v_a))] H locs → lv_has ls 4 [(0, .ref a_this), (1, .int x1), (2, .int x2), (3, .int x3)] → W p l e rmX6_takesStart s m args below meth c H locs 0 0 (MQ below (zQi D (zT cI cZ cM) res [(a_this, .inr (6, [.ref a_a, .ref a_fresh, .ref a_kept, .int v_keptMany, .int v_thrown, .ref a_buffer, .int v_buffered, .int v_size, .int v_at, .int v_behind, .int v_kind, .int v_wrong, .int v_wrongAt, .int v_errorAt, .long v_number, .ref a_best, .ref a_rentBy, .ref a_bareBy, .ref a_aheadBy, .ref a_isEdge, .ref a_tried, .ref a_stands, .ref a_found, .ref a_foundOn, .ref a_moving, .int v_movingMany, .int v_foundIncome, .int v_foundMoves])), (a_a, .inl (cI, 180, .inl v_a))] A) args s 0 0 A) (F0 m 4 ls [])) : ∀ (x1 : Int32) (x3 : Int32) (v_a : Nat → Int32), f_X6_takesStart_43 n k4 x1 x3 v_a = some res → ∀ (H : Heap) (locs : List Loc) (ls : Array Slot), zW D (zT cI cZ cM) A s [(a_this, .inr (6, [.ref a_a, .ref a_fresh, .ref a_kept, .int v_keptMany, .int v_thrown, .ref a_buffer, .int v_buffered, .int v_size, .int v_at, .int v_behind, .int v_kind, .int v_wrong, .int v_wrongAt, .int v_errorAt, .long v_number, .ref a_best, .ref a_rentBy, .ref a_bareBy, .ref a_aheadBy, .ref a_isEdge, .ref a_tried, .ref a_stands, .ref a_found, .ref a_foundOn, .ref a_moving, .int v_movingMany, .int v_foundIncome, .int v_foundMoves])), (a_a, .inl (cI, 180, .inl v_a))] H locs → lv_has ls 4 [(0, .ref a_this), (1, .int x1), (3, .int x3)] → W p l e rmX6_takesStart s m args below meth c H locs 0 0 (MQ below (zQi D (zT cI cZ cM) res [(a_this, .inr (6, [.ref a_a, .ref a_fresh, .ref a_kept, .int v_keptMany, .int v_thrown, .ref a_buffer, .int v_buffered, .int v_size, .int v_at, .int v_behind, .int v_kind, .int v_wrong, .int v_wrongAt, .int v_errorAt, .long v_number, .ref a_best, .ref a_rentBy, .ref a_bareBy, .ref a_aheadBy, .ref a_isEdge, .ref a_tried, .ref a_stands, .ref a_found, .ref a_foundOn, .ref a_moving, .int v_movingMany, .int v_foundIncome, .int v_foundMoves])), (a_a, .inl (cI, 180, .inl v_a))] A) args s 0 0 A) (F0 m 43 ls []) := by
  obtain ⟨⟨hx, hb, hml, hown, hts⟩, hr, hlocks⟩ := id E
  intro x1 x3 v_a hf H locs ls hw hl
  unfold f_X6_takesStart_43 at hf
  refine lv_iload_n hx hb dX6_takesStart_43 rfl (lv_at hl 2 rfl) ?_
  refine lv_istore_n (lv' := [(2, .int x3), (0, .ref a_this), (1, .int x1), (3, .int x3)]) hx hb dX6_takesStart_44 rfl hl (z_lt rfl) rfl (fun ls hl => ?_)
  exact w_X6_takesStart_45 E hk4 _ _ _ _ hf _ _ _ hw (lv_sub hl [1, 2, 0, 3] rfl)
set_option maxHeartbeats 4000000 in
set_option maxRecDepth 100000 in
theorem w_X6_takesStart_4 {n : Nat} (E : zE p s m args meth c cX6_takesStart 4 (some .int) zwX6_takesStart RX6) : ∀ (fu : Nat), ∀ (x1 : Int32) (x2 : Int32) (x3 : Int32) (v_a : Nat → Int32), f_X6_takesStart_4 n fu x1 x2 x3 v_a = some res → ∀ (H : Heap) (locs : List Loc) (ls : Array Slot), zW D (zT cI cZ cM) A s [(a_this, .inr (6, [.ref a_a, .ref a_fresh, .ref a_kept, .int v_keptMany, .int v_thrown, .ref a_buffer, .int v_buffered, .int v_size, .int v_at, .int v_behind, .int v_kind, .int v_wrong, .int v_wrongAt, .int v_errorAt, .long v_number, .ref a_best, .ref a_rentBy, .ref a_bareBy, .ref a_aheadBy, .ref a_isEdge, .ref a_tried, .ref a_stands, .ref a_found, .ref a_foundOn, .ref a_moving, .int v_movingMany, .int v_foundIncome, .int v_foundMoves])), (a_a, .inl (cI, 180, .inl v_a))] H locs → lv_has ls 4 [(0, .ref a_this), (1, .int x1), (2, .int x2), (3, .int x3)] → W p l e rmX6_takesStart s m args below meth c H locs 0 0 (MQ below (zQi D (zT cI cZ cM) res [(a_this, .inr (6, [.ref a_a, .ref a_fresh, .ref a_kept, .int v_keptMany, .int v_thrown, .ref a_buffer, .int v_buffered, .int v_size, .int v_at, .int v_behind, .int v_kind, .int v_wrong, .int v_wrongAt, .int v_errorAt, .long v_number, .ref a_best, .ref a_rentBy, .ref a_bareBy, .ref a_aheadBy, .ref a_isEdge, .ref a_tried, .ref a_stands, .ref a_found, .ref a_foundOn, .ref a_moving, .int v_movingMany, .int v_foundIncome, .int v_foundMoves])), (a_a, .inl (cI, 180, .inl v_a))] A) args s 0 0 A) (F0 m 4 ls []) := by
  obtain ⟨⟨hx, hb, hml, hown, hts⟩, hr, hlocks⟩ := id E
  intro fu
  induction fu with
  | zero => intro x1 x2 x3 v_a hf; rw [f_X6_takesStart_4.eq_1] at hf; cases hf
  | succ fu ih =>
    intro x1 x2 x3 v_a hf H locs ls hw hl
    rw [f_X6_takesStart_4.eq_2] at hf
    refine lv_iload_n hx hb dX6_takesStart_4 rfl (lv_at hl 3 rfl) ?_
    refine lv_aload_n hx hb dX6_takesStart_5 rfl (lv_at hl 0 rfl) ?_
    refine z_get E.1 hw in_wsX60 0 rfl rfl 0 (z_lt rfl) mw_593 (v := .ref a_a) rfl dX6_takesStart_6 ?_
    refine lv_iconst (v := 1) hx hb dX6_takesStart_9 (by decide) ?_
    obtain ⟨h_1, hf⟩ := oA_elim hf
    refine z_iald E.1 hw 1 0 rfl rfl h_1 dX6_takesStart_10 ?_
    refine lv_icmp_ge (tgt := 51) hx hb dX6_takesStart_11 (by decide) (fun hc => ?_) (fun hc => ?_)
    · have hf := oI_pos hc hf
      refine lv_iload_n hx hb dX6_takesStart_51 rfl (lv_at hl 2 rfl) ?_
      cases hf
      exact z_iret E rfl hw dX6_takesStart_52
    · have hf := oI_neg hc hf
      refine lv_aload_n hx hb dX6_takesStart_14 rfl (lv_at hl 0 rfl) ?_
      refine lv_iload_n hx hb dX6_takesStart_15 rfl (lv_at hl 1 rfl) ?_
      refine lv_iload_n hx hb dX6_takesStart_16 rfl (lv_at hl 3 rfl) ?_
      obtain ⟨r_2, h_3, hf⟩ := oB_elim hf
      refine z_callVi (ws' := [(a_this, .inr (6, [.ref a_a, .ref a_fresh, .ref a_kept, .int v_keptMany, .int v_thrown, .ref a_buffer, .int v_buffered, .int v_size, .int v_at, .int v_behind, .int v_kind, .int v_wrong, .int v_wrongAt, .int v_errorAt, .long v_number, .ref a_best, .ref a_rentBy, .ref a_bareBy, .ref a_aheadBy, .ref a_isEdge, .ref a_tried, .ref a_stands, .ref a_found, .ref a_foundOn, .ref a_moving, .int v_movingMany, .int v_foundIncome, .int v_foundMoves])), (a_a, .inl (cI, 180, .inl v_a))]) (wr := []) (As := [.int x1, .int x3]) (rest := []) E.1 hl hw (c_X6_hinders h_3) (cwV 2 hts (z_gV mw_780 mw_781 mw_782 mw_597 mw_783) rfl rfl rfl (by decide +kernel) ⟨(Nat.le_of_ble_eq_true rfl), (Nat.le_of_ble_eq_true rfl)⟩) 2 [(0, 2)] [] rfl rfl rfl rfl rfl rfl (by decide +kernel) rfl (q0 := 0) rfl rfl rfl (Nat.le_of_ble_eq_true rfl) dX6_takesStart_17 ⟨Nat.le_of_ble_eq_true rfl, Nat.le_of_ble_eq_true rfl⟩ (fun H locs hw => ?_)
      refine lv_if_ne (tgt := 45) hx hb dX6_takesStart_20 (by decide) (fun hc => ?_) (fun hc => ?_)
      · have hf := oI_neg hc hf
        exact w_X6_takesStart_45 E ih _ _ _ _ hf _ _ _ hw (lv_sub hl [0, 1, 2, 3] rfl)
      · have hf := oI_pos hc hf
        refine lv_iload_n hx hb dX6_takesStart_23 rfl (lv_at hl 2 rfl) ?_
        refine lv_iconst (v := -1) hx hb dX6_takesStart_24 (by decide) ?_
        refine lv_icmp_eq (tgt := 43) hx hb dX6_takesStart_25 (by decide) (fun hc => ?_) (fun hc => ?_)
        · have hf := oI_pos hc hf
          exact w_X6_takesStart_43 E ih _ _ _ hf _ _ _ hw (lv_sub hl [0, 1, 3] rfl)
        · have hf := oI_neg hc hf
          refine lv_aload_n hx hb dX6_takesStart_28 rfl (lv_at hl 0 rfl) ?_
          refine lv_iload_n hx hb dX6_takesStart_29 rfl (lv_at hl 1 rfl) ?_
          refine lv_iload_n hx hb dX6_takesStart_30 rfl (lv_at hl 3 rfl) ?_
          obtain ⟨r_4, h_5, hf⟩ := oB_elim hf
          refine z_callVi (ws' := [(a_this, .inr (6, [.ref a_a, .ref a_fresh, .ref a_kept, .int v_keptMany, .int v_thrown, .ref a_buffer, .int v_buffered, .int v_size, .int v_at, .int v_behind, .int v_kind, .int v_wrong, .int v_wrongAt, .int v_errorAt, .long v_number, .ref a_best, .ref a_rentBy, .ref a_bareBy, .ref a_aheadBy, .ref a_isEdge, .ref a_tried, .ref a_stands, .ref a_found, .ref a_foundOn, .ref a_moving, .int v_movingMany, .int v_foundIncome, .int v_foundMoves])), (a_a, .inl (cI, 180, .inl v_a))]) (wr := []) (As := [.int x1, .int x3]) (rest := []) E.1 hl hw (c_X6_rentOf h_5) (cwV 2 hts (z_gV mw_644 mw_645 mw_646 mw_597 mw_647) rfl rfl rfl (by decide +kernel) ⟨(Nat.le_of_ble_eq_true rfl), (Nat.le_of_ble_eq_true rfl)⟩) 2 [(0, 2)] [] rfl rfl rfl rfl rfl rfl (by decide +kernel) rfl (q0 := 0) rfl rfl rfl (Nat.le_of_ble_eq_true rfl) dX6_takesStart_31 ⟨Nat.le_of_ble_eq_true rfl, Nat.le_of_ble_eq_true rfl⟩ (fun H locs hw => ?_)
          refine lv_aload_n hx hb dX6_takesStart_34 rfl (lv_at hl 0 rfl) ?_
          refine lv_iload_n hx hb dX6_takesStart_35 rfl (lv_at hl 1 rfl) ?_
          refine lv_iload_n hx hb dX6_takesStart_36 rfl (lv_at hl 2 rfl) ?_
          obtain ⟨r_6, h_7, hf⟩ := oB_elim hf
          refine z_callVi (ws' := [(a_this, .inr (6, [.ref a_a, .ref a_fresh, .ref a_kept, .int v_keptMany, .int v_thrown, .ref a_buffer, .int v_buffered, .int v_size, .int v_at, .int v_behind, .int v_kind, .int v_wrong, .int v_wrongAt, .int v_errorAt, .long v_number, .ref a_best, .ref a_rentBy, .ref a_bareBy, .ref a_aheadBy, .ref a_isEdge, .ref a_tried, .ref a_stands, .ref a_found, .ref a_foundOn, .ref a_moving, .int v_movingMany, .int v_foundIncome, .int v_foundMoves])), (a_a, .inl (cI, 180, .inl v_a))]) (wr := []) (As := [.int x1, .int x2]) (rest := [.int r_4]) E.1 hl hw (c_X6_rentOf h_7) (cwV 2 hts (z_gV mw_644 mw_645 mw_646 mw_597 mw_647) rfl rfl rfl (by decide +kernel) ⟨(Nat.le_of_ble_eq_true rfl), (Nat.le_of_ble_eq_true rfl)⟩) 2 [(0, 2)] [] rfl rfl rfl rfl rfl rfl (by decide +kernel) rfl (q0 := 0) rfl rfl rfl (Nat.le_of_ble_eq_true rfl) dX6_takesStart_37 ⟨Nat.le_of_ble_eq_true rfl, Nat.le_of_ble_eq_true rfl⟩ (fun H locs hw => ?_)
          refine lv_icmp_le (tgt := 45) hx hb dX6_takesStart_40 (by decide) (fun hc => ?_) (fun hc => ?_)
          · have hf := oI_pos hc hf
            exact w_X6_takesStart_45 E ih _ _ _ _ hf _ _ _ hw (lv_sub hl [0, 1, 2, 3] rfl)
          · have hf := oI_neg hc hf
            exact w_X6_takesStart_43 E ih _ _ _ hf _ _ _ hw (lv_sub hl [0, 1, 3] rfl)
set_option maxHeartbeats 4000000 in
set_option maxRecDepth 100000 in
theorem c_X6_takesStart {l : Launch} {D : va_G} {cI cZ cM : ClassId} {a_this a_a a_fresh a_kept a_buffer a_best a_rentBy a_bareBy a_aheadBy a_isEdge a_tried a_stands a_found a_foundOn a_moving : Nat} {v_keptMany : Int32} {v_thrown : Int32} {v_buffered : Int32} {v_size : Int32} {v_at : Int32} {v_behind : Int32} {v_kind : Int32} {v_wrong : Int32} {v_wrongAt : Int32} {v_errorAt : Int32} {v_number : Int64} {v_movingMany : Int32} {v_foundIncome : Int32} {v_foundMoves : Int32} {res : Int32} {sz : Nat} {n : Nat} {v_a : Nat → Int32} {x1 : Int32} (hf : f_X6_takesStart n v_a x1 = some res) : Met l yX6_takesStart zwX6_takesStart rmX6_takesStart (zPc D (zT cI cZ cM) [.ref a_this, .int x1] [(a_this, .inr (6, [.ref a_a, .ref a_fresh, .ref a_kept, .int v_keptMany, .int v_thrown, .ref a_buffer, .int v_buffered, .int v_size, .int v_at, .int v_behind, .int v_kind, .int v_wrong, .int v_wrongAt, .int v_errorAt, .long v_number, .ref a_best, .ref a_rentBy, .ref a_bareBy, .ref a_aheadBy, .ref a_isEdge, .ref a_tried, .ref a_stands, .ref a_found, .ref a_foundOn, .ref a_moving, .int v_movingMany, .int v_foundIncome, .int v_foundMoves])), (a_a, .inl (cI, 180, .inl v_a))] sz) (zQi D (zT cI cZ cM) res [(a_this, .inr (6, [.ref a_a, .ref a_fresh, .ref a_kept, .int v_keptMany, .int v_thrown, .ref a_buffer, .int v_buffered, .int v_size, .int v_at, .int v_behind, .int v_kind, .int v_wrong, .int v_wrongAt, .int v_errorAt, .long v_number, .ref a_best, .ref a_rentBy, .ref a_bareBy, .ref a_aheadBy, .ref a_isEdge, .ref a_tried, .ref a_stands, .ref a_found, .ref a_foundOn, .ref a_moving, .int v_movingMany, .int v_foundIncome, .int v_foundMoves])), (a_a, .inl (cI, 180, .inl v_a))] (va_A [(a_this, .inr (6, [.ref a_a, .ref a_fresh, .ref a_kept, .int v_keptMany, .int v_thrown, .ref a_buffer, .int v_buffered, .int v_size, .int v_at, .int v_behind, .int v_kind, .int v_wrong, .int v_wrongAt, .int v_errorAt, .long v_number, .ref a_best, .ref a_rentBy, .ref a_bareBy, .ref a_aheadBy, .ref a_isEdge, .ref a_tried, .ref a_stands, .ref a_found, .ref a_foundOn, .ref a_moving, .int v_movingMany, .int v_foundIncome, .int v_foundMoves])), (a_a, .inl (cI, 180, .inl v_a))] sz)) 0 0 (va_A [(a_this, .inr (6, [.ref a_a, .ref a_fresh, .ref a_kept, .int v_keptMany, .int v_thrown, .ref a_buffer, .int v_buffered, .int v_size, .int v_at, .int v_behind, .int v_kind, .int v_wrong, .int v_wrongAt, .int v_errorAt, .long v_number, .ref a_best, .ref a_rentBy, .ref a_bareBy, .ref a_aheadBy, .ref a_isEdge, .ref a_tried, .ref a_stands, .ref a_found, .ref a_foundOn, .ref a_moving, .int v_movingMany, .int v_foundIncome, .int v_foundMoves])), (a_a, .inl (cI, 180, .inl v_a))] sz) := by
  refine z_met (cc := cX6_takesStart) (maxL := 4) (ret := (some .int)) (by decide) rfl (Nat.le_of_ble_eq_true rfl) ?_
  intro p e s m below meth c ls E hsz hw hl
  obtain ⟨⟨hx, hb, hml, hown, hts⟩, hr, hlocks⟩ := id E
  have hl : lv_has ls 4 [(0, .ref a_this), (1, .int x1)] := hl
  unfold f_X6_takesStart at hf
  refine lv_iconst (v := -1) hx hb dX6_takesStart_0 (by decide) ?_
  refine lv_istore_n (lv' := [(2, .int (-1 : Int32)), (0, .ref a_this), (1, .int x1)]) hx hb dX6_takesStart_1 rfl hl (z_lt rfl) rfl (fun ls hl => ?_)
  refine lv_iconst (v := 0) hx hb dX6_takesStart_2 (by decide) ?_
  refine lv_istore_n (lv' := [(3, .int (0 : Int32)), (2, .int (-1 : Int32)), (0, .ref a_this), (1, .int x1)]) hx hb dX6_takesStart_3 rfl hl (z_lt rfl) rfl (fun ls hl => ?_)
  exact w_X6_takesStart_4 E  n _ _ _ _ hf _ _ _ hw (lv_sub hl [2, 3, 1, 0] rfl)
end
/-! X6_isOrder -/
section
variable {p : Program} {l : Launch} {e : Env} {s : State} {m : MethodId} {args : Array Value} {below : List Frame} {meth : Method} {c : Code} {D : va_G} {A : Nat → Prop} {cI cZ cM : ClassId} {a_this a_a a_fresh a_kept a_buffer a_best a_rentBy a_bareBy a_aheadBy a_isEdge a_tried a_stands a_found a_foundOn a_moving : Nat} {v_keptMany : Int32} {v_thrown : Int32} {v_buffered : Int32} {v_size : Int32} {v_at : Int32} {v_behind : Int32} {v_kind : Int32} {v_wrong : Int32} {v_wrongAt : Int32} {v_errorAt : Int32} {v_number : Int64} {v_movingMany : Int32} {v_foundIncome : Int32} {v_foundMoves : Int32} {res : Int32}
def rmX6_isOrder : Room := { frames := 2, cells := 0, slots := 0, locals := 46 }
abbrev zwX6_isOrder : List Cond := Cond.code yX6_isOrder cX6_isOrder 7 (some .boolean) :: wsAll
set_option maxHeartbeats 4000000 in
set_option maxRecDepth 100000 in
theorem w_X6_isOrder_5 {n : Nat} (E : zE p s m args meth c cX6_isOrder 7 (some .boolean) zwX6_isOrder RX6) : ∀ (fu : Nat), ∀ (x1 : Int64) (x3 : Int32) (x4 : Int64) (v_a : Nat → Int32), f_X6_isOrder_5 n fu x1 x3 x4 v_a = some res → ∀ (H : Heap) (locs : List Loc) (ls : Array Slot), zW D (zT cI cZ cM) A s [(a_this, .inr (6, [.ref a_a, .ref a_fresh, .ref a_kept, .int v_keptMany, .int v_thrown, .ref a_buffer, .int v_buffered, .int v_size, .int v_at, .int v_behind, .int v_kind, .int v_wrong, .int v_wrongAt, .int v_errorAt, .long v_number, .ref a_best, .ref a_rentBy, .ref a_bareBy, .ref a_aheadBy, .ref a_isEdge, .ref a_tried, .ref a_stands, .ref a_found, .ref a_foundOn, .ref a_moving, .int v_movingMany, .int v_foundIncome, .int v_foundMoves])), (a_a, .inl (cI, 180, .inl v_a))] H locs → lv_has ls 7 [(0, .ref a_this), (1, .long x1), (3, .int x3), (4, .long x4)] → W p l e rmX6_isOrder s m args below meth c H locs 0 0 (MQ below (zQi D (zT cI cZ cM) res [(a_this, .inr (6, [.ref a_a, .ref a_fresh, .ref a_kept, .int v_keptMany, .int v_thrown, .ref a_buffer, .int v_buffered, .int v_size, .int v_at, .int v_behind, .int v_kind, .int v_wrong, .int v_wrongAt, .int v_errorAt, .long v_number, .ref a_best, .ref a_rentBy, .ref a_bareBy, .ref a_aheadBy, .ref a_isEdge, .ref a_tried, .ref a_stands, .ref a_found, .ref a_foundOn, .ref a_moving, .int v_movingMany, .int v_foundIncome, .int v_foundMoves])), (a_a, .inl (cI, 180, .inl v_a))] A) args s 0 0 A) (F0 m 5 ls []) := by
  obtain ⟨⟨hx, hb, hml, hown, hts⟩, hr, hlocks⟩ := id E
  intro fu
  induction fu with
  | zero => intro x1 x3 x4 v_a hf; rw [f_X6_isOrder_5.eq_1] at hf; cases hf
  | succ fu ih =>
    intro x1 x3 x4 v_a hf H locs ls hw hl
    rw [f_X6_isOrder_5.eq_2] at hf
    refine lv_lload hx hb dX6_isOrder_5 (lv_at hl 3 rfl) ?_
    refine lv_lconst (v := 0) hx hb dX6_isOrder_7 (by decide) ?_
    refine W.lcmp hx hb dX6_isOrder_8 ?_
    refine lv_if_le (tgt := 62) hx hb dX6_isOrder_9 (by decide) (fun hc => ?_) (fun hc => ?_)
    · have hf := oI_pos hc hf
      refine lv_lload_n hx hb dX6_isOrder_62 rfl (lv_at hl 1 rfl) ?_
      refine lv_lconst (v := 0) hx hb dX6_isOrder_63 (by decide) ?_
      refine W.lcmp hx hb dX6_isOrder_64 ?_
      refine lv_if_lt (tgt := 72) hx hb dX6_isOrder_65 (by decide) (fun hc => ?_) (fun hc => ?_)
      · have hf := oI_pos hc hf
        refine lv_iconst (v := 0) hx hb dX6_isOrder_72 (by decide) ?_
        cases hf
        exact z_zret E rfl z_n0 hw dX6_isOrder_73
      · have hf := oI_neg hc hf
        refine lv_iconst (v := 1) hx hb dX6_isOrder_68 (by decide) ?_
        refine lv_goto (tgt := 73) hx hb dX6_isOrder_69 (by decide) ?_
        cases hf
        exact z_zret E rfl z_n1 hw dX6_isOrder_73
    · have hf := oI_neg hc hf
      refine lv_lload hx hb dX6_isOrder_12 (lv_at hl 3 rfl) ?_
      refine lv_ldc2 (v := 10) hx hb hown (hts _ mw_740) dX6_isOrder_14 ?_
      refine lv_lrem hx hb dX6_isOrder_17 (by decide) ?_
      refine lv_l2i hx hb dX6_isOrder_18 rfl ?_
      refine lv_iconst (v := 1) hx hb dX6_isOrder_19 (by decide) ?_
      refine lv_isub hx hb dX6_isOrder_20 ?_
      obtain ⟨y_1, e_y_1, hf⟩ := oL_elim hf
      refine z_top e_y_1 ?_
      refine lv_istore (lv' := [(6, .int y_1), (0, .ref a_this), (1, .long x1), (3, .int x3), (4, .long x4)]) hx hb dX6_isOrder_21 hl (z_lt rfl) rfl (fun ls hl => ?_)
      refine lv_aload_n hx hb dX6_isOrder_23 rfl (lv_at hl 1 rfl) ?_
      refine lv_iload hx hb dX6_isOrder_24 (lv_at hl 0 rfl) ?_
      obtain ⟨r_2, h_3, hf⟩ := oB_elim hf
      refine z_callVi (ws' := [(a_this, .inr (6, [.ref a_a, .ref a_fresh, .ref a_kept, .int v_keptMany, .int v_thrown, .ref a_buffer, .int v_buffered, .int v_size, .int v_at, .int v_behind, .int v_kind, .int v_wrong, .int v_wrongAt, .int v_errorAt, .long v_number, .ref a_best, .ref a_rentBy, .ref a_bareBy, .ref a_aheadBy, .ref a_isEdge, .ref a_tried, .ref a_stands, .ref a_found, .ref a_foundOn, .ref a_moving, .int v_movingMany, .int v_foundIncome, .int v_foundMoves])), (a_a, .inl (cI, 180, .inl v_a))]) (wr := []) (As := [.int y_1]) (rest := []) E.1 hl hw (c_X6_isTrader h_3) (cwV 1 hts (z_gV mw_714 mw_715 mw_716 mw_597 mw_717) rfl rfl rfl (by decide +kernel) ⟨(Nat.le_of_ble_eq_true rfl), (Nat.le_of_ble_eq_true rfl)⟩) 2 [(0, 2)] [] rfl rfl rfl rfl rfl rfl (by decide +kernel) rfl (q0 := 0) rfl rfl rfl (Nat.le_of_ble_eq_true rfl) dX6_isOrder_26 ⟨Nat.le_of_ble_eq_true rfl, Nat.le_of_ble_eq_true rfl⟩ (fun H locs hw => ?_)
      refine lv_if_eq (tgt := 42) hx hb dX6_isOrder_29 (by decide) (fun hc => ?_) (fun hc => ?_)
      · have hf := oI_pos hc hf
        refine lv_iconst (v := 0) hx hb dX6_isOrder_42 (by decide) ?_
        cases hf
        exact z_zret E rfl z_n0 hw dX6_isOrder_43
      · have hf := oI_neg hc hf
        refine lv_iload_n hx hb dX6_isOrder_32 rfl (lv_at hl 3 rfl) ?_
        refine lv_iload hx hb dX6_isOrder_33 (lv_at hl 0 rfl) ?_
        refine lv_ishr hx hb dX6_isOrder_35 ?_
        refine lv_iconst (v := 1) hx hb dX6_isOrder_36 (by decide) ?_
        refine lv_iand hx hb dX6_isOrder_37 ?_
        refine lv_iconst (v := 1) hx hb dX6_isOrder_38 (by decide) ?_
        refine lv_icmp_ne (tgt := 44) hx hb dX6_isOrder_39 (by decide) (fun hc => ?_) (fun hc => ?_)
        · have hf := oI_neg hc hf
          refine lv_iload_n hx hb dX6_isOrder_44 rfl (lv_at hl 3 rfl) ?_
          refine lv_iconst (v := 1) hx hb dX6_isOrder_45 (by decide) ?_
          refine lv_iload hx hb dX6_isOrder_46 (lv_at hl 0 rfl) ?_
          refine lv_ishl hx hb dX6_isOrder_48 ?_
          refine lv_ior hx hb dX6_isOrder_49 ?_
          obtain ⟨y_4, e_y_4, hf⟩ := oL_elim hf
          refine z_top e_y_4 ?_
          refine lv_istore_n (lv' := [(3, .int y_4), (6, .int y_1), (0, .ref a_this), (1, .long x1), (4, .long x4)]) hx hb dX6_isOrder_50 rfl hl (z_lt rfl) rfl (fun ls hl => ?_)
          refine lv_lload hx hb dX6_isOrder_51 (lv_at hl 4 rfl) ?_
          refine lv_ldc2 (v := 10) hx hb hown (hts _ mw_740) dX6_isOrder_53 ?_
          refine lv_ldiv hx hb dX6_isOrder_56 (by decide) ?_
          obtain ⟨y_5, e_y_5, hf⟩ := oL_elim hf
          refine z_topl e_y_5 ?_
          refine lv_lstore (lv' := [(4, .long y_5), (3, .int y_4), (6, .int y_1), (0, .ref a_this), (1, .long x1)]) hx hb dX6_isOrder_57 hl (z_lt rfl) rfl (fun ls hl => ?_)
          refine lv_goto (tgt := 5) hx hb dX6_isOrder_59 (by decide) ?_
          exact ih _ _ _ _ hf _ _ _ hw (lv_sub hl [3, 4, 1, 0] rfl)
        · have hf := oI_pos hc hf
          refine lv_iconst (v := 0) hx hb dX6_isOrder_42 (by decide) ?_
          cases hf
          exact z_zret E rfl z_n0 hw dX6_isOrder_43
set_option maxHeartbeats 4000000 in
set_option maxRecDepth 100000 in
theorem c_X6_isOrder {l : Launch} {D : va_G} {cI cZ cM : ClassId} {a_this a_a a_fresh a_kept a_buffer a_best a_rentBy a_bareBy a_aheadBy a_isEdge a_tried a_stands a_found a_foundOn a_moving : Nat} {v_keptMany : Int32} {v_thrown : Int32} {v_buffered : Int32} {v_size : Int32} {v_at : Int32} {v_behind : Int32} {v_kind : Int32} {v_wrong : Int32} {v_wrongAt : Int32} {v_errorAt : Int32} {v_number : Int64} {v_movingMany : Int32} {v_foundIncome : Int32} {v_foundMoves : Int32} {res : Int32} {sz : Nat} {n : Nat} {v_a : Nat → Int32} {x1 : Int64} (hf : f_X6_isOrder n v_a x1 = some res) : Met l yX6_isOrder zwX6_isOrder rmX6_isOrder (zPc D (zT cI cZ cM) [.ref a_this, .long x1] [(a_this, .inr (6, [.ref a_a, .ref a_fresh, .ref a_kept, .int v_keptMany, .int v_thrown, .ref a_buffer, .int v_buffered, .int v_size, .int v_at, .int v_behind, .int v_kind, .int v_wrong, .int v_wrongAt, .int v_errorAt, .long v_number, .ref a_best, .ref a_rentBy, .ref a_bareBy, .ref a_aheadBy, .ref a_isEdge, .ref a_tried, .ref a_stands, .ref a_found, .ref a_foundOn, .ref a_moving, .int v_movingMany, .int v_foundIncome, .int v_foundMoves])), (a_a, .inl (cI, 180, .inl v_a))] sz) (zQi D (zT cI cZ cM) res [(a_this, .inr (6, [.ref a_a, .ref a_fresh, .ref a_kept, .int v_keptMany, .int v_thrown, .ref a_buffer, .int v_buffered, .int v_size, .int v_at, .int v_behind, .int v_kind, .int v_wrong, .int v_wrongAt, .int v_errorAt, .long v_number, .ref a_best, .ref a_rentBy, .ref a_bareBy, .ref a_aheadBy, .ref a_isEdge, .ref a_tried, .ref a_stands, .ref a_found, .ref a_foundOn, .ref a_moving, .int v_movingMany, .int v_foundIncome, .int v_foundMoves])), (a_a, .inl (cI, 180, .inl v_a))] (va_A [(a_this, .inr (6, [.ref a_a, .ref a_fresh, .ref a_kept, .int v_keptMany, .int v_thrown, .ref a_buffer, .int v_buffered, .int v_size, .int v_at, .int v_behind, .int v_kind, .int v_wrong, .int v_wrongAt, .int v_errorAt, .long v_number, .ref a_best, .ref a_rentBy, .ref a_bareBy, .ref a_aheadBy, .ref a_isEdge, .ref a_tried, .ref a_stands, .ref a_found, .ref a_foundOn, .ref a_moving, .int v_movingMany, .int v_foundIncome, .int v_foundMoves])), (a_a, .inl (cI, 180, .inl v_a))] sz)) 0 0 (va_A [(a_this, .inr (6, [.ref a_a, .ref a_fresh, .ref a_kept, .int v_keptMany, .int v_thrown, .ref a_buffer, .int v_buffered, .int v_size, .int v_at, .int v_behind, .int v_kind, .int v_wrong, .int v_wrongAt, .int v_errorAt, .long v_number, .ref a_best, .ref a_rentBy, .ref a_bareBy, .ref a_aheadBy, .ref a_isEdge, .ref a_tried, .ref a_stands, .ref a_found, .ref a_foundOn, .ref a_moving, .int v_movingMany, .int v_foundIncome, .int v_foundMoves])), (a_a, .inl (cI, 180, .inl v_a))] sz) := by
  refine z_met (cc := cX6_isOrder) (maxL := 7) (ret := (some .boolean)) (by decide) rfl (Nat.le_of_ble_eq_true rfl) ?_
  intro p e s m below meth c ls E hsz hw hl
  obtain ⟨⟨hx, hb, hml, hown, hts⟩, hr, hlocks⟩ := id E
  have hl : lv_has ls 7 [(0, .ref a_this), (1, .long x1)] := hl
  unfold f_X6_isOrder at hf
  refine lv_iconst (v := 0) hx hb dX6_isOrder_0 (by decide) ?_
  refine lv_istore_n (lv' := [(3, .int (0 : Int32)), (0, .ref a_this), (1, .long x1)]) hx hb dX6_isOrder_1 rfl hl (z_lt rfl) rfl (fun ls hl => ?_)
  refine lv_lload_n hx hb dX6_isOrder_2 rfl (lv_at hl 2 rfl) ?_
  refine lv_lstore (lv' := [(4, .long x1), (3, .int (0 : Int32)), (0, .ref a_this), (1, .long x1)]) hx hb dX6_isOrder_3 hl (z_lt rfl) rfl (fun ls hl => ?_)
  exact w_X6_isOrder_5 E  n _ _ _ _ hf _ _ _ hw (lv_sub hl [2, 3, 1, 0] rfl)
end
/-! X6_firstCome -/
section
variable {p : Program} {l : Launch} {e : Env} {s : State} {m : MethodId} {args : Array Value} {below : List Frame} {meth : Method} {c : Code} {D : va_G} {A : Nat → Prop} {cI cZ cM : ClassId} {a_this a_a a_fresh a_kept a_buffer a_best a_rentBy a_bareBy a_aheadBy a_isEdge a_tried a_stands a_found a_foundOn a_moving : Nat} {v_keptMany : Int32} {v_buffered : Int32} {v_size : Int32} {v_at : Int32} {v_behind : Int32} {v_kind : Int32} {v_wrong : Int32} {v_wrongAt : Int32} {v_errorAt : Int32} {v_number : Int64} {v_movingMany : Int32} {v_foundIncome : Int32} {v_foundMoves : Int32} {res : Int32 × (Nat → Int32) × Int32 × (Nat → Int32)}
def rmX6_firstCome : Room := { frames := 6, cells := 0, slots := 0, locals := 137 }
abbrev zwX6_firstCome : List Cond := Cond.code yX6_firstCome cX6_firstCome 8 (some .int) :: wsAll
set_option maxHeartbeats 4000000 in
set_option maxRecDepth 100000 in
theorem w_X6_firstCome_151 {n : Nat} (E : zE p s m args meth c cX6_firstCome 8 (some .int) zwX6_firstCome RX6) : ∀ (fu : Nat), ∀ (x5 : Int32) (x6 : Int32) (v_a : Nat → Int32) (v_thrown : Int32) (v_found : Nat → Int32), f_X6_firstCome_151 n fu x5 x6 v_a v_thrown v_found = some res → ∀ (H : Heap) (locs : List Loc) (ls : Array Slot), zW D (zT cI cZ cM) A s [(a_this, .inr (6, [.ref a_a, .ref a_fresh, .ref a_kept, .int v_keptMany, .int v_thrown, .ref a_buffer, .int v_buffered, .int v_size, .int v_at, .int v_behind, .int v_kind, .int v_wrong, .int v_wrongAt, .int v_errorAt, .long v_number, .ref a_best, .ref a_rentBy, .ref a_bareBy, .ref a_aheadBy, .ref a_isEdge, .ref a_tried, .ref a_stands, .ref a_found, .ref a_foundOn, .ref a_moving, .int v_movingMany, .int v_foundIncome, .int v_foundMoves])), (a_a, .inl (cI, 180, .inl v_a)), (a_found, .inl (cI, 8, .inl v_found))] H locs → lv_has ls 8 [(0, .ref a_this), (5, .int x5), (6, .int x6)] → W p l e rmX6_firstCome s m args below meth c H locs 0 0 (MQ below (zQi D (zT cI cZ cM) res.1 [(a_this, .inr (6, [.ref a_a, .ref a_fresh, .ref a_kept, .int v_keptMany, .int res.2.2.1, .ref a_buffer, .int v_buffered, .int v_size, .int v_at, .int v_behind, .int v_kind, .int v_wrong, .int v_wrongAt, .int v_errorAt, .long v_number, .ref a_best, .ref a_rentBy, .ref a_bareBy, .ref a_aheadBy, .ref a_isEdge, .ref a_tried, .ref a_stands, .ref a_found, .ref a_foundOn, .ref a_moving, .int v_movingMany, .int v_foundIncome, .int v_foundMoves])), (a_a, .inl (cI, 180, .inl res.2.1)), (a_found, .inl (cI, 8, .inl res.2.2.2))] A) args s 0 0 A) (F0 m 151 ls []) := by
  obtain ⟨⟨hx, hb, hml, hown, hts⟩, hr, hlocks⟩ := id E
  intro fu
  induction fu with
  | zero => intro x5 x6 v_a v_thrown v_found hf; rw [f_X6_firstCome_151.eq_1] at hf; cases hf
  | succ fu ih =>
    intro x5 x6 v_a v_thrown v_found hf H locs ls hw hl
    rw [f_X6_firstCome_151.eq_2] at hf
    refine lv_iload hx hb dX6_firstCome_151 (lv_at hl 2 rfl) ?_
    refine lv_bipush (v := 8) hx hb dX6_firstCome_153 (by decide) ?_
    refine lv_icmp_ge (tgt := 181) hx hb dX6_firstCome_155 (by decide) (fun hc => ?_) (fun hc => ?_)
    · have hf := oI_pos hc hf
      refine lv_iload hx hb dX6_firstCome_181 (lv_at hl 1 rfl) ?_
      cases hf
      exact z_iret E rfl hw dX6_firstCome_183
    · have hf := oI_neg hc hf
      refine lv_aload_n hx hb dX6_firstCome_158 rfl (lv_at hl 0 rfl) ?_
      refine z_get E.1 hw in_wsX60 0 rfl rfl 0 (z_lt rfl) mw_593 (v := .ref a_a) rfl dX6_firstCome_159 ?_
      refine lv_bipush (v := 107) hx hb dX6_firstCome_162 (by decide) ?_
      refine lv_iload hx hb dX6_firstCome_164 (lv_at hl 2 rfl) ?_
      refine lv_iadd hx hb dX6_firstCome_166 ?_
      refine lv_aload_n hx hb dX6_firstCome_167 rfl (lv_at hl 0 rfl) ?_
      refine z_get E.1 hw in_wsX60 0 rfl rfl 22 (z_lt rfl) mw_707 (v := .ref a_found) rfl dX6_firstCome_168 ?_
      refine lv_iload hx hb dX6_firstCome_171 (lv_at hl 2 rfl) ?_
      obtain ⟨h_1, hf⟩ := oA_elim hf
      refine z_iald E.1 hw 2 0 rfl rfl h_1 dX6_firstCome_173 ?_
      obtain ⟨h_2, hf⟩ := oA_elim hf
      obtain ⟨v_3, e_v_3, hf⟩ := oL_elim hf
      refine z_iast (ws' := [(a_this, .inr (6, [.ref a_a, .ref a_fresh, .ref a_kept, .int v_keptMany, .int v_thrown, .ref a_buffer, .int v_buffered, .int v_size, .int v_at, .int v_behind, .int v_kind, .int v_wrong, .int v_wrongAt, .int v_errorAt, .long v_number, .ref a_best, .ref a_rentBy, .ref a_bareBy, .ref a_aheadBy, .ref a_isEdge, .ref a_tried, .ref a_stands, .ref a_found, .ref a_foundOn, .ref a_moving, .int v_movingMany, .int v_foundIncome, .int v_foundMoves])), (a_a, .inl (cI, 180, .inl v_3)), (a_found, .inl (cI, 8, .inl v_found))]) E.1 hw 1 0 rfl rfl h_2 (by subst e_v_3; rfl) dX6_firstCome_174 (fun H locs hw => ?_)
      refine lv_iinc (v := (x6 + (1 : Int32))) (lv' := [(6, .int (x6 + (1 : Int32))), (0, .ref a_this), (5, .int x5)]) hx hb dX6_firstCome_175 hl (k := 2) rfl rfl (z_lt rfl) rfl (fun ls hl => ?_)
      refine lv_goto (tgt := 151) hx hb dX6_firstCome_178 (by decide) ?_
      exact ih _ _ _ _ _ hf _ _ _ hw (lv_sub hl [1, 2, 0] rfl)
set_option maxHeartbeats 4000000 in
set_option maxRecDepth 100000 in
theorem w_X6_firstCome_142 {n : Nat} (E : zE p s m args meth c cX6_firstCome 8 (some .int) zwX6_firstCome RX6) : ∀ (v_a : Nat → Int32) (v_thrown : Int32) (v_found : Nat → Int32), f_X6_firstCome_142 n v_a v_thrown v_found = some res → ∀ (H : Heap) (locs : List Loc) (ls : Array Slot), zW D (zT cI cZ cM) A s [(a_this, .inr (6, [.ref a_a, .ref a_fresh, .ref a_kept, .int v_keptMany, .int v_thrown, .ref a_buffer, .int v_buffered, .int v_size, .int v_at, .int v_behind, .int v_kind, .int v_wrong, .int v_wrongAt, .int v_errorAt, .long v_number, .ref a_best, .ref a_rentBy, .ref a_bareBy, .ref a_aheadBy, .ref a_isEdge, .ref a_tried, .ref a_stands, .ref a_found, .ref a_foundOn, .ref a_moving, .int v_movingMany, .int v_foundIncome, .int v_foundMoves])), (a_a, .inl (cI, 180, .inl v_a)), (a_found, .inl (cI, 8, .inl v_found))] H locs → lv_has ls 8 [(0, .ref a_this)] → W p l e rmX6_firstCome s m args below meth c H locs 0 0 (MQ below (zQi D (zT cI cZ cM) res.1 [(a_this, .inr (6, [.ref a_a, .ref a_fresh, .ref a_kept, .int v_keptMany, .int res.2.2.1, .ref a_buffer, .int v_buffered, .int v_size, .int v_at, .int v_behind, .int v_kind, .int v_wrong, .int v_wrongAt, .int v_errorAt, .long v_number, .ref a_best, .ref a_rentBy, .ref a_bareBy, .ref a_aheadBy, .ref a_isEdge, .ref a_tried, .ref a_stands, .ref a_found, .ref a_foundOn, .ref a_moving, .int v_movingMany, .int v_foundIncome, .int v_foundMoves])), (a_a, .inl (cI, 180, .inl res.2.1)), (a_found, .inl (cI, 8, .inl res.2.2.2))] A) args s 0 0 A) (F0 m 142 ls []) := by
  obtain ⟨⟨hx, hb, hml, hown, hts⟩, hr, hlocks⟩ := id E
  intro v_a v_thrown v_found hf H locs ls hw hl
  unfold f_X6_firstCome_142 at hf
  refine lv_aload_n hx hb dX6_firstCome_142 rfl (lv_at hl 0 rfl) ?_
  obtain ⟨r_4, h_5, hf⟩ := oB_elim hf
  refine z_callVi (ws' := [(a_this, .inr (6, [.ref a_a, .ref a_fresh, .ref a_kept, .int v_keptMany, .int v_thrown, .ref a_buffer, .int v_buffered, .int v_size, .int v_at, .int v_behind, .int v_kind, .int v_wrong, .int v_wrongAt, .int v_errorAt, .long v_number, .ref a_best, .ref a_rentBy, .ref a_bareBy, .ref a_aheadBy, .ref a_isEdge, .ref a_tried, .ref a_stands, .ref a_found, .ref a_foundOn, .ref a_moving, .int v_movingMany, .int v_foundIncome, .int v_foundMoves])), (a_a, .inl (cI, 180, .inl v_a)), (a_found, .inl (cI, 8, .inl v_found))]) (wr := [(a_found, .inl (cI, 8, .inl v_found))]) (As := []) (rest := []) E.1 hl hw (c_X6_incomeNow h_5) (cwV 0 hts (z_gV mw_791 mw_792 mw_793 mw_597 mw_794) rfl rfl rfl (by decide +kernel) ⟨(Nat.le_of_ble_eq_true rfl), (Nat.le_of_ble_eq_true rfl)⟩) 3 [(0, 2)] [(2, 1)] rfl rfl rfl rfl rfl rfl (by decide +kernel) rfl (q0 := 0) rfl rfl rfl (Nat.le_of_ble_eq_true rfl) dX6_firstCome_143 ⟨Nat.le_of_ble_eq_true rfl, Nat.le_of_ble_eq_true rfl⟩ (fun H locs hw => ?_)
  refine lv_istore (lv' := [(5, .int r_4), (0, .ref a_this)]) hx hb dX6_firstCome_146 hl (z_lt rfl) rfl (fun ls hl => ?_)
  refine lv_iconst (v := 0) hx hb dX6_firstCome_148 (by decide) ?_
  refine lv_istore (lv' := [(6, .int (0 : Int32)), (5, .int r_4), (0, .ref a_this)]) hx hb dX6_firstCome_149 hl (z_lt rfl) rfl (fun ls hl => ?_)
  exact w_X6_firstCome_151 E  n _ _ _ _ _ hf _ _ _ hw (lv_sub hl [2, 1, 0] rfl)
set_option maxHeartbeats 4000000 in
set_option maxRecDepth 100000 in
theorem w_X6_firstCome_89 {n : Nat} (E : zE p s m args meth c cX6_firstCome 8 (some .int) zwX6_firstCome RX6) : ∀ (fu : Nat), ∀ (x1 : Int64) (x5 : Int64) (v_a : Nat → Int32) (v_thrown : Int32) (v_found : Nat → Int32), f_X6_firstCome_89 n fu x1 x5 v_a v_thrown v_found = some res → ∀ (H : Heap) (locs : List Loc) (ls : Array Slot), zW D (zT cI cZ cM) A s [(a_this, .inr (6, [.ref a_a, .ref a_fresh, .ref a_kept, .int v_keptMany, .int v_thrown, .ref a_buffer, .int v_buffered, .int v_size, .int v_at, .int v_behind, .int v_kind, .int v_wrong, .int v_wrongAt, .int v_errorAt, .long v_number, .ref a_best, .ref a_rentBy, .ref a_bareBy, .ref a_aheadBy, .ref a_isEdge, .ref a_tried, .ref a_stands, .ref a_found, .ref a_foundOn, .ref a_moving, .int v_movingMany, .int v_foundIncome, .int v_foundMoves])), (a_a, .inl (cI, 180, .inl v_a)), (a_found, .inl (cI, 8, .inl v_found))] H locs → lv_has ls 8 [(0, .ref a_this), (1, .long x1), (5, .long x5)] → W p l e rmX6_firstCome s m args below meth c H locs 0 0 (MQ below (zQi D (zT cI cZ cM) res.1 [(a_this, .inr (6, [.ref a_a, .ref a_fresh, .ref a_kept, .int v_keptMany, .int res.2.2.1, .ref a_buffer, .int v_buffered, .int v_size, .int v_at, .int v_behind, .int v_kind, .int v_wrong, .int v_wrongAt, .int v_errorAt, .long v_number, .ref a_best, .ref a_rentBy, .ref a_bareBy, .ref a_aheadBy, .ref a_isEdge, .ref a_tried, .ref a_stands, .ref a_found, .ref a_foundOn, .ref a_moving, .int v_movingMany, .int v_foundIncome, .int v_foundMoves])), (a_a, .inl (cI, 180, .inl res.2.1)), (a_found, .inl (cI, 8, .inl res.2.2.2))] A) args s 0 0 A) (F0 m 89 ls []) := by
  obtain ⟨⟨hx, hb, hml, hown, hts⟩, hr, hlocks⟩ := id E
  intro fu
  induction fu with
  | zero => intro x1 x5 v_a v_thrown v_found hf; rw [f_X6_firstCome_89.eq_1] at hf; cases hf
  | succ fu ih =>
    intro x1 x5 v_a v_thrown v_found hf H locs ls hw hl
    rw [f_X6_firstCome_89.eq_2] at hf
    refine lv_lload hx hb dX6_firstCome_89 (lv_at hl 2 rfl) ?_
    refine lv_lconst (v := 0) hx hb dX6_firstCome_91 (by decide) ?_
    refine W.lcmp hx hb dX6_firstCome_92 ?_
    refine lv_if_le (tgt := 142) hx hb dX6_firstCome_93 (by decide) (fun hc => ?_) (fun hc => ?_)
    · have hf := oI_pos hc hf
      exact w_X6_firstCome_142 E  _ _ _ hf _ _ _ hw (lv_sub hl [0] rfl)
    · have hf := oI_neg hc hf
      refine lv_lload_n hx hb dX6_firstCome_96 rfl (lv_at hl 1 rfl) ?_
      refine lv_lconst (v := 0) hx hb dX6_firstCome_97 (by decide) ?_
      refine W.lcmp hx hb dX6_firstCome_98 ?_
      refine lv_if_le (tgt := 142) hx hb dX6_firstCome_99 (by decide) (fun hc => ?_) (fun hc => ?_)
      · have hf := oI_pos hc hf
        exact w_X6_firstCome_142 E  _ _ _ hf _ _ _ hw (lv_sub hl [0] rfl)
      · have hf := oI_neg hc hf
        refine lv_lload_n hx hb dX6_firstCome_102 rfl (lv_at hl 1 rfl) ?_
        refine lv_lload hx hb dX6_firstCome_103 (lv_at hl 2 rfl) ?_
        obtain ⟨h_6, hf⟩ := oG_elim hf
        refine lv_ldiv hx hb dX6_firstCome_105 h_6 ?_
        refine lv_ldc2 (v := 10) hx hb hown (hts _ mw_740) dX6_firstCome_106 ?_
        refine lv_lrem hx hb dX6_firstCome_109 (by decide) ?_
        refine lv_l2i hx hb dX6_firstCome_110 rfl ?_
        refine lv_iconst (v := 1) hx hb dX6_firstCome_111 (by decide) ?_
        refine lv_isub hx hb dX6_firstCome_112 ?_
        obtain ⟨y_7, e_y_7, hf⟩ := oL_elim hf
        refine z_top e_y_7 ?_
        refine lv_istore (lv' := [(7, .int y_7), (0, .ref a_this), (1, .long x1), (5, .long x5)]) hx hb dX6_firstCome_113 hl (z_lt rfl) rfl (fun ls hl => ?_)
        refine lv_aload_n hx hb dX6_firstCome_115 rfl (lv_at hl 1 rfl) ?_
        refine z_get E.1 hw in_wsX60 0 rfl rfl 0 (z_lt rfl) mw_593 (v := .ref a_a) rfl dX6_firstCome_116 ?_
        refine lv_bipush (v := 107) hx hb dX6_firstCome_119 (by decide) ?_
        refine lv_iload hx hb dX6_firstCome_121 (lv_at hl 0 rfl) ?_
        refine lv_iadd hx hb dX6_firstCome_123 ?_
        refine lv_aload_n hx hb dX6_firstCome_124 rfl (lv_at hl 1 rfl) ?_
        refine lv_iload hx hb dX6_firstCome_125 (lv_at hl 0 rfl) ?_
        obtain ⟨r_8, h_9, hf⟩ := oB_elim hf
        refine z_callVi (ws' := [(a_this, .inr (6, [.ref a_a, .ref a_fresh, .ref a_kept, .int v_keptMany, .int v_thrown, .ref a_buffer, .int v_buffered, .int v_size, .int v_at, .int v_behind, .int v_kind, .int v_wrong, .int v_wrongAt, .int v_errorAt, .long v_number, .ref a_best, .ref a_rentBy, .ref a_bareBy, .ref a_aheadBy, .ref a_isEdge, .ref a_tried, .ref a_stands, .ref a_found, .ref a_foundOn, .ref a_moving, .int v_movingMany, .int v_foundIncome, .int v_foundMoves])), (a_a, .inl (cI, 180, .inl v_a)), (a_found, .inl (cI, 8, .inl v_found))]) (wr := [(a_found, .inl (cI, 8, .inl v_found))]) (As := [.int y_7]) (rest := [.int ((107 : Int32) + y_7), .ref a_a]) E.1 hl hw (c_X6_takesStart h_9) (cwV 1 hts (z_gV mw_776 mw_777 mw_778 mw_597 mw_779) rfl rfl rfl (by decide +kernel) ⟨(Nat.le_of_ble_eq_true rfl), (Nat.le_of_ble_eq_true rfl)⟩) 3 [(0, 2)] [(2, 1)] rfl rfl rfl rfl rfl rfl (by decide +kernel) rfl (q0 := 0) rfl rfl rfl (Nat.le_of_ble_eq_true rfl) dX6_firstCome_127 ⟨Nat.le_of_ble_eq_true rfl, Nat.le_of_ble_eq_true rfl⟩ (fun H locs hw => ?_)
        obtain ⟨h_10, hf⟩ := oA_elim hf
        obtain ⟨v_11, e_v_11, hf⟩ := oL_elim hf
        refine z_iast (ws' := [(a_this, .inr (6, [.ref a_a, .ref a_fresh, .ref a_kept, .int v_keptMany, .int v_thrown, .ref a_buffer, .int v_buffered, .int v_size, .int v_at, .int v_behind, .int v_kind, .int v_wrong, .int v_wrongAt, .int v_errorAt, .long v_number, .ref a_best, .ref a_rentBy, .ref a_bareBy, .ref a_aheadBy, .ref a_isEdge, .ref a_tried, .ref a_stands, .ref a_found, .ref a_foundOn, .ref a_moving, .int v_movingMany, .int v_foundIncome, .int v_foundMoves])), (a_a, .inl (cI, 180, .inl v_11)), (a_found, .inl (cI, 8, .inl v_found))]) E.1 hw 1 0 rfl rfl h_10 (by subst e_v_11; rfl) dX6_firstCome_130 (fun H locs hw => ?_)
        refine lv_lload hx hb dX6_firstCome_131 (lv_at hl 3 rfl) ?_
        refine lv_ldc2 (v := 10) hx hb hown (hts _ mw_740) dX6_firstCome_133 ?_
        refine lv_ldiv hx hb dX6_firstCome_136 (by decide) ?_
        obtain ⟨y_12, e_y_12, hf⟩ := oL_elim hf
        refine z_topl e_y_12 ?_
        refine lv_lstore (lv' := [(5, .long y_12), (7, .int y_7), (0, .ref a_this), (1, .long x1)]) hx hb dX6_firstCome_137 hl (z_lt rfl) rfl (fun ls hl => ?_)
        refine lv_goto (tgt := 89) hx hb dX6_firstCome_139 (by decide) ?_
        exact ih _ _ _ _ _ hf _ _ _ hw (lv_sub hl [2, 3, 0] rfl)
set_option maxHeartbeats 4000000 in
set_option maxRecDepth 100000 in
theorem w_X6_firstCome_67 {n : Nat} (E : zE p s m args meth c cX6_firstCome 8 (some .int) zwX6_firstCome RX6) : ∀ (fu : Nat), ∀ (x1 : Int64) (x3 : Int64) (v_a : Nat → Int32) (v_thrown : Int32) (v_found : Nat → Int32), f_X6_firstCome_67 n fu x1 x3 v_a v_thrown v_found = some res → ∀ (H : Heap) (locs : List Loc) (ls : Array Slot), zW D (zT cI cZ cM) A s [(a_this, .inr (6, [.ref a_a, .ref a_fresh, .ref a_kept, .int v_keptMany, .int v_thrown, .ref a_buffer, .int v_buffered, .int v_size, .int v_at, .int v_behind, .int v_kind, .int v_wrong, .int v_wrongAt, .int v_errorAt, .long v_number, .ref a_best, .ref a_rentBy, .ref a_bareBy, .ref a_aheadBy, .ref a_isEdge, .ref a_tried, .ref a_stands, .ref a_found, .ref a_foundOn, .ref a_moving, .int v_movingMany, .int v_foundIncome, .int v_foundMoves])), (a_a, .inl (cI, 180, .inl v_a)), (a_found, .inl (cI, 8, .inl v_found))] H locs → lv_has ls 8 [(0, .ref a_this), (1, .long x1), (3, .long x3)] → W p l e rmX6_firstCome s m args below meth c H locs 0 0 (MQ below (zQi D (zT cI cZ cM) res.1 [(a_this, .inr (6, [.ref a_a, .ref a_fresh, .ref a_kept, .int v_keptMany, .int res.2.2.1, .ref a_buffer, .int v_buffered, .int v_size, .int v_at, .int v_behind, .int v_kind, .int v_wrong, .int v_wrongAt, .int v_errorAt, .long v_number, .ref a_best, .ref a_rentBy, .ref a_bareBy, .ref a_aheadBy, .ref a_isEdge, .ref a_tried, .ref a_stands, .ref a_found, .ref a_foundOn, .ref a_moving, .int v_movingMany, .int v_foundIncome, .int v_foundMoves])), (a_a, .inl (cI, 180, .inl res.2.1)), (a_found, .inl (cI, 8, .inl res.2.2.2))] A) args s 0 0 A) (F0 m 67 ls []) := by
  obtain ⟨⟨hx, hb, hml, hown, hts⟩, hr, hlocks⟩ := id E
  intro fu
  induction fu with
  | zero => intro x1 x3 v_a v_thrown v_found hf; rw [f_X6_firstCome_67.eq_1] at hf; cases hf
  | succ fu ih =>
    intro x1 x3 v_a v_thrown v_found hf H locs ls hw hl
    rw [f_X6_firstCome_67.eq_2] at hf
    refine lv_lload_n hx hb dX6_firstCome_67 rfl (lv_at hl 2 rfl) ?_
    refine lv_lload_n hx hb dX6_firstCome_68 rfl (lv_at hl 1 rfl) ?_
    refine lv_ldc2 (v := 10) hx hb hown (hts _ mw_740) dX6_firstCome_69 ?_
    refine lv_ldiv hx hb dX6_firstCome_72 (by decide) ?_
    refine W.lcmp hx hb dX6_firstCome_73 ?_
    refine lv_if_gt (tgt := 86) hx hb dX6_firstCome_74 (by decide) (fun hc => ?_) (fun hc => ?_)
    · have hf := oI_pos hc hf
      refine lv_lload_n hx hb dX6_firstCome_86 rfl (lv_at hl 2 rfl) ?_
      refine lv_lstore (lv' := [(5, .long x3), (0, .ref a_this), (1, .long x1), (3, .long x3)]) hx hb dX6_firstCome_87 hl (z_lt rfl) rfl (fun ls hl => ?_)
      exact w_X6_firstCome_89 E  n _ _ _ _ _ hf _ _ _ hw (lv_sub hl [1, 2, 0] rfl)
    · have hf := oI_neg hc hf
      refine lv_ldc2 (v := 10) hx hb hown (hts _ mw_740) dX6_firstCome_77 ?_
      refine lv_lload_n hx hb dX6_firstCome_80 rfl (lv_at hl 2 rfl) ?_
      refine lv_lmul hx hb dX6_firstCome_81 ?_
      obtain ⟨y_13, e_y_13, hf⟩ := oL_elim hf
      refine z_topl e_y_13 ?_
      refine lv_lstore_n (lv' := [(3, .long y_13), (0, .ref a_this), (1, .long x1)]) hx hb dX6_firstCome_82 rfl hl (z_lt rfl) rfl (fun ls hl => ?_)
      refine lv_goto (tgt := 67) hx hb dX6_firstCome_83 (by decide) ?_
      exact ih _ _ _ _ _ hf _ _ _ hw (lv_sub hl [1, 2, 0] rfl)
set_option maxHeartbeats 4000000 in
set_option maxRecDepth 100000 in
theorem w_X6_firstCome_28 {n : Nat} (E : zE p s m args meth c cX6_firstCome 8 (some .int) zwX6_firstCome RX6) : ∀ (fu : Nat), ∀ (x1 : Int64) (x3 : Int32) (v_a : Nat → Int32) (v_thrown : Int32) (v_found : Nat → Int32), f_X6_firstCome_28 n fu x1 x3 v_a v_thrown v_found = some res → ∀ (H : Heap) (locs : List Loc) (ls : Array Slot), zW D (zT cI cZ cM) A s [(a_this, .inr (6, [.ref a_a, .ref a_fresh, .ref a_kept, .int v_keptMany, .int v_thrown, .ref a_buffer, .int v_buffered, .int v_size, .int v_at, .int v_behind, .int v_kind, .int v_wrong, .int v_wrongAt, .int v_errorAt, .long v_number, .ref a_best, .ref a_rentBy, .ref a_bareBy, .ref a_aheadBy, .ref a_isEdge, .ref a_tried, .ref a_stands, .ref a_found, .ref a_foundOn, .ref a_moving, .int v_movingMany, .int v_foundIncome, .int v_foundMoves])), (a_a, .inl (cI, 180, .inl v_a)), (a_found, .inl (cI, 8, .inl v_found))] H locs → lv_has ls 8 [(0, .ref a_this), (1, .long x1), (3, .int x3)] → W p l e rmX6_firstCome s m args below meth c H locs 0 0 (MQ below (zQi D (zT cI cZ cM) res.1 [(a_this, .inr (6, [.ref a_a, .ref a_fresh, .ref a_kept, .int v_keptMany, .int res.2.2.1, .ref a_buffer, .int v_buffered, .int v_size, .int v_at, .int v_behind, .int v_kind, .int v_wrong, .int v_wrongAt, .int v_errorAt, .long v_number, .ref a_best, .ref a_rentBy, .ref a_bareBy, .ref a_aheadBy, .ref a_isEdge, .ref a_tried, .ref a_stands, .ref a_found, .ref a_foundOn, .ref a_moving, .int v_movingMany, .int v_foundIncome, .int v_foundMoves])), (a_a, .inl (cI, 180, .inl res.2.1)), (a_found, .inl (cI, 8, .inl res.2.2.2))] A) args s 0 0 A) (F0 m 28 ls []) := by
  obtain ⟨⟨hx, hb, hml, hown, hts⟩, hr, hlocks⟩ := id E
  intro fu
  induction fu with
  | zero => intro x1 x3 v_a v_thrown v_found hf; rw [f_X6_firstCome_28.eq_1] at hf; cases hf
  | succ fu ih =>
    intro x1 x3 v_a v_thrown v_found hf H locs ls hw hl
    rw [f_X6_firstCome_28.eq_2] at hf
    refine lv_iload_n hx hb dX6_firstCome_28 rfl (lv_at hl 2 rfl) ?_
    refine lv_bipush (v := 8) hx hb dX6_firstCome_29 (by decide) ?_
    refine lv_icmp_ge (tgt := 65) hx hb dX6_firstCome_31 (by decide) (fun hc => ?_) (fun hc => ?_)
    · have hf := oI_pos hc hf
      refine lv_lconst (v := 1) hx hb dX6_firstCome_65 (by decide) ?_
      refine lv_lstore_n (lv' := [(3, .long (1 : Int64)), (0, .ref a_this), (1, .long x1)]) hx hb dX6_firstCome_66 rfl hl (z_lt rfl) rfl (fun ls hl => ?_)
      exact w_X6_firstCome_67 E  n _ _ _ _ _ hf _ _ _ hw (lv_sub hl [1, 2, 0] rfl)
    · have hf := oI_neg hc hf
      refine lv_aload_n hx hb dX6_firstCome_34 rfl (lv_at hl 0 rfl) ?_
      refine z_get E.1 hw in_wsX60 0 rfl rfl 22 (z_lt rfl) mw_707 (v := .ref a_found) rfl dX6_firstCome_35 ?_
      refine lv_iload_n hx hb dX6_firstCome_38 rfl (lv_at hl 2 rfl) ?_
      refine lv_aload_n hx hb dX6_firstCome_39 rfl (lv_at hl 0 rfl) ?_
      refine z_get E.1 hw in_wsX60 0 rfl rfl 0 (z_lt rfl) mw_593 (v := .ref a_a) rfl dX6_firstCome_40 ?_
      refine lv_bipush (v := 107) hx hb dX6_firstCome_43 (by decide) ?_
      refine lv_iload_n hx hb dX6_firstCome_45 rfl (lv_at hl 2 rfl) ?_
      refine lv_iadd hx hb dX6_firstCome_46 ?_
      obtain ⟨h_14, hf⟩ := oA_elim hf
      refine z_iald E.1 hw 1 0 rfl rfl h_14 dX6_firstCome_47 ?_
      obtain ⟨h_15, hf⟩ := oA_elim hf
      obtain ⟨v_16, e_v_16, hf⟩ := oL_elim hf
      refine z_iast (ws' := [(a_this, .inr (6, [.ref a_a, .ref a_fresh, .ref a_kept, .int v_keptMany, .int v_thrown, .ref a_buffer, .int v_buffered, .int v_size, .int v_at, .int v_behind, .int v_kind, .int v_wrong, .int v_wrongAt, .int v_errorAt, .long v_number, .ref a_best, .ref a_rentBy, .ref a_bareBy, .ref a_aheadBy, .ref a_isEdge, .ref a_tried, .ref a_stands, .ref a_found, .ref a_foundOn, .ref a_moving, .int v_movingMany, .int v_foundIncome, .int v_foundMoves])), (a_a, .inl (cI, 180, .inl v_a)), (a_found, .inl (cI, 8, .inl v_16))]) E.1 hw 2 0 rfl rfl h_15 (by subst e_v_16; rfl) dX6_firstCome_48 (fun H locs hw => ?_)
      refine lv_aload_n hx hb dX6_firstCome_49 rfl (lv_at hl 0 rfl) ?_
      refine z_get E.1 hw in_wsX60 0 rfl rfl 0 (z_lt rfl) mw_593 (v := .ref a_a) rfl dX6_firstCome_50 ?_
      refine lv_bipush (v := 107) hx hb dX6_firstCome_53 (by decide) ?_
      refine lv_iload_n hx hb dX6_firstCome_55 rfl (lv_at hl 2 rfl) ?_
      refine lv_iadd hx hb dX6_firstCome_56 ?_
      refine lv_iconst (v := -1) hx hb dX6_firstCome_57 (by decide) ?_
      obtain ⟨h_17, hf⟩ := oA_elim hf
      obtain ⟨v_18, e_v_18, hf⟩ := oL_elim hf
      refine z_iast (ws' := [(a_this, .inr (6, [.ref a_a, .ref a_fresh, .ref a_kept, .int v_keptMany, .int v_thrown, .ref a_buffer, .int v_buffered, .int v_size, .int v_at, .int v_behind, .int v_kind, .int v_wrong, .int v_wrongAt, .int v_errorAt, .long v_number, .ref a_best, .ref a_rentBy, .ref a_bareBy, .ref a_aheadBy, .ref a_isEdge, .ref a_tried, .ref a_stands, .ref a_found, .ref a_foundOn, .ref a_moving, .int v_movingMany, .int v_foundIncome, .int v_foundMoves])), (a_a, .inl (cI, 180, .inl v_18)), (a_found, .inl (cI, 8, .inl v_16))]) E.1 hw 1 0 rfl rfl h_17 (by subst e_v_18; rfl) dX6_firstCome_58 (fun H locs hw => ?_)
      refine lv_iinc (v := (x3 + (1 : Int32))) (lv' := [(3, .int (x3 + (1 : Int32))), (0, .ref a_this), (1, .long x1)]) hx hb dX6_firstCome_59 hl (k := 2) rfl rfl (z_lt rfl) rfl (fun ls hl => ?_)
      refine lv_goto (tgt := 28) hx hb dX6_firstCome_62 (by decide) ?_
      exact ih _ _ _ _ _ hf _ _ _ hw (lv_sub hl [1, 2, 0] rfl)
set_option maxHeartbeats 4000000 in
set_option maxRecDepth 100000 in
theorem w_X6_firstCome_14 {n : Nat} (E : zE p s m args meth c cX6_firstCome 8 (some .int) zwX6_firstCome RX6) : ∀ (t1 : Int32) (x1 : Int64) (v_a : Nat → Int32) (v_thrown : Int32) (v_found : Nat → Int32), f_X6_firstCome_14 n t1 x1 v_a v_thrown v_found = some res → ∀ (H : Heap) (locs : List Loc) (ls : Array Slot), zW D (zT cI cZ cM) A s [(a_this, .inr (6, [.ref a_a, .ref a_fresh, .ref a_kept, .int v_keptMany, .int v_thrown, .ref a_buffer, .int v_buffered, .int v_size, .int v_at, .int v_behind, .int v_kind, .int v_wrong, .int v_wrongAt, .int v_errorAt, .long v_number, .ref a_best, .ref a_rentBy, .ref a_bareBy, .ref a_aheadBy, .ref a_isEdge, .ref a_tried, .ref a_stands, .ref a_found, .ref a_foundOn, .ref a_moving, .int v_movingMany, .int v_foundIncome, .int v_foundMoves])), (a_a, .inl (cI, 180, .inl v_a)), (a_found, .inl (cI, 8, .inl v_found))] H locs → lv_has ls 8 [(0, .ref a_this), (1, .long x1)] → W p l e rmX6_firstCome s m args below meth c H locs 0 0 (MQ below (zQi D (zT cI cZ cM) res.1 [(a_this, .inr (6, [.ref a_a, .ref a_fresh, .ref a_kept, .int v_keptMany, .int res.2.2.1, .ref a_buffer, .int v_buffered, .int v_size, .int v_at, .int v_behind, .int v_kind, .int v_wrong, .int v_wrongAt, .int v_errorAt, .long v_number, .ref a_best, .ref a_rentBy, .ref a_bareBy, .ref a_aheadBy, .ref a_isEdge, .ref a_tried, .ref a_stands, .ref a_found, .ref a_foundOn, .ref a_moving, .int v_movingMany, .int v_foundIncome, .int v_foundMoves])), (a_a, .inl (cI, 180, .inl res.2.1)), (a_found, .inl (cI, 8, .inl res.2.2.2))] A) args s 0 0 A) (F0 m 14 ls [.int t1, .ref a_this]) := by
  obtain ⟨⟨hx, hb, hml, hown, hts⟩, hr, hlocks⟩ := id E
  intro t1 x1 v_a v_thrown v_found hf H locs ls hw hl
  unfold f_X6_firstCome_14 at hf
  refine z_put (ws' := [(a_this, .inr (6, [.ref a_a, .ref a_fresh, .ref a_kept, .int v_keptMany, .int t1, .ref a_buffer, .int v_buffered, .int v_size, .int v_at, .int v_behind, .int v_kind, .int v_wrong, .int v_wrongAt, .int v_errorAt, .long v_number, .ref a_best, .ref a_rentBy, .ref a_bareBy, .ref a_aheadBy, .ref a_isEdge, .ref a_tried, .ref a_stands, .ref a_found, .ref a_foundOn, .ref a_moving, .int v_movingMany, .int v_foundIncome, .int v_foundMoves])), (a_a, .inl (cI, 180, .inl v_a)), (a_found, .inl (cI, 8, .inl v_found))]) E.1 hw in_wsX60 tyX6 tyX6_ok nmX6 0 rfl rfl 4 (z_lt rfl) mw_594 rfl rfl rfl (z_lt rfl) rfl dX6_firstCome_14 (fun H locs hw => ?_)
  refine lv_aload_n hx hb dX6_firstCome_17 rfl (lv_at hl 0 rfl) ?_
  refine z_get E.1 hw in_wsX60 0 rfl rfl 4 (z_lt rfl) mw_594 (v := .int t1) rfl dX6_firstCome_18 ?_
  refine lv_if_le (tgt := 26) hx hb dX6_firstCome_21 (by decide) (fun hc => ?_) (fun hc => ?_)
  · have hf := oI_pos hc hf
    refine lv_iconst (v := 0) hx hb dX6_firstCome_26 (by decide) ?_
    refine lv_istore_n (lv' := [(3, .int (0 : Int32)), (0, .ref a_this), (1, .long x1)]) hx hb dX6_firstCome_27 rfl hl (z_lt rfl) rfl (fun ls hl => ?_)
    exact w_X6_firstCome_28 E  n _ _ _ _ _ hf _ _ _ hw (lv_sub hl [1, 2, 0] rfl)
  · have hf := oI_neg hc hf
    refine lv_iconst (v := 0) hx hb dX6_firstCome_24 (by decide) ?_
    cases hf
    exact z_iret E rfl hw dX6_firstCome_25
set_option maxHeartbeats 4000000 in
set_option maxRecDepth 100000 in
theorem c_X6_firstCome {l : Launch} {D : va_G} {cI cZ cM : ClassId} {a_this a_a a_fresh a_kept a_buffer a_best a_rentBy a_bareBy a_aheadBy a_isEdge a_tried a_stands a_found a_foundOn a_moving : Nat} {v_keptMany : Int32} {v_buffered : Int32} {v_size : Int32} {v_at : Int32} {v_behind : Int32} {v_kind : Int32} {v_wrong : Int32} {v_wrongAt : Int32} {v_errorAt : Int32} {v_number : Int64} {v_movingMany : Int32} {v_foundIncome : Int32} {v_foundMoves : Int32} {res : Int32 × (Nat → Int32) × Int32 × (Nat → Int32)} {sz : Nat} {n : Nat} {v_a : Nat → Int32} {v_thrown : Int32} {v_found : Nat → Int32} {x1 : Int64} (hf : f_X6_firstCome n v_a v_thrown v_found x1 = some res) : Met l yX6_firstCome zwX6_firstCome rmX6_firstCome (zPc D (zT cI cZ cM) [.ref a_this, .long x1] [(a_this, .inr (6, [.ref a_a, .ref a_fresh, .ref a_kept, .int v_keptMany, .int v_thrown, .ref a_buffer, .int v_buffered, .int v_size, .int v_at, .int v_behind, .int v_kind, .int v_wrong, .int v_wrongAt, .int v_errorAt, .long v_number, .ref a_best, .ref a_rentBy, .ref a_bareBy, .ref a_aheadBy, .ref a_isEdge, .ref a_tried, .ref a_stands, .ref a_found, .ref a_foundOn, .ref a_moving, .int v_movingMany, .int v_foundIncome, .int v_foundMoves])), (a_a, .inl (cI, 180, .inl v_a)), (a_found, .inl (cI, 8, .inl v_found))] sz) (zQi D (zT cI cZ cM) res.1 [(a_this, .inr (6, [.ref a_a, .ref a_fresh, .ref a_kept, .int v_keptMany, .int res.2.2.1, .ref a_buffer, .int v_buffered, .int v_size, .int v_at, .int v_behind, .int v_kind, .int v_wrong, .int v_wrongAt, .int v_errorAt, .long v_number, .ref a_best, .ref a_rentBy, .ref a_bareBy, .ref a_aheadBy, .ref a_isEdge, .ref a_tried, .ref a_stands, .ref a_found, .ref a_foundOn, .ref a_moving, .int v_movingMany, .int v_foundIncome, .int v_foundMoves])), (a_a, .inl (cI, 180, .inl res.2.1)), (a_found, .inl (cI, 8, .inl res.2.2.2))] (va_A [(a_this, .inr (6, [.ref a_a, .ref a_fresh, .ref a_kept, .int v_keptMany, .int v_thrown, .ref a_buffer, .int v_buffered, .int v_size, .int v_at, .int v_behind, .int v_kind, .int v_wrong, .int v_wrongAt, .int v_errorAt, .long v_number, .ref a_best, .ref a_rentBy, .ref a_bareBy, .ref a_aheadBy, .ref a_isEdge, .ref a_tried, .ref a_stands, .ref a_found, .ref a_foundOn, .ref a_moving, .int v_movingMany, .int v_foundIncome, .int v_foundMoves])), (a_a, .inl (cI, 180, .inl v_a)), (a_found, .inl (cI, 8, .inl v_found))] sz)) 0 0 (va_A [(a_this, .inr (6, [.ref a_a, .ref a_fresh, .ref a_kept, .int v_keptMany, .int v_thrown, .ref a_buffer, .int v_buffered, .int v_size, .int v_at, .int v_behind, .int v_kind, .int v_wrong, .int v_wrongAt, .int v_errorAt, .long v_number, .ref a_best, .ref a_rentBy, .ref a_bareBy, .ref a_aheadBy, .ref a_isEdge, .ref a_tried, .ref a_stands, .ref a_found, .ref a_foundOn, .ref a_moving, .int v_movingMany, .int v_foundIncome, .int v_foundMoves])), (a_a, .inl (cI, 180, .inl v_a)), (a_found, .inl (cI, 8, .inl v_found))] sz) := by
  refine z_met (cc := cX6_firstCome) (maxL := 8) (ret := (some .int)) (by decide) rfl (Nat.le_of_ble_eq_true rfl) ?_
  intro p e s m below meth c ls E hsz hw hl
  obtain ⟨⟨hx, hb, hml, hown, hts⟩, hr, hlocks⟩ := id E
  have hl : lv_has ls 8 [(0, .ref a_this), (1, .long x1)] := hl
  unfold f_X6_firstCome at hf
  refine lv_aload_n hx hb dX6_firstCome_0 rfl (lv_at hl 0 rfl) ?_
  refine lv_aload_n hx hb dX6_firstCome_1 rfl (lv_at hl 0 rfl) ?_
  refine lv_lload_n hx hb dX6_firstCome_2 rfl (lv_at hl 1 rfl) ?_
  obtain ⟨r_19, h_20, hf⟩ := oB_elim hf
  refine z_callVi (ws' := [(a_this, .inr (6, [.ref a_a, .ref a_fresh, .ref a_kept, .int v_keptMany, .int v_thrown, .ref a_buffer, .int v_buffered, .int v_size, .int v_at, .int v_behind, .int v_kind, .int v_wrong, .int v_wrongAt, .int v_errorAt, .long v_number, .ref a_best, .ref a_rentBy, .ref a_bareBy, .ref a_aheadBy, .ref a_isEdge, .ref a_tried, .ref a_stands, .ref a_found, .ref a_foundOn, .ref a_moving, .int v_movingMany, .int v_foundIncome, .int v_foundMoves])), (a_a, .inl (cI, 180, .inl v_a)), (a_found, .inl (cI, 8, .inl v_found))]) (wr := [(a_found, .inl (cI, 8, .inl v_found))]) (As := [.long x1]) (rest := [.ref a_this]) E.1 hl hw (c_X6_isOrder h_20) (cwV 1 hts (z_gV mw_772 mw_773 mw_774 mw_597 mw_775) rfl rfl rfl (by decide +kernel) ⟨(Nat.le_of_ble_eq_true rfl), (Nat.le_of_ble_eq_true rfl)⟩) 3 [(0, 2)] [(2, 1)] rfl rfl rfl rfl rfl rfl (by decide +kernel) rfl (q0 := 0) rfl rfl rfl (Nat.le_of_ble_eq_true rfl) dX6_firstCome_3 ⟨Nat.le_of_ble_eq_true rfl, Nat.le_of_ble_eq_true rfl⟩ (fun H locs hw => ?_)
  refine lv_if_eq (tgt := 13) hx hb dX6_firstCome_6 (by decide) (fun hc => ?_) (fun hc => ?_)
  · have hf := oI_pos hc hf
    refine lv_iconst (v := 1) hx hb dX6_firstCome_13 (by decide) ?_
    exact w_X6_firstCome_14 E  _ _ _ _ _ hf _ _ _ hw (lv_sub hl [0, 1] rfl)
  · have hf := oI_neg hc hf
    refine lv_iconst (v := 0) hx hb dX6_firstCome_9 (by decide) ?_
    refine lv_goto (tgt := 14) hx hb dX6_firstCome_10 (by decide) ?_
    exact w_X6_firstCome_14 E  _ _ _ _ _ hf _ _ _ hw (lv_sub hl [0, 1] rfl)
end
/-! X6_traderValue -/
section
variable {p : Program} {l : Launch} {e : Env} {s : State} {m : MethodId} {args : Array Value} {below : List Frame} {meth : Method} {c : Code} {D : va_G} {A : Nat → Prop} {cI cZ cM : ClassId} {a_this a_a a_fresh a_kept a_buffer a_best a_rentBy a_bareBy a_aheadBy a_isEdge a_tried a_stands a_found a_foundOn a_moving : Nat} {v_keptMany : Int32} {v_buffered : Int32} {v_size : Int32} {v_at : Int32} {v_behind : Int32} {v_kind : Int32} {v_wrong : Int32} {v_wrongAt : Int32} {v_errorAt : Int32} {v_number : Int64} {v_movingMany : Int32} {v_foundIncome : Int32} {v_foundMoves : Int32} {res : Int32 × Int32}
def rmX6_traderValue : Room := { frames := 2, cells := 0, slots := 0, locals := 46 }
abbrev zwX6_traderValue : List Cond := Cond.code yX6_traderValue cX6_traderValue 3 (some .int) :: wsAll
set_option maxHeartbeats 4000000 in
set_option maxRecDepth 100000 in
theorem w_X6_traderValue_14 (E : zE p s m args meth c cX6_traderValue 3 (some .int) zwX6_traderValue RX6) : ∀ (t1 : Int32) (x1 : Int32) (x2 : Int32) (v_a : Nat → Int32) (v_thrown : Int32), f_X6_traderValue_14 t1 x1 x2 v_a v_thrown = some res → ∀ (H : Heap) (locs : List Loc) (ls : Array Slot), zW D (zT cI cZ cM) A s [(a_this, .inr (6, [.ref a_a, .ref a_fresh, .ref a_kept, .int v_keptMany, .int v_thrown, .ref a_buffer, .int v_buffered, .int v_size, .int v_at, .int v_behind, .int v_kind, .int v_wrong, .int v_wrongAt, .int v_errorAt, .long v_number, .ref a_best, .ref a_rentBy, .ref a_bareBy, .ref a_aheadBy, .ref a_isEdge, .ref a_tried, .ref a_stands, .ref a_found, .ref a_foundOn, .ref a_moving, .int v_movingMany, .int v_foundIncome, .int v_foundMoves])), (a_a, .inl (cI, 180, .inl v_a))] H locs → lv_has ls 3 [(0, .ref a_this), (1, .int x1), (2, .int x2)] → W p l e rmX6_traderValue s m args below meth c H locs 0 0 (MQ below (zQi D (zT cI cZ cM) res.1 [(a_this, .inr (6, [.ref a_a, .ref a_fresh, .ref a_kept, .int v_keptMany, .int res.2, .ref a_buffer, .int v_buffered, .int v_size, .int v_at, .int v_behind, .int v_kind, .int v_wrong, .int v_wrongAt, .int v_errorAt, .long v_number, .ref a_best, .ref a_rentBy, .ref a_bareBy, .ref a_aheadBy, .ref a_isEdge, .ref a_tried, .ref a_stands, .ref a_found, .ref a_foundOn, .ref a_moving, .int v_movingMany, .int v_foundIncome, .int v_foundMoves])), (a_a, .inl (cI, 180, .inl v_a))] A) args s 0 0 A) (F0 m 14 ls [.int t1, .ref a_this]) := by
  obtain ⟨⟨hx, hb, hml, hown, hts⟩, hr, hlocks⟩ := id E
  intro t1 x1 x2 v_a v_thrown hf H locs ls hw hl
  unfold f_X6_traderValue_14 at hf
  refine z_put (ws' := [(a_this, .inr (6, [.ref a_a, .ref a_fresh, .ref a_kept, .int v_keptMany, .int t1, .ref a_buffer, .int v_buffered, .int v_size, .int v_at, .int v_behind, .int v_kind, .int v_wrong, .int v_wrongAt, .int v_errorAt, .long v_number, .ref a_best, .ref a_rentBy, .ref a_bareBy, .ref a_aheadBy, .ref a_isEdge, .ref a_tried, .ref a_stands, .ref a_found, .ref a_foundOn, .ref a_moving, .int v_movingMany, .int v_foundIncome, .int v_foundMoves])), (a_a, .inl (cI, 180, .inl v_a))]) E.1 hw in_wsX60 tyX6 tyX6_ok nmX6 0 rfl rfl 4 (z_lt rfl) mw_594 rfl rfl rfl (z_lt rfl) rfl dX6_traderValue_14 (fun H locs hw => ?_)
  refine lv_aload_n hx hb dX6_traderValue_17 rfl (lv_at hl 0 rfl) ?_
  refine z_get E.1 hw in_wsX60 0 rfl rfl 4 (z_lt rfl) mw_594 (v := .int t1) rfl dX6_traderValue_18 ?_
  refine lv_if_le (tgt := 28) hx hb dX6_traderValue_21 (by decide) (fun hc => ?_) (fun hc => ?_)
  · have hf := oI_pos hc hf
    refine lv_aload_n hx hb dX6_traderValue_28 rfl (lv_at hl 0 rfl) ?_
    refine z_get E.1 hw in_wsX60 0 rfl rfl 0 (z_lt rfl) mw_593 (v := .ref a_a) rfl dX6_traderValue_29 ?_
    refine lv_iload_n hx hb dX6_traderValue_32 rfl (lv_at hl 1 rfl) ?_
    refine lv_iload_n hx hb dX6_traderValue_33 rfl (lv_at hl 2 rfl) ?_
    refine lv_iadd hx hb dX6_traderValue_34 ?_
    obtain ⟨h_1, hf⟩ := oA_elim hf
    refine z_iald E.1 hw 1 0 rfl rfl h_1 dX6_traderValue_35 ?_
    cases hf
    exact z_iret E rfl hw dX6_traderValue_36
  · have hf := oI_neg hc hf
    refine lv_iconst (v := 0) hx hb dX6_traderValue_24 (by decide) ?_
    refine lv_goto (tgt := 36) hx hb dX6_traderValue_25 (by decide) ?_
    cases hf
    exact z_iret E rfl hw dX6_traderValue_36
set_option maxHeartbeats 4000000 in
set_option maxRecDepth 100000 in
theorem c_X6_traderValue {l : Launch} {D : va_G} {cI cZ cM : ClassId} {a_this a_a a_fresh a_kept a_buffer a_best a_rentBy a_bareBy a_aheadBy a_isEdge a_tried a_stands a_found a_foundOn a_moving : Nat} {v_keptMany : Int32} {v_buffered : Int32} {v_size : Int32} {v_at : Int32} {v_behind : Int32} {v_kind : Int32} {v_wrong : Int32} {v_wrongAt : Int32} {v_errorAt : Int32} {v_number : Int64} {v_movingMany : Int32} {v_foundIncome : Int32} {v_foundMoves : Int32} {res : Int32 × Int32} {sz : Nat} {v_a : Nat → Int32} {v_thrown : Int32} {x1 : Int32} {x2 : Int32} (hf : f_X6_traderValue v_a v_thrown x1 x2 = some res) : Met l yX6_traderValue zwX6_traderValue rmX6_traderValue (zPc D (zT cI cZ cM) [.ref a_this, .int x1, .int x2] [(a_this, .inr (6, [.ref a_a, .ref a_fresh, .ref a_kept, .int v_keptMany, .int v_thrown, .ref a_buffer, .int v_buffered, .int v_size, .int v_at, .int v_behind, .int v_kind, .int v_wrong, .int v_wrongAt, .int v_errorAt, .long v_number, .ref a_best, .ref a_rentBy, .ref a_bareBy, .ref a_aheadBy, .ref a_isEdge, .ref a_tried, .ref a_stands, .ref a_found, .ref a_foundOn, .ref a_moving, .int v_movingMany, .int v_foundIncome, .int v_foundMoves])), (a_a, .inl (cI, 180, .inl v_a))] sz) (zQi D (zT cI cZ cM) res.1 [(a_this, .inr (6, [.ref a_a, .ref a_fresh, .ref a_kept, .int v_keptMany, .int res.2, .ref a_buffer, .int v_buffered, .int v_size, .int v_at, .int v_behind, .int v_kind, .int v_wrong, .int v_wrongAt, .int v_errorAt, .long v_number, .ref a_best, .ref a_rentBy, .ref a_bareBy, .ref a_aheadBy, .ref a_isEdge, .ref a_tried, .ref a_stands, .ref a_found, .ref a_foundOn, .ref a_moving, .int v_movingMany, .int v_foundIncome, .int v_foundMoves])), (a_a, .inl (cI, 180, .inl v_a))] (va_A [(a_this, .inr (6, [.ref a_a, .ref a_fresh, .ref a_kept, .int v_keptMany, .int v_thrown, .ref a_buffer, .int v_buffered, .int v_size, .int v_at, .int v_behind, .int v_kind, .int v_wrong, .int v_wrongAt, .int v_errorAt, .long v_number, .ref a_best, .ref a_rentBy, .ref a_bareBy, .ref a_aheadBy, .ref a_isEdge, .ref a_tried, .ref a_stands, .ref a_found, .ref a_foundOn, .ref a_moving, .int v_movingMany, .int v_foundIncome, .int v_foundMoves])), (a_a, .inl (cI, 180, .inl v_a))] sz)) 0 0 (va_A [(a_this, .inr (6, [.ref a_a, .ref a_fresh, .ref a_kept, .int v_keptMany, .int v_thrown, .ref a_buffer, .int v_buffered, .int v_size, .int v_at, .int v_behind, .int v_kind, .int v_wrong, .int v_wrongAt, .int v_errorAt, .long v_number, .ref a_best, .ref a_rentBy, .ref a_bareBy, .ref a_aheadBy, .ref a_isEdge, .ref a_tried, .ref a_stands, .ref a_found, .ref a_foundOn, .ref a_moving, .int v_movingMany, .int v_foundIncome, .int v_foundMoves])), (a_a, .inl (cI, 180, .inl v_a))] sz) := by
  refine z_met (cc := cX6_traderValue) (maxL := 3) (ret := (some .int)) (by decide) rfl (Nat.le_of_ble_eq_true rfl) ?_
  intro p e s m below meth c ls E hsz hw hl
  obtain ⟨⟨hx, hb, hml, hown, hts⟩, hr, hlocks⟩ := id E
  have hl : lv_has ls 3 [(0, .ref a_this), (1, .int x1), (2, .int x2)] := hl
  unfold f_X6_traderValue at hf
  refine lv_aload_n hx hb dX6_traderValue_0 rfl (lv_at hl 0 rfl) ?_
  refine lv_aload_n hx hb dX6_traderValue_1 rfl (lv_at hl 0 rfl) ?_
  refine lv_iload_n hx hb dX6_traderValue_2 rfl (lv_at hl 2 rfl) ?_
  obtain ⟨r_2, h_3, hf⟩ := oB_elim hf
  refine z_callVi (ws' := [(a_this, .inr (6, [.ref a_a, .ref a_fresh, .ref a_kept, .int v_keptMany, .int v_thrown, .ref a_buffer, .int v_buffered, .int v_size, .int v_at, .int v_behind, .int v_kind, .int v_wrong, .int v_wrongAt, .int v_errorAt, .long v_number, .ref a_best, .ref a_rentBy, .ref a_bareBy, .ref a_aheadBy, .ref a_isEdge, .ref a_tried, .ref a_stands, .ref a_found, .ref a_foundOn, .ref a_moving, .int v_movingMany, .int v_foundIncome, .int v_foundMoves])), (a_a, .inl (cI, 180, .inl v_a))]) (wr := []) (As := [.int x2]) (rest := [.ref a_this]) E.1 hl hw (c_X6_isTrader h_3) (cwV 1 hts (z_gV mw_714 mw_715 mw_716 mw_597 mw_717) rfl rfl rfl (by decide +kernel) ⟨(Nat.le_of_ble_eq_true rfl), (Nat.le_of_ble_eq_true rfl)⟩) 2 [(0, 2)] [] rfl rfl rfl rfl rfl rfl (by decide +kernel) rfl (q0 := 0) rfl rfl rfl (Nat.le_of_ble_eq_true rfl) dX6_traderValue_3 ⟨Nat.le_of_ble_eq_true rfl, Nat.le_of_ble_eq_true rfl⟩ (fun H locs hw => ?_)
  refine lv_if_eq (tgt := 13) hx hb dX6_traderValue_6 (by decide) (fun hc => ?_) (fun hc => ?_)
  · have hf := oI_pos hc hf
    refine lv_iconst (v := 1) hx hb dX6_traderValue_13 (by decide) ?_
    exact w_X6_traderValue_14 E  _ _ _ _ _ hf _ _ _ hw (lv_sub hl [0, 1, 2] rfl)
  · have hf := oI_neg hc hf
    refine lv_iconst (v := 0) hx hb dX6_traderValue_9 (by decide) ?_
    refine lv_goto (tgt := 14) hx hb dX6_traderValue_10 (by decide) ?_
    exact w_X6_traderValue_14 E  _ _ _ _ _ hf _ _ _ hw (lv_sub hl [0, 1, 2] rfl)
end
/-! X6_frontage -/
section
variable {p : Program} {l : Launch} {e : Env} {s : State} {m : MethodId} {args : Array Value} {below : List Frame} {meth : Method} {c : Code} {D : va_G} {A : Nat → Prop} {cI cZ cM : ClassId} {a_this a_a a_fresh a_kept a_buffer a_best a_rentBy a_bareBy a_aheadBy a_isEdge a_tried a_stands a_found a_foundOn a_moving : Nat} {v_keptMany : Int32} {v_buffered : Int32} {v_size : Int32} {v_at : Int32} {v_behind : Int32} {v_kind : Int32} {v_wrong : Int32} {v_wrongAt : Int32} {v_errorAt : Int32} {v_number : Int64} {v_movingMany : Int32} {v_foundIncome : Int32} {v_foundMoves : Int32} {res : Int32 × Int32}
def rmX6_frontage : Room := { frames := 3, cells := 0, slots := 0, locals := 68 }
abbrev zwX6_frontage : List Cond := Cond.code yX6_frontage cX6_frontage 2 (some .int) :: wsAll
set_option maxHeartbeats 4000000 in
set_option maxRecDepth 100000 in
theorem c_X6_frontage {l : Launch} {D : va_G} {cI cZ cM : ClassId} {a_this a_a a_fresh a_kept a_buffer a_best a_rentBy a_bareBy a_aheadBy a_isEdge a_tried a_stands a_found a_foundOn a_moving : Nat} {v_keptMany : Int32} {v_buffered : Int32} {v_size : Int32} {v_at : Int32} {v_behind : Int32} {v_kind : Int32} {v_wrong : Int32} {v_wrongAt : Int32} {v_errorAt : Int32} {v_number : Int64} {v_movingMany : Int32} {v_foundIncome : Int32} {v_foundMoves : Int32} {res : Int32 × Int32} {sz : Nat} {v_a : Nat → Int32} {v_thrown : Int32} {x1 : Int32} (hf : f_X6_frontage v_a v_thrown x1 = some res) : Met l yX6_frontage zwX6_frontage rmX6_frontage (zPc D (zT cI cZ cM) [.ref a_this, .int x1] [(a_this, .inr (6, [.ref a_a, .ref a_fresh, .ref a_kept, .int v_keptMany, .int v_thrown, .ref a_buffer, .int v_buffered, .int v_size, .int v_at, .int v_behind, .int v_kind, .int v_wrong, .int v_wrongAt, .int v_errorAt, .long v_number, .ref a_best, .ref a_rentBy, .ref a_bareBy, .ref a_aheadBy, .ref a_isEdge, .ref a_tried, .ref a_stands, .ref a_found, .ref a_foundOn, .ref a_moving, .int v_movingMany, .int v_foundIncome, .int v_foundMoves])), (a_a, .inl (cI, 180, .inl v_a))] sz) (zQi D (zT cI cZ cM) res.1 [(a_this, .inr (6, [.ref a_a, .ref a_fresh, .ref a_kept, .int v_keptMany, .int res.2, .ref a_buffer, .int v_buffered, .int v_size, .int v_at, .int v_behind, .int v_kind, .int v_wrong, .int v_wrongAt, .int v_errorAt, .long v_number, .ref a_best, .ref a_rentBy, .ref a_bareBy, .ref a_aheadBy, .ref a_isEdge, .ref a_tried, .ref a_stands, .ref a_found, .ref a_foundOn, .ref a_moving, .int v_movingMany, .int v_foundIncome, .int v_foundMoves])), (a_a, .inl (cI, 180, .inl v_a))] (va_A [(a_this, .inr (6, [.ref a_a, .ref a_fresh, .ref a_kept, .int v_keptMany, .int v_thrown, .ref a_buffer, .int v_buffered, .int v_size, .int v_at, .int v_behind, .int v_kind, .int v_wrong, .int v_wrongAt, .int v_errorAt, .long v_number, .ref a_best, .ref a_rentBy, .ref a_bareBy, .ref a_aheadBy, .ref a_isEdge, .ref a_tried, .ref a_stands, .ref a_found, .ref a_foundOn, .ref a_moving, .int v_movingMany, .int v_foundIncome, .int v_foundMoves])), (a_a, .inl (cI, 180, .inl v_a))] sz)) 0 0 (va_A [(a_this, .inr (6, [.ref a_a, .ref a_fresh, .ref a_kept, .int v_keptMany, .int v_thrown, .ref a_buffer, .int v_buffered, .int v_size, .int v_at, .int v_behind, .int v_kind, .int v_wrong, .int v_wrongAt, .int v_errorAt, .long v_number, .ref a_best, .ref a_rentBy, .ref a_bareBy, .ref a_aheadBy, .ref a_isEdge, .ref a_tried, .ref a_stands, .ref a_found, .ref a_foundOn, .ref a_moving, .int v_movingMany, .int v_foundIncome, .int v_foundMoves])), (a_a, .inl (cI, 180, .inl v_a))] sz) := by
  refine z_met (cc := cX6_frontage) (maxL := 2) (ret := (some .int)) (by decide) rfl (Nat.le_of_ble_eq_true rfl) ?_
  intro p e s m below meth c ls E hsz hw hl
  obtain ⟨⟨hx, hb, hml, hown, hts⟩, hr, hlocks⟩ := id E
  have hl : lv_has ls 2 [(0, .ref a_this), (1, .int x1)] := hl
  unfold f_X6_frontage at hf
  refine lv_aload_n hx hb dX6_frontage_0 rfl (lv_at hl 0 rfl) ?_
  refine lv_bipush (v := 83) hx hb dX6_frontage_1 (by decide) ?_
  refine lv_iload_n hx hb dX6_frontage_3 rfl (lv_at hl 1 rfl) ?_
  obtain ⟨r_1, v_2, h_3, hf⟩ := oB2_elim hf
  refine z_callVi (ws' := [(a_this, .inr (6, [.ref a_a, .ref a_fresh, .ref a_kept, .int v_keptMany, .int v_2, .ref a_buffer, .int v_buffered, .int v_size, .int v_at, .int v_behind, .int v_kind, .int v_wrong, .int v_wrongAt, .int v_errorAt, .long v_number, .ref a_best, .ref a_rentBy, .ref a_bareBy, .ref a_aheadBy, .ref a_isEdge, .ref a_tried, .ref a_stands, .ref a_found, .ref a_foundOn, .ref a_moving, .int v_movingMany, .int v_foundIncome, .int v_foundMoves])), (a_a, .inl (cI, 180, .inl v_a))]) (wr := []) (As := [.int (83 : Int32), .int x1]) (rest := []) E.1 hl hw (c_X6_traderValue h_3) (cwV 2 hts (z_gV mw_796 mw_797 mw_798 mw_597 mw_799) rfl rfl rfl (by decide +kernel) ⟨(Nat.le_of_ble_eq_true rfl), (Nat.le_of_ble_eq_true rfl)⟩) 2 [(0, 2)] [] rfl rfl rfl rfl rfl rfl (by decide +kernel) rfl (q0 := 0) rfl rfl rfl (Nat.le_of_ble_eq_true rfl) dX6_frontage_4 ⟨Nat.le_of_ble_eq_true rfl, Nat.le_of_ble_eq_true rfl⟩ (fun H locs hw => ?_)
  cases hf
  exact z_iret E rfl hw dX6_frontage_7
end
/-! X6_income -/
section
variable {p : Program} {l : Launch} {e : Env} {s : State} {m : MethodId} {args : Array Value} {below : List Frame} {meth : Method} {c : Code} {D : va_G} {A : Nat → Prop} {cI cZ cM : ClassId} {a_this a_a a_fresh a_kept a_buffer a_best a_rentBy a_bareBy a_aheadBy a_isEdge a_tried a_stands a_found a_foundOn a_moving : Nat} {v_keptMany : Int32} {v_buffered : Int32} {v_size : Int32} {v_at : Int32} {v_behind : Int32} {v_kind : Int32} {v_wrong : Int32} {v_wrongAt : Int32} {v_errorAt : Int32} {v_number : Int64} {v_movingMany : Int32} {v_foundIncome : Int32} {v_foundMoves : Int32} {res : Int32 × Int32}
def rmX6_income : Room := { frames := 2, cells := 0, slots := 0, locals := 46 }
abbrev zwX6_income : List Cond := Cond.code yX6_income cX6_income 1 (some .int) :: wsAll
set_option maxHeartbeats 4000000 in
set_option maxRecDepth 100000 in
theorem c_X6_income {l : Launch} {D : va_G} {cI cZ cM : ClassId} {a_this a_a a_fresh a_kept a_buffer a_best a_rentBy a_bareBy a_aheadBy a_isEdge a_tried a_stands a_found a_foundOn a_moving : Nat} {v_keptMany : Int32} {v_buffered : Int32} {v_size : Int32} {v_at : Int32} {v_behind : Int32} {v_kind : Int32} {v_wrong : Int32} {v_wrongAt : Int32} {v_errorAt : Int32} {v_number : Int64} {v_movingMany : Int32} {v_foundIncome : Int32} {v_foundMoves : Int32} {res : Int32 × Int32} {sz : Nat} {n : Nat} {v_a : Nat → Int32} {v_thrown : Int32} (hf : f_X6_income n v_a v_thrown = some res) : Met l yX6_income zwX6_income rmX6_income (zPc D (zT cI cZ cM) [.ref a_this] [(a_this, .inr (6, [.ref a_a, .ref a_fresh, .ref a_kept, .int v_keptMany, .int v_thrown, .ref a_buffer, .int v_buffered, .int v_size, .int v_at, .int v_behind, .int v_kind, .int v_wrong, .int v_wrongAt, .int v_errorAt, .long v_number, .ref a_best, .ref a_rentBy, .ref a_bareBy, .ref a_aheadBy, .ref a_isEdge, .ref a_tried, .ref a_stands, .ref a_found, .ref a_foundOn, .ref a_moving, .int v_movingMany, .int v_foundIncome, .int v_foundMoves])), (a_a, .inl (cI, 180, .inl v_a))] sz) (zQi D (zT cI cZ cM) res.1 [(a_this, .inr (6, [.ref a_a, .ref a_fresh, .ref a_kept, .int v_keptMany, .int res.2, .ref a_buffer, .int v_buffered, .int v_size, .int v_at, .int v_behind, .int v_kind, .int v_wrong, .int v_wrongAt, .int v_errorAt, .long v_number, .ref a_best, .ref a_rentBy, .ref a_bareBy, .ref a_aheadBy, .ref a_isEdge, .ref a_tried, .ref a_stands, .ref a_found, .ref a_foundOn, .ref a_moving, .int v_movingMany, .int v_foundIncome, .int v_foundMoves])), (a_a, .inl (cI, 180, .inl v_a))] (va_A [(a_this, .inr (6, [.ref a_a, .ref a_fresh, .ref a_kept, .int v_keptMany, .int v_thrown, .ref a_buffer, .int v_buffered, .int v_size, .int v_at, .int v_behind, .int v_kind, .int v_wrong, .int v_wrongAt, .int v_errorAt, .long v_number, .ref a_best, .ref a_rentBy, .ref a_bareBy, .ref a_aheadBy, .ref a_isEdge, .ref a_tried, .ref a_stands, .ref a_found, .ref a_foundOn, .ref a_moving, .int v_movingMany, .int v_foundIncome, .int v_foundMoves])), (a_a, .inl (cI, 180, .inl v_a))] sz)) 0 0 (va_A [(a_this, .inr (6, [.ref a_a, .ref a_fresh, .ref a_kept, .int v_keptMany, .int v_thrown, .ref a_buffer, .int v_buffered, .int v_size, .int v_at, .int v_behind, .int v_kind, .int v_wrong, .int v_wrongAt, .int v_errorAt, .long v_number, .ref a_best, .ref a_rentBy, .ref a_bareBy, .ref a_aheadBy, .ref a_isEdge, .ref a_tried, .ref a_stands, .ref a_found, .ref a_foundOn, .ref a_moving, .int v_movingMany, .int v_foundIncome, .int v_foundMoves])), (a_a, .inl (cI, 180, .inl v_a))] sz) := by
  refine z_met (cc := cX6_income) (maxL := 1) (ret := (some .int)) (by decide) rfl (Nat.le_of_ble_eq_true rfl) ?_
  intro p e s m below meth c ls E hsz hw hl
  obtain ⟨⟨hx, hb, hml, hown, hts⟩, hr, hlocks⟩ := id E
  have hl : lv_has ls 1 [(0, .ref a_this)] := hl
  unfold f_X6_income at hf
  refine lv_aload_n hx hb dX6_income_0 rfl (lv_at hl 0 rfl) ?_
  refine lv_iconst (v := 0) hx hb dX6_income_1 (by decide) ?_
  refine z_put (ws' := [(a_this, .inr (6, [.ref a_a, .ref a_fresh, .ref a_kept, .int v_keptMany, .int (0 : Int32), .ref a_buffer, .int v_buffered, .int v_size, .int v_at, .int v_behind, .int v_kind, .int v_wrong, .int v_wrongAt, .int v_errorAt, .long v_number, .ref a_best, .ref a_rentBy, .ref a_bareBy, .ref a_aheadBy, .ref a_isEdge, .ref a_tried, .ref a_stands, .ref a_found, .ref a_foundOn, .ref a_moving, .int v_movingMany, .int v_foundIncome, .int v_foundMoves])), (a_a, .inl (cI, 180, .inl v_a))]) E.1 hw in_wsX60 tyX6 tyX6_ok nmX6 0 rfl rfl 4 (z_lt rfl) mw_594 rfl rfl rfl (z_lt rfl) rfl dX6_income_2 (fun H locs hw => ?_)
  refine lv_aload_n hx hb dX6_income_5 rfl (lv_at hl 0 rfl) ?_
  obtain ⟨r_1, h_2, hf⟩ := oB_elim hf
  refine z_callVi (ws' := [(a_this, .inr (6, [.ref a_a, .ref a_fresh, .ref a_kept, .int v_keptMany, .int (0 : Int32), .ref a_buffer, .int v_buffered, .int v_size, .int v_at, .int v_behind, .int v_kind, .int v_wrong, .int v_wrongAt, .int v_errorAt, .long v_number, .ref a_best, .ref a_rentBy, .ref a_bareBy, .ref a_aheadBy, .ref a_isEdge, .ref a_tried, .ref a_stands, .ref a_found, .ref a_foundOn, .ref a_moving, .int v_movingMany, .int v_foundIncome, .int v_foundMoves])), (a_a, .inl (cI, 180, .inl v_a))]) (wr := []) (As := []) (rest := []) E.1 hl hw (c_X6_incomeNow h_2) (cwV 0 hts (z_gV mw_791 mw_792 mw_793 mw_597 mw_794) rfl rfl rfl (by decide +kernel) ⟨(Nat.le_of_ble_eq_true rfl), (Nat.le_of_ble_eq_true rfl)⟩) 2 [(0, 2)] [] rfl rfl rfl rfl rfl rfl (by decide +kernel) rfl (q0 := 0) rfl rfl rfl (Nat.le_of_ble_eq_true rfl) dX6_income_6 ⟨Nat.le_of_ble_eq_true rfl, Nat.le_of_ble_eq_true rfl⟩ (fun H locs hw => ?_)
  cases hf
  exact z_iret E rfl hw dX6_income_9
end
/-! X6_refusesInsertion -/
section
variable {p : Program} {l : Launch} {e : Env} {s : State} {m : MethodId} {args : Array Value} {below : List Frame} {meth : Method} {c : Code} {D : va_G} {A : Nat → Prop} {cI cZ cM : ClassId} {a_this a_a a_fresh a_kept a_buffer a_best a_rentBy a_bareBy a_aheadBy a_isEdge a_tried a_stands a_found a_foundOn a_moving : Nat} {v_keptMany : Int32} {v_thrown : Int32} {v_buffered : Int32} {v_size : Int32} {v_at : Int32} {v_behind : Int32} {v_kind : Int32} {v_wrong : Int32} {v_wrongAt : Int32} {v_errorAt : Int32} {v_number : Int64} {v_movingMany : Int32} {v_foundIncome : Int32} {v_foundMoves : Int32} {res : Int32}
def rmX6_refusesInsertion : Room := { frames := 2, cells := 0, slots := 0, locals := 46 }
abbrev zwX6_refusesInsertion : List Cond := Cond.code yX6_refusesInsertion cX6_refusesInsertion 3 (some .int) :: wsAll
set_option maxHeartbeats 4000000 in
set_option maxRecDepth 100000 in
theorem c_X6_refusesInsertion {l : Launch} {D : va_G} {cI cZ cM : ClassId} {a_this a_a a_fresh a_kept a_buffer a_best a_rentBy a_bareBy a_aheadBy a_isEdge a_tried a_stands a_found a_foundOn a_moving : Nat} {v_keptMany : Int32} {v_thrown : Int32} {v_buffered : Int32} {v_size : Int32} {v_at : Int32} {v_behind : Int32} {v_kind : Int32} {v_wrong : Int32} {v_wrongAt : Int32} {v_errorAt : Int32} {v_number : Int64} {v_movingMany : Int32} {v_foundIncome : Int32} {v_foundMoves : Int32} {res : Int32} {sz : Nat} {v_a : Nat → Int32} {x1 : Int32} {x2 : Int32} (hf : f_X6_refusesInsertion v_a x1 x2 = some res) : Met l yX6_refusesInsertion zwX6_refusesInsertion rmX6_refusesInsertion (zPc D (zT cI cZ cM) [.ref a_this, .int x1, .int x2] [(a_this, .inr (6, [.ref a_a, .ref a_fresh, .ref a_kept, .int v_keptMany, .int v_thrown, .ref a_buffer, .int v_buffered, .int v_size, .int v_at, .int v_behind, .int v_kind, .int v_wrong, .int v_wrongAt, .int v_errorAt, .long v_number, .ref a_best, .ref a_rentBy, .ref a_bareBy, .ref a_aheadBy, .ref a_isEdge, .ref a_tried, .ref a_stands, .ref a_found, .ref a_foundOn, .ref a_moving, .int v_movingMany, .int v_foundIncome, .int v_foundMoves])), (a_a, .inl (cI, 180, .inl v_a))] sz) (zQi D (zT cI cZ cM) res [(a_this, .inr (6, [.ref a_a, .ref a_fresh, .ref a_kept, .int v_keptMany, .int v_thrown, .ref a_buffer, .int v_buffered, .int v_size, .int v_at, .int v_behind, .int v_kind, .int v_wrong, .int v_wrongAt, .int v_errorAt, .long v_number, .ref a_best, .ref a_rentBy, .ref a_bareBy, .ref a_aheadBy, .ref a_isEdge, .ref a_tried, .ref a_stands, .ref a_found, .ref a_foundOn, .ref a_moving, .int v_movingMany, .int v_foundIncome, .int v_foundMoves])), (a_a, .inl (cI, 180, .inl v_a))] (va_A [(a_this, .inr (6, [.ref a_a, .ref a_fresh, .ref a_kept, .int v_keptMany, .int v_thrown, .ref a_buffer, .int v_buffered, .int v_size, .int v_at, .int v_behind, .int v_kind, .int v_wrong, .int v_wrongAt, .int v_errorAt, .long v_number, .ref a_best, .ref a_rentBy, .ref a_bareBy, .ref a_aheadBy, .ref a_isEdge, .ref a_tried, .ref a_stands, .ref a_found, .ref a_foundOn, .ref a_moving, .int v_movingMany, .int v_foundIncome, .int v_foundMoves])), (a_a, .inl (cI, 180, .inl v_a))] sz)) 0 0 (va_A [(a_this, .inr (6, [.ref a_a, .ref a_fresh, .ref a_kept, .int v_keptMany, .int v_thrown, .ref a_buffer, .int v_buffered, .int v_size, .int v_at, .int v_behind, .int v_kind, .int v_wrong, .int v_wrongAt, .int v_errorAt, .long v_number, .ref a_best, .ref a_rentBy, .ref a_bareBy, .ref a_aheadBy, .ref a_isEdge, .ref a_tried, .ref a_stands, .ref a_found, .ref a_foundOn, .ref a_moving, .int v_movingMany, .int v_foundIncome, .int v_foundMoves])), (a_a, .inl (cI, 180, .inl v_a))] sz) := by
  refine z_met (cc := cX6_refusesInsertion) (maxL := 3) (ret := (some .int)) (by decide) rfl (Nat.le_of_ble_eq_true rfl) ?_
  intro p e s m below meth c ls E hsz hw hl
  obtain ⟨⟨hx, hb, hml, hown, hts⟩, hr, hlocks⟩ := id E
  have hl : lv_has ls 3 [(0, .ref a_this), (1, .int x1), (2, .int x2)] := hl
  unfold f_X6_refusesInsertion at hf
  refine lv_aload_n hx hb dX6_refusesInsertion_0 rfl (lv_at hl 0 rfl) ?_
  refine lv_iload_n hx hb dX6_refusesInsertion_1 rfl (lv_at hl 1 rfl) ?_
  obtain ⟨r_1, h_2, hf⟩ := oB_elim hf
  refine z_callVi (ws' := [(a_this, .inr (6, [.ref a_a, .ref a_fresh, .ref a_kept, .int v_keptMany, .int v_thrown, .ref a_buffer, .int v_buffered, .int v_size, .int v_at, .int v_behind, .int v_kind, .int v_wrong, .int v_wrongAt, .int v_errorAt, .long v_number, .ref a_best, .ref a_rentBy, .ref a_bareBy, .ref a_aheadBy, .ref a_isEdge, .ref a_tried, .ref a_stands, .ref a_found, .ref a_foundOn, .ref a_moving, .int v_movingMany, .int v_foundIncome, .int v_foundMoves])), (a_a, .inl (cI, 180, .inl v_a))]) (wr := []) (As := [.int x1]) (rest := []) E.1 hl hw (c_X6_isTrader h_2) (cwV 1 hts (z_gV mw_714 mw_715 mw_716 mw_597 mw_717) rfl rfl rfl (by decide +kernel) ⟨(Nat.le_of_ble_eq_true rfl), (Nat.le_of_ble_eq_true rfl)⟩) 2 [(0, 2)] [] rfl rfl rfl rfl rfl rfl (by decide +kernel) rfl (q0 := 0) rfl rfl rfl (Nat.le_of_ble_eq_true rfl) dX6_refusesInsertion_2 ⟨Nat.le_of_ble_eq_true rfl, Nat.le_of_ble_eq_true rfl⟩ (fun H locs hw => ?_)
  refine lv_if_ne (tgt := 12) hx hb dX6_refusesInsertion_5 (by decide) (fun hc => ?_) (fun hc => ?_)
  · have hf := oI_neg hc hf
    refine lv_iload_n hx hb dX6_refusesInsertion_12 rfl (lv_at hl 2 rfl) ?_
    refine lv_i2l hx hb dX6_refusesInsertion_13 rfl ?_
    refine lv_lconst (v := 0) hx hb dX6_refusesInsertion_14 (by decide) ?_
    refine lv_ldc2 (v := 2) hx hb hown (hts _ mw_811) dX6_refusesInsertion_15 ?_
    obtain ⟨r_3, h_4, hf⟩ := oB_elim hf
    refine z_callSi (ws' := [(a_this, .inr (6, [.ref a_a, .ref a_fresh, .ref a_kept, .int v_keptMany, .int v_thrown, .ref a_buffer, .int v_buffered, .int v_size, .int v_at, .int v_behind, .int v_kind, .int v_wrong, .int v_wrongAt, .int v_errorAt, .long v_number, .ref a_best, .ref a_rentBy, .ref a_bareBy, .ref a_aheadBy, .ref a_isEdge, .ref a_tried, .ref a_stands, .ref a_found, .ref a_foundOn, .ref a_moving, .int v_movingMany, .int v_foundIncome, .int v_foundMoves])), (a_a, .inl (cI, 180, .inl v_a))]) (wr := [(a_this, .inr (6, [.ref a_a, .ref a_fresh, .ref a_kept, .int v_keptMany, .int v_thrown, .ref a_buffer, .int v_buffered, .int v_size, .int v_at, .int v_behind, .int v_kind, .int v_wrong, .int v_wrongAt, .int v_errorAt, .long v_number, .ref a_best, .ref a_rentBy, .ref a_bareBy, .ref a_aheadBy, .ref a_isEdge, .ref a_tried, .ref a_stands, .ref a_found, .ref a_foundOn, .ref a_moving, .int v_movingMany, .int v_foundIncome, .int v_foundMoves])), (a_a, .inl (cI, 180, .inl v_a))]) (As := [.long ((x2).toInt64), .long (0 : Int64), .long (2 : Int64)]) (rest := []) E.1 hl hw (c_X6_isIn h_4) (va_cwS 3 hts (z_gS mw_595 mw_596 mw_597 mw_598) rfl rfl rfl (by decide +kernel) ⟨(Nat.le_of_ble_eq_true rfl), (Nat.le_of_ble_eq_true rfl)⟩) 2 [] [(0, 2)] rfl rfl rfl rfl rfl rfl (by decide +kernel) rfl rfl (Nat.le_of_ble_eq_true rfl) dX6_refusesInsertion_18 ⟨Nat.le_of_ble_eq_true rfl, Nat.le_of_ble_eq_true rfl⟩ (fun H locs hw => ?_)
    refine lv_if_ne (tgt := 28) hx hb dX6_refusesInsertion_21 (by decide) (fun hc => ?_) (fun hc => ?_)
    · have hf := oI_neg hc hf
      refine lv_aload_n hx hb dX6_refusesInsertion_28 rfl (lv_at hl 0 rfl) ?_
      refine z_get E.1 hw in_wsX60 0 rfl rfl 0 (z_lt rfl) mw_593 (v := .ref a_a) rfl dX6_refusesInsertion_29 ?_
      refine lv_bipush (v := 107) hx hb dX6_refusesInsertion_32 (by decide) ?_
      refine lv_iload_n hx hb dX6_refusesInsertion_34 rfl (lv_at hl 1 rfl) ?_
      refine lv_iadd hx hb dX6_refusesInsertion_35 ?_
      obtain ⟨h_5, hf⟩ := oA_elim hf
      refine z_iald E.1 hw 1 0 rfl rfl h_5 dX6_refusesInsertion_36 ?_
      refine lv_iconst (v := -1) hx hb dX6_refusesInsertion_37 (by decide) ?_
      refine lv_icmp_eq (tgt := 45) hx hb dX6_refusesInsertion_38 (by decide) (fun hc => ?_) (fun hc => ?_)
      · have hf := oI_pos hc hf
        refine lv_iconst (v := 0) hx hb dX6_refusesInsertion_45 (by decide) ?_
        cases hf
        exact z_iret E rfl hw dX6_refusesInsertion_46
      · have hf := oI_neg hc hf
        refine lv_iconst (v := 3) hx hb dX6_refusesInsertion_41 (by decide) ?_
        refine lv_goto (tgt := 46) hx hb dX6_refusesInsertion_42 (by decide) ?_
        cases hf
        exact z_iret E rfl hw dX6_refusesInsertion_46
    · have hf := oI_pos hc hf
      refine lv_iconst (v := 2) hx hb dX6_refusesInsertion_24 (by decide) ?_
      refine lv_goto (tgt := 46) hx hb dX6_refusesInsertion_25 (by decide) ?_
      cases hf
      exact z_iret E rfl hw dX6_refusesInsertion_46
  · have hf := oI_pos hc hf
    refine lv_iconst (v := 1) hx hb dX6_refusesInsertion_8 (by decide) ?_
    refine lv_goto (tgt := 46) hx hb dX6_refusesInsertion_9 (by decide) ?_
    cases hf
    exact z_iret E rfl hw dX6_refusesInsertion_46
end
/-! X6_seeks -/
section
variable {p : Program} {l : Launch} {e : Env} {s : State} {m : MethodId} {args : Array Value} {below : List Frame} {meth : Method} {c : Code} {D : va_G} {A : Nat → Prop} {cI cZ cM : ClassId} {a_this a_a a_fresh a_kept a_buffer a_best a_rentBy a_bareBy a_aheadBy a_isEdge a_tried a_stands a_found a_foundOn a_moving : Nat} {v_keptMany : Int32} {v_thrown : Int32} {v_buffered : Int32} {v_size : Int32} {v_at : Int32} {v_behind : Int32} {v_kind : Int32} {v_wrong : Int32} {v_wrongAt : Int32} {v_errorAt : Int32} {v_number : Int64} {res : (Nat → Int32) × (Nat → Int32) × (Nat → Int32) × (Nat → Int32) × Int32 × Int32}
def rmX6_seeks (d : Nat) : Room := { frames := 3 + d, cells := 0, slots := 0, locals := 72 + d * 23 }
abbrev zwX6_seeks : List Cond := Cond.code yX6_seeks cX6_seeks 4 none :: wsAll
set_option maxHeartbeats 4000000 in
set_option maxRecDepth 100000 in
theorem w_X6_seeks_72 {n : Nat} (E : zE p s m args meth c cX6_seeks 4 none zwX6_seeks RX6) {d : Nat} {rc : (Nat → Int32) → (Nat → Int32) → (Nat → Int32) → (Nat → Int32) → (Nat → Int32) → (Nat → Int32) → Int32 → Int32 → Int32 → Int32 → Option ((Nat → Int32) × (Nat → Int32) × (Nat → Int32) × (Nat → Int32) × Int32 × Int32)} (hrc : ∀ (sz : Nat) (v_a : Nat → Int32) (v_tried : Nat → Int32) (v_stands : Nat → Int32) (v_found : Nat → Int32) (v_foundOn : Nat → Int32) (v_moving : Nat → Int32) (v_movingMany : Int32) (v_foundIncome : Int32) (v_foundMoves : Int32) (x1 : Int32) (res : (Nat → Int32) × (Nat → Int32) × (Nat → Int32) × (Nat → Int32) × Int32 × Int32), rc v_a v_tried v_stands v_found v_foundOn v_moving v_movingMany v_foundIncome v_foundMoves x1 = some res → Met l yX6_seeks zwX6_seeks (rmX6_seeks d) (zPc D (zT cI cZ cM) [.ref a_this, .int x1] [(a_this, .inr (6, [.ref a_a, .ref a_fresh, .ref a_kept, .int v_keptMany, .int v_thrown, .ref a_buffer, .int v_buffered, .int v_size, .int v_at, .int v_behind, .int v_kind, .int v_wrong, .int v_wrongAt, .int v_errorAt, .long v_number, .ref a_best, .ref a_rentBy, .ref a_bareBy, .ref a_aheadBy, .ref a_isEdge, .ref a_tried, .ref a_stands, .ref a_found, .ref a_foundOn, .ref a_moving, .int v_movingMany, .int v_foundIncome, .int v_foundMoves])), (a_a, .inl (cI, 180, .inl v_a)), (a_tried, .inl (cI, 8, .inl v_tried)), (a_stands, .inl (cI, 24, .inl v_stands)), (a_found, .inl (cI, 8, .inl v_found)), (a_foundOn, .inl (cI, 24, .inl v_foundOn)), (a_moving, .inl (cI, 3, .inl v_moving))] sz) (zQv D (zT cI cZ cM) [(a_this, .inr (6, [.ref a_a, .ref a_fresh, .ref a_kept, .int v_keptMany, .int v_thrown, .ref a_buffer, .int v_buffered, .int v_size, .int v_at, .int v_behind, .int v_kind, .int v_wrong, .int v_wrongAt, .int v_errorAt, .long v_number, .ref a_best, .ref a_rentBy, .ref a_bareBy, .ref a_aheadBy, .ref a_isEdge, .ref a_tried, .ref a_stands, .ref a_found, .ref a_foundOn, .ref a_moving, .int v_movingMany, .int res.2.2.2.2.1, .int res.2.2.2.2.2])), (a_a, .inl (cI, 180, .inl v_a)), (a_tried, .inl (cI, 8, .inl res.1)), (a_stands, .inl (cI, 24, .inl res.2.1)), (a_found, .inl (cI, 8, .inl res.2.2.1)), (a_foundOn, .inl (cI, 24, .inl res.2.2.2.1)), (a_moving, .inl (cI, 3, .inl v_moving))] (va_A [(a_this, .inr (6, [.ref a_a, .ref a_fresh, .ref a_kept, .int v_keptMany, .int v_thrown, .ref a_buffer, .int v_buffered, .int v_size, .int v_at, .int v_behind, .int v_kind, .int v_wrong, .int v_wrongAt, .int v_errorAt, .long v_number, .ref a_best, .ref a_rentBy, .ref a_bareBy, .ref a_aheadBy, .ref a_isEdge, .ref a_tried, .ref a_stands, .ref a_found, .ref a_foundOn, .ref a_moving, .int v_movingMany, .int v_foundIncome, .int v_foundMoves])), (a_a, .inl (cI, 180, .inl v_a)), (a_tried, .inl (cI, 8, .inl v_tried)), (a_stands, .inl (cI, 24, .inl v_stands)), (a_found, .inl (cI, 8, .inl v_found)), (a_foundOn, .inl (cI, 24, .inl v_foundOn)), (a_moving, .inl (cI, 3, .inl v_moving))] sz)) 0 0 (va_A [(a_this, .inr (6, [.ref a_a, .ref a_fresh, .ref a_kept, .int v_keptMany, .int v_thrown, .ref a_buffer, .int v_buffered, .int v_size, .int v_at, .int v_behind, .int v_kind, .int v_wrong, .int v_wrongAt, .int v_errorAt, .long v_number, .ref a_best, .ref a_rentBy, .ref a_bareBy, .ref a_aheadBy, .ref a_isEdge, .ref a_tried, .ref a_stands, .ref a_found, .ref a_foundOn, .ref a_moving, .int v_movingMany, .int v_foundIncome, .int v_foundMoves])), (a_a, .inl (cI, 180, .inl v_a)), (a_tried, .inl (cI, 8, .inl v_tried)), (a_stands, .inl (cI, 24, .inl v_stands)), (a_found, .inl (cI, 8, .inl v_found)), (a_foundOn, .inl (cI, 24, .inl v_foundOn)), (a_moving, .inl (cI, 3, .inl v_moving))] sz)) {k22 : Int32 → Int32 → Int32 → (Nat → Int32) → (Nat → Int32) → (Nat → Int32) → (Nat → Int32) → (Nat → Int32) → (Nat → Int32) → Int32 → Int32 → Int32 → Option ((Nat → Int32) × (Nat → Int32) × (Nat → Int32) × (Nat → Int32) × Int32 × Int32)} (hk22 : ∀ (x1 : Int32) (x2 : Int32) (x3 : Int32) (v_a : Nat → Int32) (v_tried : Nat → Int32) (v_stands : Nat → Int32) (v_found : Nat → Int32) (v_foundOn : Nat → Int32) (v_moving : Nat → Int32) (v_movingMany : Int32) (v_foundIncome : Int32) (v_foundMoves : Int32), k22 x1 x2 x3 v_a v_tried v_stands v_found v_foundOn v_moving v_movingMany v_foundIncome v_foundMoves = some res → ∀ (H : Heap) (locs : List Loc) (ls : Array Slot), zW D (zT cI cZ cM) A s [(a_this, .inr (6, [.ref a_a, .ref a_fresh, .ref a_kept, .int v_keptMany, .int v_thrown, .ref a_buffer, .int v_buffered, .int v_size, .int v_at, .int v_behind, .int v_kind, .int v_wrong, .int v_wrongAt, .int v_errorAt, .long v_number, .ref a_best, .ref a_rentBy, .ref a_bareBy, .ref a_aheadBy, .ref a_isEdge, .ref a_tried, .ref a_stands, .ref a_found, .ref a_foundOn, .ref a_moving, .int v_movingMany, .int v_foundIncome, .int v_foundMoves])), (a_a, .inl (cI, 180, .inl v_a)), (a_tried, .inl (cI, 8, .inl v_tried)), (a_stands, .inl (cI, 24, .inl v_stands)), (a_found, .inl (cI, 8, .inl v_found)), (a_foundOn, .inl (cI, 24, .inl v_foundOn)), (a_moving, .inl (cI, 3, .inl v_moving))] H locs → lv_has ls 4 [(0, .ref a_this), (1, .int x1), (2, .int x2), (3, .int x3)] → W p l e (rmX6_seeks (d + 1)) s m args below meth c H locs 0 0 (MQ below (zQv D (zT cI cZ cM) [(a_this, .inr (6, [.ref a_a, .ref a_fresh, .ref a_kept, .int v_keptMany, .int v_thrown, .ref a_buffer, .int v_buffered, .int v_size, .int v_at, .int v_behind, .int v_kind, .int v_wrong, .int v_wrongAt, .int v_errorAt, .long v_number, .ref a_best, .ref a_rentBy, .ref a_bareBy, .ref a_aheadBy, .ref a_isEdge, .ref a_tried, .ref a_stands, .ref a_found, .ref a_foundOn, .ref a_moving, .int v_movingMany, .int res.2.2.2.2.1, .int res.2.2.2.2.2])), (a_a, .inl (cI, 180, .inl v_a)), (a_tried, .inl (cI, 8, .inl res.1)), (a_stands, .inl (cI, 24, .inl res.2.1)), (a_found, .inl (cI, 8, .inl res.2.2.1)), (a_foundOn, .inl (cI, 24, .inl res.2.2.2.1)), (a_moving, .inl (cI, 3, .inl v_moving))] A) args s 0 0 A) (F0 m 22 ls [])) : ∀ (x1 : Int32) (x2 : Int32) (x3 : Int32) (v_a : Nat → Int32) (v_tried : Nat → Int32) (v_stands : Nat → Int32) (v_found : Nat → Int32) (v_foundOn : Nat → Int32) (v_moving : Nat → Int32) (v_movingMany : Int32) (v_foundIncome : Int32) (v_foundMoves : Int32), f_X6_seeks_72 n rc k22 x1 x2 x3 v_a v_tried v_stands v_found v_foundOn v_moving v_movingMany v_foundIncome v_foundMoves = some res → ∀ (H : Heap) (locs : List Loc) (ls : Array Slot), zW D (zT cI cZ cM) A s [(a_this, .inr (6, [.ref a_a, .ref a_fresh, .ref a_kept, .int v_keptMany, .int v_thrown, .ref a_buffer, .int v_buffered, .int v_size, .int v_at, .int v_behind, .int v_kind, .int v_wrong, .int v_wrongAt, .int v_errorAt, .long v_number, .ref a_best, .ref a_rentBy, .ref a_bareBy, .ref a_aheadBy, .ref a_isEdge, .ref a_tried, .ref a_stands, .ref a_found, .ref a_foundOn, .ref a_moving, .int v_movingMany, .int v_foundIncome, .int v_foundMoves])), (a_a, .inl (cI, 180, .inl v_a)), (a_tried, .inl (cI, 8, .inl v_tried)), (a_stands, .inl (cI, 24, .inl v_stands)), (a_found, .inl (cI, 8, .inl v_found)), (a_foundOn, .inl (cI, 24, .inl v_foundOn)), (a_moving, .inl (cI, 3, .inl v_moving))] H locs → lv_has ls 4 [(0, .ref a_this), (1, .int x1), (2, .int x2), (3, .int x3)] → W p l e (rmX6_seeks (d + 1)) s m args below meth c H locs 0 0 (MQ below (zQv D (zT cI cZ cM) [(a_this, .inr (6, [.ref a_a, .ref a_fresh, .ref a_kept, .int v_keptMany, .int v_thrown, .ref a_buffer, .int v_buffered, .int v_size, .int v_at, .int v_behind, .int v_kind, .int v_wrong, .int v_wrongAt, .int v_errorAt, .long v_number, .ref a_best, .ref a_rentBy, .ref a_bareBy, .ref a_aheadBy, .ref a_isEdge, .ref a_tried, .ref a_stands, .ref a_found, .ref a_foundOn, .ref a_moving, .int v_movingMany, .int res.2.2.2.2.1, .int res.2.2.2.2.2])), (a_a, .inl (cI, 180, .inl v_a)), (a_tried, .inl (cI, 8, .inl res.1)), (a_stands, .inl (cI, 24, .inl res.2.1)), (a_found, .inl (cI, 8, .inl res.2.2.1)), (a_foundOn, .inl (cI, 24, .inl res.2.2.2.1)), (a_moving, .inl (cI, 3, .inl v_moving))] A) args s 0 0 A) (F0 m 72 ls []) := by
  obtain ⟨⟨hx, hb, hml, hown, hts⟩, hr, hlocks⟩ := id E
  intro x1 x2 x3 v_a v_tried v_stands v_found v_foundOn v_moving v_movingMany v_foundIncome v_foundMoves hf H locs ls hw hl
  unfold f_X6_seeks_72 at hf
  refine lv_iinc (v := (x3 + (1 : Int32))) (lv' := [(3, .int (x3 + (1 : Int32))), (0, .ref a_this), (1, .int x1), (2, .int x2)]) hx hb dX6_seeks_72 hl (k := 3) rfl rfl (z_lt rfl) rfl (fun ls hl => ?_)
  refine lv_goto (tgt := 22) hx hb dX6_seeks_75 (by decide) ?_
  exact hk22 _ _ _ _ _ _ _ _ _ _ _ _ hf _ _ _ hw (lv_sub hl [1, 2, 3, 0] rfl)
set_option maxHeartbeats 4000000 in
set_option maxRecDepth 100000 in
theorem w_X6_seeks_22 {n : Nat} (E : zE p s m args meth c cX6_seeks 4 none zwX6_seeks RX6) {d : Nat} {rc : (Nat → Int32) → (Nat → Int32) → (Nat → Int32) → (Nat → Int32) → (Nat → Int32) → (Nat → Int32) → Int32 → Int32 → Int32 → Int32 → Option ((Nat → Int32) × (Nat → Int32) × (Nat → Int32) × (Nat → Int32) × Int32 × Int32)} (hrc : ∀ (sz : Nat) (v_a : Nat → Int32) (v_tried : Nat → Int32) (v_stands : Nat → Int32) (v_found : Nat → Int32) (v_foundOn : Nat → Int32) (v_moving : Nat → Int32) (v_movingMany : Int32) (v_foundIncome : Int32) (v_foundMoves : Int32) (x1 : Int32) (res : (Nat → Int32) × (Nat → Int32) × (Nat → Int32) × (Nat → Int32) × Int32 × Int32), rc v_a v_tried v_stands v_found v_foundOn v_moving v_movingMany v_foundIncome v_foundMoves x1 = some res → Met l yX6_seeks zwX6_seeks (rmX6_seeks d) (zPc D (zT cI cZ cM) [.ref a_this, .int x1] [(a_this, .inr (6, [.ref a_a, .ref a_fresh, .ref a_kept, .int v_keptMany, .int v_thrown, .ref a_buffer, .int v_buffered, .int v_size, .int v_at, .int v_behind, .int v_kind, .int v_wrong, .int v_wrongAt, .int v_errorAt, .long v_number, .ref a_best, .ref a_rentBy, .ref a_bareBy, .ref a_aheadBy, .ref a_isEdge, .ref a_tried, .ref a_stands, .ref a_found, .ref a_foundOn, .ref a_moving, .int v_movingMany, .int v_foundIncome, .int v_foundMoves])), (a_a, .inl (cI, 180, .inl v_a)), (a_tried, .inl (cI, 8, .inl v_tried)), (a_stands, .inl (cI, 24, .inl v_stands)), (a_found, .inl (cI, 8, .inl v_found)), (a_foundOn, .inl (cI, 24, .inl v_foundOn)), (a_moving, .inl (cI, 3, .inl v_moving))] sz) (zQv D (zT cI cZ cM) [(a_this, .inr (6, [.ref a_a, .ref a_fresh, .ref a_kept, .int v_keptMany, .int v_thrown, .ref a_buffer, .int v_buffered, .int v_size, .int v_at, .int v_behind, .int v_kind, .int v_wrong, .int v_wrongAt, .int v_errorAt, .long v_number, .ref a_best, .ref a_rentBy, .ref a_bareBy, .ref a_aheadBy, .ref a_isEdge, .ref a_tried, .ref a_stands, .ref a_found, .ref a_foundOn, .ref a_moving, .int v_movingMany, .int res.2.2.2.2.1, .int res.2.2.2.2.2])), (a_a, .inl (cI, 180, .inl v_a)), (a_tried, .inl (cI, 8, .inl res.1)), (a_stands, .inl (cI, 24, .inl res.2.1)), (a_found, .inl (cI, 8, .inl res.2.2.1)), (a_foundOn, .inl (cI, 24, .inl res.2.2.2.1)), (a_moving, .inl (cI, 3, .inl v_moving))] (va_A [(a_this, .inr (6, [.ref a_a, .ref a_fresh, .ref a_kept, .int v_keptMany, .int v_thrown, .ref a_buffer, .int v_buffered, .int v_size, .int v_at, .int v_behind, .int v_kind, .int v_wrong, .int v_wrongAt, .int v_errorAt, .long v_number, .ref a_best, .ref a_rentBy, .ref a_bareBy, .ref a_aheadBy, .ref a_isEdge, .ref a_tried, .ref a_stands, .ref a_found, .ref a_foundOn, .ref a_moving, .int v_movingMany, .int v_foundIncome, .int v_foundMoves])), (a_a, .inl (cI, 180, .inl v_a)), (a_tried, .inl (cI, 8, .inl v_tried)), (a_stands, .inl (cI, 24, .inl v_stands)), (a_found, .inl (cI, 8, .inl v_found)), (a_foundOn, .inl (cI, 24, .inl v_foundOn)), (a_moving, .inl (cI, 3, .inl v_moving))] sz)) 0 0 (va_A [(a_this, .inr (6, [.ref a_a, .ref a_fresh, .ref a_kept, .int v_keptMany, .int v_thrown, .ref a_buffer, .int v_buffered, .int v_size, .int v_at, .int v_behind, .int v_kind, .int v_wrong, .int v_wrongAt, .int v_errorAt, .long v_number, .ref a_best, .ref a_rentBy, .ref a_bareBy, .ref a_aheadBy, .ref a_isEdge, .ref a_tried, .ref a_stands, .ref a_found, .ref a_foundOn, .ref a_moving, .int v_movingMany, .int v_foundIncome, .int v_foundMoves])), (a_a, .inl (cI, 180, .inl v_a)), (a_tried, .inl (cI, 8, .inl v_tried)), (a_stands, .inl (cI, 24, .inl v_stands)), (a_found, .inl (cI, 8, .inl v_found)), (a_foundOn, .inl (cI, 24, .inl v_foundOn)), (a_moving, .inl (cI, 3, .inl v_moving))] sz)) : ∀ (fu : Nat), ∀ (x1 : Int32) (x2 : Int32) (x3 : Int32) (v_a : Nat → Int32) (v_tried : Nat → Int32) (v_stands : Nat → Int32) (v_found : Nat → Int32) (v_foundOn : Nat → Int32) (v_moving : Nat → Int32) (v_movingMany : Int32) (v_foundIncome : Int32) (v_foundMoves : Int32), f_X6_seeks_22 n rc fu x1 x2 x3 v_a v_tried v_stands v_found v_foundOn v_moving v_movingMany v_foundIncome v_foundMoves = some res → ∀ (H : Heap) (locs : List Loc) (ls : Array Slot), zW D (zT cI cZ cM) A s [(a_this, .inr (6, [.ref a_a, .ref a_fresh, .ref a_kept, .int v_keptMany, .int v_thrown, .ref a_buffer, .int v_buffered, .int v_size, .int v_at, .int v_behind, .int v_kind, .int v_wrong, .int v_wrongAt, .int v_errorAt, .long v_number, .ref a_best, .ref a_rentBy, .ref a_bareBy, .ref a_aheadBy, .ref a_isEdge, .ref a_tried, .ref a_stands, .ref a_found, .ref a_foundOn, .ref a_moving, .int v_movingMany, .int v_foundIncome, .int v_foundMoves])), (a_a, .inl (cI, 180, .inl v_a)), (a_tried, .inl (cI, 8, .inl v_tried)), (a_stands, .inl (cI, 24, .inl v_stands)), (a_found, .inl (cI, 8, .inl v_found)), (a_foundOn, .inl (cI, 24, .inl v_foundOn)), (a_moving, .inl (cI, 3, .inl v_moving))] H locs → lv_has ls 4 [(0, .ref a_this), (1, .int x1), (2, .int x2), (3, .int x3)] → W p l e (rmX6_seeks (d + 1)) s m args below meth c H locs 0 0 (MQ below (zQv D (zT cI cZ cM) [(a_this, .inr (6, [.ref a_a, .ref a_fresh, .ref a_kept, .int v_keptMany, .int v_thrown, .ref a_buffer, .int v_buffered, .int v_size, .int v_at, .int v_behind, .int v_kind, .int v_wrong, .int v_wrongAt, .int v_errorAt, .long v_number, .ref a_best, .ref a_rentBy, .ref a_bareBy, .ref a_aheadBy, .ref a_isEdge, .ref a_tried, .ref a_stands, .ref a_found, .ref a_foundOn, .ref a_moving, .int v_movingMany, .int res.2.2.2.2.1, .int res.2.2.2.2.2])), (a_a, .inl (cI, 180, .inl v_a)), (a_tried, .inl (cI, 8, .inl res.1)), (a_stands, .inl (cI, 24, .inl res.2.1)), (a_found, .inl (cI, 8, .inl res.2.2.1)), (a_foundOn, .inl (cI, 24, .inl res.2.2.2.1)), (a_moving, .inl (cI, 3, .inl v_moving))] A) args s 0 0 A) (F0 m 22 ls []) := by
  obtain ⟨⟨hx, hb, hml, hown, hts⟩, hr, hlocks⟩ := id E
  intro fu
  induction fu with
  | zero => intro x1 x2 x3 v_a v_tried v_stands v_found v_foundOn v_moving v_movingMany v_foundIncome v_foundMoves hf; rw [f_X6_seeks_22.eq_1] at hf; cases hf
  | succ fu ih =>
    intro x1 x2 x3 v_a v_tried v_stands v_found v_foundOn v_moving v_movingMany v_foundIncome v_foundMoves hf H locs ls hw hl
    rw [f_X6_seeks_22.eq_2] at hf
    refine lv_iload_n hx hb dX6_seeks_22 rfl (lv_at hl 3 rfl) ?_
    refine lv_aload_n hx hb dX6_seeks_23 rfl (lv_at hl 0 rfl) ?_
    refine z_get E.1 hw in_wsX60 0 rfl rfl 0 (z_lt rfl) mw_593 (v := .ref a_a) rfl dX6_seeks_24 ?_
    refine lv_iconst (v := 1) hx hb dX6_seeks_27 (by decide) ?_
    obtain ⟨h_1, hf⟩ := oA_elim hf
    refine z_iald E.1 hw 1 0 rfl rfl h_1 dX6_seeks_28 ?_
    refine lv_icmp_ge (tgt := 78) hx hb dX6_seeks_29 (by decide) (fun hc => ?_) (fun hc => ?_)
    · have hf := oI_pos hc hf
      cases hf
      exact z_vret E rfl hw dX6_seeks_78
    · have hf := oI_neg hc hf
      refine lv_aload_n hx hb dX6_seeks_32 rfl (lv_at hl 0 rfl) ?_
      refine lv_iload_n hx hb dX6_seeks_33 rfl (lv_at hl 2 rfl) ?_
      refine lv_iload_n hx hb dX6_seeks_34 rfl (lv_at hl 3 rfl) ?_
      obtain ⟨r_2, h_3, hf⟩ := oB_elim hf
      refine z_callVi (ws' := [(a_this, .inr (6, [.ref a_a, .ref a_fresh, .ref a_kept, .int v_keptMany, .int v_thrown, .ref a_buffer, .int v_buffered, .int v_size, .int v_at, .int v_behind, .int v_kind, .int v_wrong, .int v_wrongAt, .int v_errorAt, .long v_number, .ref a_best, .ref a_rentBy, .ref a_bareBy, .ref a_aheadBy, .ref a_isEdge, .ref a_tried, .ref a_stands, .ref a_found, .ref a_foundOn, .ref a_moving, .int v_movingMany, .int v_foundIncome, .int v_foundMoves])), (a_a, .inl (cI, 180, .inl v_a)), (a_tried, .inl (cI, 8, .inl v_tried)), (a_stands, .inl (cI, 24, .inl v_stands)), (a_found, .inl (cI, 8, .inl v_found)), (a_foundOn, .inl (cI, 24, .inl v_foundOn)), (a_moving, .inl (cI, 3, .inl v_moving))]) (wr := [(a_tried, .inl (cI, 8, .inl v_tried)), (a_found, .inl (cI, 8, .inl v_found)), (a_foundOn, .inl (cI, 24, .inl v_foundOn)), (a_moving, .inl (cI, 3, .inl v_moving))]) (As := [.int x2, .int x3]) (rest := []) E.1 hl hw (c_X6_fits h_3) (cwV 2 hts (z_gV mw_675 mw_676 mw_677 mw_597 mw_678) rfl rfl rfl (by decide +kernel) ⟨(by simp only [rmX6_seeks, rmX6_fits]; omega), (by simp only [rmX6_seeks, rmX6_fits]; omega)⟩) 7 [(0, 2), (3, 1)] [(2, 1), (4, 3)] rfl rfl rfl rfl rfl rfl (by decide +kernel) rfl (q0 := 0) rfl rfl rfl (Nat.le_of_ble_eq_true rfl) dX6_seeks_35 ⟨Nat.zero_le _, Nat.zero_le _⟩ (fun H locs hw => ?_)
      refine lv_if_ne (tgt := 44) hx hb dX6_seeks_38 (by decide) (fun hc => ?_) (fun hc => ?_)
      · have hf := oI_neg hc hf
        refine lv_aload_n hx hb dX6_seeks_44 rfl (lv_at hl 0 rfl) ?_
        refine lv_iload_n hx hb dX6_seeks_45 rfl (lv_at hl 2 rfl) ?_
        refine lv_iload_n hx hb dX6_seeks_46 rfl (lv_at hl 3 rfl) ?_
        refine lv_iload_n hx hb dX6_seeks_47 rfl (lv_at hl 2 rfl) ?_
        obtain ⟨v_4, h_5, hf⟩ := oB_elim hf
        refine z_callVv (ws' := [(a_this, .inr (6, [.ref a_a, .ref a_fresh, .ref a_kept, .int v_keptMany, .int v_thrown, .ref a_buffer, .int v_buffered, .int v_size, .int v_at, .int v_behind, .int v_kind, .int v_wrong, .int v_wrongAt, .int v_errorAt, .long v_number, .ref a_best, .ref a_rentBy, .ref a_bareBy, .ref a_aheadBy, .ref a_isEdge, .ref a_tried, .ref a_stands, .ref a_found, .ref a_foundOn, .ref a_moving, .int v_movingMany, .int v_foundIncome, .int v_foundMoves])), (a_a, .inl (cI, 180, .inl v_a)), (a_tried, .inl (cI, 8, .inl v_tried)), (a_stands, .inl (cI, 24, .inl v_4)), (a_found, .inl (cI, 8, .inl v_found)), (a_foundOn, .inl (cI, 24, .inl v_foundOn)), (a_moving, .inl (cI, 3, .inl v_moving))]) (wr := [(a_tried, .inl (cI, 8, .inl v_tried)), (a_found, .inl (cI, 8, .inl v_found)), (a_foundOn, .inl (cI, 24, .inl v_foundOn)), (a_moving, .inl (cI, 3, .inl v_moving))]) (As := [.int x2, .int x3, .int x2]) (rest := []) E.1 hl hw (c_X6_lays h_5) (cwV 3 hts (z_gV mw_683 mw_684 mw_685 mw_597 mw_686) rfl rfl rfl (by decide +kernel) ⟨(by simp only [rmX6_seeks, rmX6_lays]; omega), (by simp only [rmX6_seeks, rmX6_lays]; omega)⟩) 7 [(0, 2), (3, 1)] [(2, 1), (4, 3)] rfl rfl rfl rfl rfl rfl (by decide +kernel) rfl (q0 := 0) rfl rfl rfl (Nat.le_of_ble_eq_true rfl) dX6_seeks_48 ⟨Nat.zero_le _, Nat.zero_le _⟩ (fun H locs hw => ?_)
        refine lv_aload_n hx hb dX6_seeks_51 rfl (lv_at hl 0 rfl) ?_
        refine z_get E.1 hw in_wsX60 0 rfl rfl 20 (z_lt rfl) mw_674 (v := .ref a_tried) rfl dX6_seeks_52 ?_
        refine lv_iload_n hx hb dX6_seeks_55 rfl (lv_at hl 2 rfl) ?_
        refine lv_iload_n hx hb dX6_seeks_56 rfl (lv_at hl 3 rfl) ?_
        obtain ⟨h_6, hf⟩ := oA_elim hf
        obtain ⟨v_7, e_v_7, hf⟩ := oL_elim hf
        refine z_iast (ws' := [(a_this, .inr (6, [.ref a_a, .ref a_fresh, .ref a_kept, .int v_keptMany, .int v_thrown, .ref a_buffer, .int v_buffered, .int v_size, .int v_at, .int v_behind, .int v_kind, .int v_wrong, .int v_wrongAt, .int v_errorAt, .long v_number, .ref a_best, .ref a_rentBy, .ref a_bareBy, .ref a_aheadBy, .ref a_isEdge, .ref a_tried, .ref a_stands, .ref a_found, .ref a_foundOn, .ref a_moving, .int v_movingMany, .int v_foundIncome, .int v_foundMoves])), (a_a, .inl (cI, 180, .inl v_a)), (a_tried, .inl (cI, 8, .inl v_7)), (a_stands, .inl (cI, 24, .inl v_4)), (a_found, .inl (cI, 8, .inl v_found)), (a_foundOn, .inl (cI, 24, .inl v_foundOn)), (a_moving, .inl (cI, 3, .inl v_moving))]) E.1 hw 2 0 rfl rfl h_6 (by subst e_v_7; rfl) dX6_seeks_57 (fun H locs hw => ?_)
        refine lv_aload_n hx hb dX6_seeks_58 rfl (lv_at hl 0 rfl) ?_
        refine lv_iload_n hx hb dX6_seeks_59 rfl (lv_at hl 1 rfl) ?_
        refine lv_iconst (v := 1) hx hb dX6_seeks_60 (by decide) ?_
        refine lv_iadd hx hb dX6_seeks_61 ?_
        obtain ⟨v_8, v_9, v_10, v_11, v_12, v_13, h_14, hf⟩ := oB6_elim hf
        refine z_callVv (ws' := [(a_this, .inr (6, [.ref a_a, .ref a_fresh, .ref a_kept, .int v_keptMany, .int v_thrown, .ref a_buffer, .int v_buffered, .int v_size, .int v_at, .int v_behind, .int v_kind, .int v_wrong, .int v_wrongAt, .int v_errorAt, .long v_number, .ref a_best, .ref a_rentBy, .ref a_bareBy, .ref a_aheadBy, .ref a_isEdge, .ref a_tried, .ref a_stands, .ref a_found, .ref a_foundOn, .ref a_moving, .int v_movingMany, .int v_12, .int v_13])), (a_a, .inl (cI, 180, .inl v_a)), (a_tried, .inl (cI, 8, .inl v_8)), (a_stands, .inl (cI, 24, .inl v_9)), (a_found, .inl (cI, 8, .inl v_10)), (a_foundOn, .inl (cI, 24, .inl v_11)), (a_moving, .inl (cI, 3, .inl v_moving))]) (wr := []) (As := [.int (x1 + (1 : Int32))]) (rest := []) E.1 hl hw (hrc _ _ _ _ _ _ _ _ _ _ _ _ h_14) (cwV 1 hts (z_gV mw_821 mw_822 mw_823 mw_597 mw_824) rfl rfl rfl (by decide +kernel) ⟨(by simp only [rmX6_seeks]; omega), (by simp only [rmX6_seeks]; omega)⟩) 7 [(0, 7)] [] rfl rfl rfl rfl rfl rfl (by decide +kernel) rfl (q0 := 0) rfl rfl rfl (Nat.le_of_ble_eq_true rfl) dX6_seeks_62 ⟨Nat.zero_le _, Nat.zero_le _⟩ (fun H locs hw => ?_)
        refine lv_aload_n hx hb dX6_seeks_65 rfl (lv_at hl 0 rfl) ?_
        refine lv_iload_n hx hb dX6_seeks_66 rfl (lv_at hl 2 rfl) ?_
        refine lv_iload_n hx hb dX6_seeks_67 rfl (lv_at hl 3 rfl) ?_
        refine lv_iconst (v := -1) hx hb dX6_seeks_68 (by decide) ?_
        obtain ⟨v_15, h_16, hf⟩ := oB_elim hf
        refine z_callVv (ws' := [(a_this, .inr (6, [.ref a_a, .ref a_fresh, .ref a_kept, .int v_keptMany, .int v_thrown, .ref a_buffer, .int v_buffered, .int v_size, .int v_at, .int v_behind, .int v_kind, .int v_wrong, .int v_wrongAt, .int v_errorAt, .long v_number, .ref a_best, .ref a_rentBy, .ref a_bareBy, .ref a_aheadBy, .ref a_isEdge, .ref a_tried, .ref a_stands, .ref a_found, .ref a_foundOn, .ref a_moving, .int v_movingMany, .int v_12, .int v_13])), (a_a, .inl (cI, 180, .inl v_a)), (a_tried, .inl (cI, 8, .inl v_8)), (a_stands, .inl (cI, 24, .inl v_15)), (a_found, .inl (cI, 8, .inl v_10)), (a_foundOn, .inl (cI, 24, .inl v_11)), (a_moving, .inl (cI, 3, .inl v_moving))]) (wr := [(a_tried, .inl (cI, 8, .inl v_8)), (a_found, .inl (cI, 8, .inl v_10)), (a_foundOn, .inl (cI, 24, .inl v_11)), (a_moving, .inl (cI, 3, .inl v_moving))]) (As := [.int x2, .int x3, .int (-1 : Int32)]) (rest := []) E.1 hl hw (c_X6_lays h_16) (cwV 3 hts (z_gV mw_683 mw_684 mw_685 mw_597 mw_686) rfl rfl rfl (by decide +kernel) ⟨(by simp only [rmX6_seeks, rmX6_lays]; omega), (by simp only [rmX6_seeks, rmX6_lays]; omega)⟩) 7 [(0, 2), (3, 1)] [(2, 1), (4, 3)] rfl rfl rfl rfl rfl rfl (by decide +kernel) rfl (q0 := 0) rfl rfl rfl (Nat.le_of_ble_eq_true rfl) dX6_seeks_69 ⟨Nat.zero_le _, Nat.zero_le _⟩ (fun H locs hw => ?_)
        exact w_X6_seeks_72 E hrc ih _ _ _ _ _ _ _ _ _ _ _ _ hf _ _ _ hw (lv_sub hl [0, 1, 2, 3] rfl)
      · have hf := oI_pos hc hf
        refine lv_goto (tgt := 72) hx hb dX6_seeks_41 (by decide) ?_
        exact w_X6_seeks_72 E hrc ih _ _ _ _ _ _ _ _ _ _ _ _ hf _ _ _ hw (lv_sub hl [0, 1, 2, 3] rfl)
set_option maxHeartbeats 4000000 in
set_option maxRecDepth 100000 in
theorem c_X6_seeks {l : Launch} {D : va_G} {cI cZ cM : ClassId} {a_this a_a a_fresh a_kept a_buffer a_best a_rentBy a_bareBy a_aheadBy a_isEdge a_tried a_stands a_found a_foundOn a_moving : Nat} {v_keptMany : Int32} {v_thrown : Int32} {v_buffered : Int32} {v_size : Int32} {v_at : Int32} {v_behind : Int32} {v_kind : Int32} {v_wrong : Int32} {v_wrongAt : Int32} {v_errorAt : Int32} {v_number : Int64} {n : Nat} : ∀ (d : Nat), ∀ (sz : Nat) (v_a : Nat → Int32) (v_tried : Nat → Int32) (v_stands : Nat → Int32) (v_found : Nat → Int32) (v_foundOn : Nat → Int32) (v_moving : Nat → Int32) (v_movingMany : Int32) (v_foundIncome : Int32) (v_foundMoves : Int32) (x1 : Int32) (res : (Nat → Int32) × (Nat → Int32) × (Nat → Int32) × (Nat → Int32) × Int32 × Int32), f_X6_seeks n d v_a v_tried v_stands v_found v_foundOn v_moving v_movingMany v_foundIncome v_foundMoves x1 = some res → Met l yX6_seeks zwX6_seeks (rmX6_seeks d) (zPc D (zT cI cZ cM) [.ref a_this, .int x1] [(a_this, .inr (6, [.ref a_a, .ref a_fresh, .ref a_kept, .int v_keptMany, .int v_thrown, .ref a_buffer, .int v_buffered, .int v_size, .int v_at, .int v_behind, .int v_kind, .int v_wrong, .int v_wrongAt, .int v_errorAt, .long v_number, .ref a_best, .ref a_rentBy, .ref a_bareBy, .ref a_aheadBy, .ref a_isEdge, .ref a_tried, .ref a_stands, .ref a_found, .ref a_foundOn, .ref a_moving, .int v_movingMany, .int v_foundIncome, .int v_foundMoves])), (a_a, .inl (cI, 180, .inl v_a)), (a_tried, .inl (cI, 8, .inl v_tried)), (a_stands, .inl (cI, 24, .inl v_stands)), (a_found, .inl (cI, 8, .inl v_found)), (a_foundOn, .inl (cI, 24, .inl v_foundOn)), (a_moving, .inl (cI, 3, .inl v_moving))] sz) (zQv D (zT cI cZ cM) [(a_this, .inr (6, [.ref a_a, .ref a_fresh, .ref a_kept, .int v_keptMany, .int v_thrown, .ref a_buffer, .int v_buffered, .int v_size, .int v_at, .int v_behind, .int v_kind, .int v_wrong, .int v_wrongAt, .int v_errorAt, .long v_number, .ref a_best, .ref a_rentBy, .ref a_bareBy, .ref a_aheadBy, .ref a_isEdge, .ref a_tried, .ref a_stands, .ref a_found, .ref a_foundOn, .ref a_moving, .int v_movingMany, .int res.2.2.2.2.1, .int res.2.2.2.2.2])), (a_a, .inl (cI, 180, .inl v_a)), (a_tried, .inl (cI, 8, .inl res.1)), (a_stands, .inl (cI, 24, .inl res.2.1)), (a_found, .inl (cI, 8, .inl res.2.2.1)), (a_foundOn, .inl (cI, 24, .inl res.2.2.2.1)), (a_moving, .inl (cI, 3, .inl v_moving))] (va_A [(a_this, .inr (6, [.ref a_a, .ref a_fresh, .ref a_kept, .int v_keptMany, .int v_thrown, .ref a_buffer, .int v_buffered, .int v_size, .int v_at, .int v_behind, .int v_kind, .int v_wrong, .int v_wrongAt, .int v_errorAt, .long v_number, .ref a_best, .ref a_rentBy, .ref a_bareBy, .ref a_aheadBy, .ref a_isEdge, .ref a_tried, .ref a_stands, .ref a_found, .ref a_foundOn, .ref a_moving, .int v_movingMany, .int v_foundIncome, .int v_foundMoves])), (a_a, .inl (cI, 180, .inl v_a)), (a_tried, .inl (cI, 8, .inl v_tried)), (a_stands, .inl (cI, 24, .inl v_stands)), (a_found, .inl (cI, 8, .inl v_found)), (a_foundOn, .inl (cI, 24, .inl v_foundOn)), (a_moving, .inl (cI, 3, .inl v_moving))] sz)) 0 0 (va_A [(a_this, .inr (6, [.ref a_a, .ref a_fresh, .ref a_kept, .int v_keptMany, .int v_thrown, .ref a_buffer, .int v_buffered, .int v_size, .int v_at, .int v_behind, .int v_kind, .int v_wrong, .int v_wrongAt, .int v_errorAt, .long v_number, .ref a_best, .ref a_rentBy, .ref a_bareBy, .ref a_aheadBy, .ref a_isEdge, .ref a_tried, .ref a_stands, .ref a_found, .ref a_foundOn, .ref a_moving, .int v_movingMany, .int v_foundIncome, .int v_foundMoves])), (a_a, .inl (cI, 180, .inl v_a)), (a_tried, .inl (cI, 8, .inl v_tried)), (a_stands, .inl (cI, 24, .inl v_stands)), (a_found, .inl (cI, 8, .inl v_found)), (a_foundOn, .inl (cI, 24, .inl v_foundOn)), (a_moving, .inl (cI, 3, .inl v_moving))] sz) := by
  intro d
  induction d with
  | zero => intro sz v_a v_tried v_stands v_found v_foundOn v_moving v_movingMany v_foundIncome v_foundMoves x1 res hf; rw [f_X6_seeks.eq_1] at hf; cases hf
  | succ d hrc =>
    intro sz v_a v_tried v_stands v_found v_foundOn v_moving v_movingMany v_foundIncome v_foundMoves x1 res hf
    rw [f_X6_seeks.eq_2] at hf
    refine z_met (cc := cX6_seeks) (maxL := 4) (ret := none) (by decide) rfl (Nat.le_of_ble_eq_true rfl) ?_
    intro p e s m below meth c ls E hsz hw hl
    obtain ⟨⟨hx, hb, hml, hown, hts⟩, hr, hlocks⟩ := id E
    have hl : lv_has ls 4 [(0, .ref a_this), (1, .int x1)] := hl
    refine lv_iload_n hx hb dX6_seeks_0 rfl (lv_at hl 1 rfl) ?_
    refine lv_aload_n hx hb dX6_seeks_1 rfl (lv_at hl 0 rfl) ?_
    refine z_get E.1 hw in_wsX60 0 rfl rfl 25 (z_lt rfl) mw_816 (v := .int v_movingMany) rfl dX6_seeks_2 ?_
    refine lv_icmp_ne (tgt := 13) hx hb dX6_seeks_5 (by decide) (fun hc => ?_) (fun hc => ?_)
    · have hf := oI_neg hc hf
      refine lv_aload_n hx hb dX6_seeks_13 rfl (lv_at hl 0 rfl) ?_
      refine z_get E.1 hw in_wsX60 0 rfl rfl 24 (z_lt rfl) mw_805 (v := .ref a_moving) rfl dX6_seeks_14 ?_
      refine lv_iload_n hx hb dX6_seeks_17 rfl (lv_at hl 1 rfl) ?_
      obtain ⟨h_17, hf⟩ := oA_elim hf
      refine z_iald E.1 hw 6 0 rfl rfl h_17 dX6_seeks_18 ?_
      obtain ⟨y_18, e_y_18, hf⟩ := oL_elim hf
      refine z_top e_y_18 ?_
      refine lv_istore_n (lv' := [(2, .int y_18), (0, .ref a_this), (1, .int x1)]) hx hb dX6_seeks_19 rfl hl (z_lt rfl) rfl (fun ls hl => ?_)
      refine lv_iconst (v := 0) hx hb dX6_seeks_20 (by decide) ?_
      refine lv_istore_n (lv' := [(3, .int (0 : Int32)), (2, .int y_18), (0, .ref a_this), (1, .int x1)]) hx hb dX6_seeks_21 rfl hl (z_lt rfl) rfl (fun ls hl => ?_)
      exact w_X6_seeks_22 E hrc  n _ _ _ _ _ _ _ _ _ _ _ _ hf _ _ _ hw (lv_sub hl [2, 3, 1, 0] rfl)
    · have hf := oI_pos hc hf
      refine lv_aload_n hx hb dX6_seeks_8 rfl (lv_at hl 0 rfl) ?_
      obtain ⟨v_19, v_20, v_21, v_22, h_23, hf⟩ := oB4_elim hf
      refine z_callVv (ws' := [(a_this, .inr (6, [.ref a_a, .ref a_fresh, .ref a_kept, .int v_keptMany, .int v_thrown, .ref a_buffer, .int v_buffered, .int v_size, .int v_at, .int v_behind, .int v_kind, .int v_wrong, .int v_wrongAt, .int v_errorAt, .long v_number, .ref a_best, .ref a_rentBy, .ref a_bareBy, .ref a_aheadBy, .ref a_isEdge, .ref a_tried, .ref a_stands, .ref a_found, .ref a_foundOn, .ref a_moving, .int v_movingMany, .int v_21, .int v_22])), (a_a, .inl (cI, 180, .inl v_a)), (a_tried, .inl (cI, 8, .inl v_tried)), (a_stands, .inl (cI, 24, .inl v_stands)), (a_found, .inl (cI, 8, .inl v_19)), (a_foundOn, .inl (cI, 24, .inl v_20)), (a_moving, .inl (cI, 3, .inl v_moving))]) (wr := [(a_moving, .inl (cI, 3, .inl v_moving))]) (As := []) (rest := []) E.1 hl hw (c_X6_compares h_23) (cwV 0 hts (z_gV mw_825 mw_826 mw_827 mw_597 mw_704) rfl rfl rfl (by decide +kernel) ⟨(by simp only [rmX6_seeks, rmX6_compares]; omega), (by simp only [rmX6_seeks, rmX6_compares]; omega)⟩) 7 [(0, 6)] [(6, 1)] rfl rfl rfl rfl rfl rfl (by decide +kernel) rfl (q0 := 0) rfl rfl rfl (Nat.le_of_ble_eq_true rfl) dX6_seeks_9 ⟨Nat.zero_le _, Nat.zero_le _⟩ (fun H locs hw => ?_)
      cases hf
      exact z_vret E rfl hw dX6_seeks_12
end
/-! X6_triesMoving -/
section
variable {p : Program} {l : Launch} {e : Env} {s : State} {m : MethodId} {args : Array Value} {below : List Frame} {meth : Method} {c : Code} {D : va_G} {A : Nat → Prop} {cI cZ cM : ClassId} {a_this a_a a_fresh a_kept a_buffer a_best a_rentBy a_bareBy a_aheadBy a_isEdge a_tried a_stands a_found a_foundOn a_moving : Nat} {v_keptMany : Int32} {v_thrown : Int32} {v_buffered : Int32} {v_size : Int32} {v_at : Int32} {v_behind : Int32} {v_kind : Int32} {v_wrong : Int32} {v_wrongAt : Int32} {v_errorAt : Int32} {v_number : Int64} {res : (Nat → Int32) × (Nat → Int32) × (Nat → Int32) × (Nat → Int32) × Int32 × Int32}
def rmX6_triesMoving : Room := { frames := 9, cells := 0, slots := 0, locals := 210 }
abbrev zwX6_triesMoving : List Cond := Cond.code yX6_triesMoving cX6_triesMoving 4 none :: wsAll
set_option maxHeartbeats 4000000 in
set_option maxRecDepth 100000 in
theorem w_X6_triesMoving_108 {n : Nat} (E : zE p s m args meth c cX6_triesMoving 4 none zwX6_triesMoving RX6) {k23 : Int32 → (Nat → Int32) → (Nat → Int32) → (Nat → Int32) → (Nat → Int32) → (Nat → Int32) → (Nat → Int32) → Int32 → Int32 → Int32 → Option ((Nat → Int32) × (Nat → Int32) × (Nat → Int32) × (Nat → Int32) × Int32 × Int32)} (hk23 : ∀ (x1 : Int32) (v_a : Nat → Int32) (v_tried : Nat → Int32) (v_stands : Nat → Int32) (v_found : Nat → Int32) (v_foundOn : Nat → Int32) (v_moving : Nat → Int32) (v_movingMany : Int32) (v_foundIncome : Int32) (v_foundMoves : Int32), k23 x1 v_a v_tried v_stands v_found v_foundOn v_moving v_movingMany v_foundIncome v_foundMoves = some res → ∀ (H : Heap) (locs : List Loc) (ls : Array Slot), zW D (zT cI cZ cM) A s [(a_this, .inr (6, [.ref a_a, .ref a_fresh, .ref a_kept, .int v_keptMany, .int v_thrown, .ref a_buffer, .int v_buffered, .int v_size, .int v_at, .int v_behind, .int v_kind, .int v_wrong, .int v_wrongAt, .int v_errorAt, .long v_number, .ref a_best, .ref a_rentBy, .ref a_bareBy, .ref a_aheadBy, .ref a_isEdge, .ref a_tried, .ref a_stands, .ref a_found, .ref a_foundOn, .ref a_moving, .int v_movingMany, .int v_foundIncome, .int v_foundMoves])), (a_a, .inl (cI, 180, .inl v_a)), (a_tried, .inl (cI, 8, .inl v_tried)), (a_stands, .inl (cI, 24, .inl v_stands)), (a_found, .inl (cI, 8, .inl v_found)), (a_foundOn, .inl (cI, 24, .inl v_foundOn)), (a_moving, .inl (cI, 3, .inl v_moving))] H locs → lv_has ls 4 [(0, .ref a_this), (1, .int x1)] → W p l e rmX6_triesMoving s m args below meth c H locs 0 0 (MQ below (zQv D (zT cI cZ cM) [(a_this, .inr (6, [.ref a_a, .ref a_fresh, .ref a_kept, .int v_keptMany, .int v_thrown, .ref a_buffer, .int v_buffered, .int v_size, .int v_at, .int v_behind, .int v_kind, .int v_wrong, .int v_wrongAt, .int v_errorAt, .long v_number, .ref a_best, .ref a_rentBy, .ref a_bareBy, .ref a_aheadBy, .ref a_isEdge, .ref a_tried, .ref a_stands, .ref a_found, .ref a_foundOn, .ref a_moving, .int v_movingMany, .int res.2.2.2.2.1, .int res.2.2.2.2.2])), (a_a, .inl (cI, 180, .inl v_a)), (a_tried, .inl (cI, 8, .inl res.1)), (a_stands, .inl (cI, 24, .inl res.2.1)), (a_found, .inl (cI, 8, .inl res.2.2.1)), (a_foundOn, .inl (cI, 24, .inl res.2.2.2.1)), (a_moving, .inl (cI, 3, .inl v_moving))] A) args s 0 0 A) (F0 m 23 ls [])) : ∀ (x1 : Int32) (v_a : Nat → Int32) (v_tried : Nat → Int32) (v_stands : Nat → Int32) (v_found : Nat → Int32) (v_foundOn : Nat → Int32) (v_moving : Nat → Int32) (v_movingMany : Int32) (v_foundIncome : Int32) (v_foundMoves : Int32), f_X6_triesMoving_108 n k23 x1 v_a v_tried v_stands v_found v_foundOn v_moving v_movingMany v_foundIncome v_foundMoves = some res → ∀ (H : Heap) (locs : List Loc) (ls : Array Slot), zW D (zT cI cZ cM) A s [(a_this, .inr (6, [.ref a_a, .ref a_fresh, .ref a_kept, .int v_keptMany, .int v_thrown, .ref a_buffer, .int v_buffered, .int v_size, .int v_at, .int v_behind, .int v_kind, .int v_wrong, .int v_wrongAt, .int v_errorAt, .long v_number, .ref a_best, .ref a_rentBy, .ref a_bareBy, .ref a_aheadBy, .ref a_isEdge, .ref a_tried, .ref a_stands, .ref a_found, .ref a_foundOn, .ref a_moving, .int v_movingMany, .int v_foundIncome, .int v_foundMoves])), (a_a, .inl (cI, 180, .inl v_a)), (a_tried, .inl (cI, 8, .inl v_tried)), (a_stands, .inl (cI, 24, .inl v_stands)), (a_found, .inl (cI, 8, .inl v_found)), (a_foundOn, .inl (cI, 24, .inl v_foundOn)), (a_moving, .inl (cI, 3, .inl v_moving))] H locs → lv_has ls 4 [(0, .ref a_this), (1, .int x1)] → W p l e rmX6_triesMoving s m args below meth c H locs 0 0 (MQ below (zQv D (zT cI cZ cM) [(a_this, .inr (6, [.ref a_a, .ref a_fresh, .ref a_kept, .int v_keptMany, .int v_thrown, .ref a_buffer, .int v_buffered, .int v_size, .int v_at, .int v_behind, .int v_kind, .int v_wrong, .int v_wrongAt, .int v_errorAt, .long v_number, .ref a_best, .ref a_rentBy, .ref a_bareBy, .ref a_aheadBy, .ref a_isEdge, .ref a_tried, .ref a_stands, .ref a_found, .ref a_foundOn, .ref a_moving, .int v_movingMany, .int res.2.2.2.2.1, .int res.2.2.2.2.2])), (a_a, .inl (cI, 180, .inl v_a)), (a_tried, .inl (cI, 8, .inl res.1)), (a_stands, .inl (cI, 24, .inl res.2.1)), (a_found, .inl (cI, 8, .inl res.2.2.1)), (a_foundOn, .inl (cI, 24, .inl res.2.2.2.1)), (a_moving, .inl (cI, 3, .inl v_moving))] A) args s 0 0 A) (F0 m 108 ls []) := by
  obtain ⟨⟨hx, hb, hml, hown, hts⟩, hr, hlocks⟩ := id E
  intro x1 v_a v_tried v_stands v_found v_foundOn v_moving v_movingMany v_foundIncome v_foundMoves hf H locs ls hw hl
  unfold f_X6_triesMoving_108 at hf
  refine lv_iinc (v := (x1 + (1 : Int32))) (lv' := [(1, .int (x1 + (1 : Int32))), (0, .ref a_this)]) hx hb dX6_triesMoving_108 hl (k := 1) rfl rfl (z_lt rfl) rfl (fun ls hl => ?_)
  refine lv_goto (tgt := 23) hx hb dX6_triesMoving_111 (by decide) ?_
  exact hk23 _ _ _ _ _ _ _ _ _ _ hf _ _ _ hw (lv_sub hl [1, 0] rfl)
set_option maxHeartbeats 4000000 in
set_option maxRecDepth 100000 in
theorem w_X6_triesMoving_75 {n : Nat} (E : zE p s m args meth c cX6_triesMoving 4 none zwX6_triesMoving RX6) {k23 : Int32 → (Nat → Int32) → (Nat → Int32) → (Nat → Int32) → (Nat → Int32) → (Nat → Int32) → (Nat → Int32) → Int32 → Int32 → Int32 → Option ((Nat → Int32) × (Nat → Int32) × (Nat → Int32) × (Nat → Int32) × Int32 × Int32)} (hk23 : ∀ (x1 : Int32) (v_a : Nat → Int32) (v_tried : Nat → Int32) (v_stands : Nat → Int32) (v_found : Nat → Int32) (v_foundOn : Nat → Int32) (v_moving : Nat → Int32) (v_movingMany : Int32) (v_foundIncome : Int32) (v_foundMoves : Int32), k23 x1 v_a v_tried v_stands v_found v_foundOn v_moving v_movingMany v_foundIncome v_foundMoves = some res → ∀ (H : Heap) (locs : List Loc) (ls : Array Slot), zW D (zT cI cZ cM) A s [(a_this, .inr (6, [.ref a_a, .ref a_fresh, .ref a_kept, .int v_keptMany, .int v_thrown, .ref a_buffer, .int v_buffered, .int v_size, .int v_at, .int v_behind, .int v_kind, .int v_wrong, .int v_wrongAt, .int v_errorAt, .long v_number, .ref a_best, .ref a_rentBy, .ref a_bareBy, .ref a_aheadBy, .ref a_isEdge, .ref a_tried, .ref a_stands, .ref a_found, .ref a_foundOn, .ref a_moving, .int v_movingMany, .int v_foundIncome, .int v_foundMoves])), (a_a, .inl (cI, 180, .inl v_a)), (a_tried, .inl (cI, 8, .inl v_tried)), (a_stands, .inl (cI, 24, .inl v_stands)), (a_found, .inl (cI, 8, .inl v_found)), (a_foundOn, .inl (cI, 24, .inl v_foundOn)), (a_moving, .inl (cI, 3, .inl v_moving))] H locs → lv_has ls 4 [(0, .ref a_this), (1, .int x1)] → W p l e rmX6_triesMoving s m args below meth c H locs 0 0 (MQ below (zQv D (zT cI cZ cM) [(a_this, .inr (6, [.ref a_a, .ref a_fresh, .ref a_kept, .int v_keptMany, .int v_thrown, .ref a_buffer, .int v_buffered, .int v_size, .int v_at, .int v_behind, .int v_kind, .int v_wrong, .int v_wrongAt, .int v_errorAt, .long v_number, .ref a_best, .ref a_rentBy, .ref a_bareBy, .ref a_aheadBy, .ref a_isEdge, .ref a_tried, .ref a_stands, .ref a_found, .ref a_foundOn, .ref a_moving, .int v_movingMany, .int res.2.2.2.2.1, .int res.2.2.2.2.2])), (a_a, .inl (cI, 180, .inl v_a)), (a_tried, .inl (cI, 8, .inl res.1)), (a_stands, .inl (cI, 24, .inl res.2.1)), (a_found, .inl (cI, 8, .inl res.2.2.1)), (a_foundOn, .inl (cI, 24, .inl res.2.2.2.1)), (a_moving, .inl (cI, 3, .inl v_moving))] A) args s 0 0 A) (F0 m 23 ls [])) {k48 : Int32 → Int32 → Int32 → (Nat → Int32) → (Nat → Int32) → (Nat → Int32) → (Nat → Int32) → (Nat → Int32) → (Nat → Int32) → Int32 → Int32 → Int32 → Option ((Nat → Int32) × (Nat → Int32) × (Nat → Int32) × (Nat → Int32) × Int32 × Int32)} (hk48 : ∀ (x1 : Int32) (x2 : Int32) (x3 : Int32) (v_a : Nat → Int32) (v_tried : Nat → Int32) (v_stands : Nat → Int32) (v_found : Nat → Int32) (v_foundOn : Nat → Int32) (v_moving : Nat → Int32) (v_movingMany : Int32) (v_foundIncome : Int32) (v_foundMoves : Int32), k48 x1 x2 x3 v_a v_tried v_stands v_found v_foundOn v_moving v_movingMany v_foundIncome v_foundMoves = some res → ∀ (H : Heap) (locs : List Loc) (ls : Array Slot), zW D (zT cI cZ cM) A s [(a_this, .inr (6, [.ref a_a, .ref a_fresh, .ref a_kept, .int v_keptMany, .int v_thrown, .ref a_buffer, .int v_buffered, .int v_size, .int v_at, .int v_behind, .int v_kind, .int v_wrong, .int v_wrongAt, .int v_errorAt, .long v_number, .ref a_best, .ref a_rentBy, .ref a_bareBy, .ref a_aheadBy, .ref a_isEdge, .ref a_tried, .ref a_stands, .ref a_found, .ref a_foundOn, .ref a_moving, .int v_movingMany, .int v_foundIncome, .int v_foundMoves])), (a_a, .inl (cI, 180, .inl v_a)), (a_tried, .inl (cI, 8, .inl v_tried)), (a_stands, .inl (cI, 24, .inl v_stands)), (a_found, .inl (cI, 8, .inl v_found)), (a_foundOn, .inl (cI, 24, .inl v_foundOn)), (a_moving, .inl (cI, 3, .inl v_moving))] H locs → lv_has ls 4 [(0, .ref a_this), (1, .int x1), (2, .int x2), (3, .int x3)] → W p l e rmX6_triesMoving s m args below meth c H locs 0 0 (MQ below (zQv D (zT cI cZ cM) [(a_this, .inr (6, [.ref a_a, .ref a_fresh, .ref a_kept, .int v_keptMany, .int v_thrown, .ref a_buffer, .int v_buffered, .int v_size, .int v_at, .int v_behind, .int v_kind, .int v_wrong, .int v_wrongAt, .int v_errorAt, .long v_number, .ref a_best, .ref a_rentBy, .ref a_bareBy, .ref a_aheadBy, .ref a_isEdge, .ref a_tried, .ref a_stands, .ref a_found, .ref a_foundOn, .ref a_moving, .int v_movingMany, .int res.2.2.2.2.1, .int res.2.2.2.2.2])), (a_a, .inl (cI, 180, .inl v_a)), (a_tried, .inl (cI, 8, .inl res.1)), (a_stands, .inl (cI, 24, .inl res.2.1)), (a_found, .inl (cI, 8, .inl res.2.2.1)), (a_foundOn, .inl (cI, 24, .inl res.2.2.2.1)), (a_moving, .inl (cI, 3, .inl v_moving))] A) args s 0 0 A) (F0 m 48 ls [])) : ∀ (t0 : Int32) (x1 : Int32) (x3 : Int32) (v_a : Nat → Int32) (v_tried : Nat → Int32) (v_stands : Nat → Int32) (v_found : Nat → Int32) (v_foundOn : Nat → Int32) (v_moving : Nat → Int32) (v_movingMany : Int32) (v_foundIncome : Int32) (v_foundMoves : Int32), f_X6_triesMoving_75 n k23 k48 t0 x1 x3 v_a v_tried v_stands v_found v_foundOn v_moving v_movingMany v_foundIncome v_foundMoves = some res → ∀ (H : Heap) (locs : List Loc) (ls : Array Slot), zW D (zT cI cZ cM) A s [(a_this, .inr (6, [.ref a_a, .ref a_fresh, .ref a_kept, .int v_keptMany, .int v_thrown, .ref a_buffer, .int v_buffered, .int v_size, .int v_at, .int v_behind, .int v_kind, .int v_wrong, .int v_wrongAt, .int v_errorAt, .long v_number, .ref a_best, .ref a_rentBy, .ref a_bareBy, .ref a_aheadBy, .ref a_isEdge, .ref a_tried, .ref a_stands, .ref a_found, .ref a_foundOn, .ref a_moving, .int v_movingMany, .int v_foundIncome, .int v_foundMoves])), (a_a, .inl (cI, 180, .inl v_a)), (a_tried, .inl (cI, 8, .inl v_tried)), (a_stands, .inl (cI, 24, .inl v_stands)), (a_found, .inl (cI, 8, .inl v_found)), (a_foundOn, .inl (cI, 24, .inl v_foundOn)), (a_moving, .inl (cI, 3, .inl v_moving))] H locs → lv_has ls 4 [(0, .ref a_this), (1, .int x1), (3, .int x3)] → W p l e rmX6_triesMoving s m args below meth c H locs 0 0 (MQ below (zQv D (zT cI cZ cM) [(a_this, .inr (6, [.ref a_a, .ref a_fresh, .ref a_kept, .int v_keptMany, .int v_thrown, .ref a_buffer, .int v_buffered, .int v_size, .int v_at, .int v_behind, .int v_kind, .int v_wrong, .int v_wrongAt, .int v_errorAt, .long v_number, .ref a_best, .ref a_rentBy, .ref a_bareBy, .ref a_aheadBy, .ref a_isEdge, .ref a_tried, .ref a_stands, .ref a_found, .ref a_foundOn, .ref a_moving, .int v_movingMany, .int res.2.2.2.2.1, .int res.2.2.2.2.2])), (a_a, .inl (cI, 180, .inl v_a)), (a_tried, .inl (cI, 8, .inl res.1)), (a_stands, .inl (cI, 24, .inl res.2.1)), (a_found, .inl (cI, 8, .inl res.2.2.1)), (a_foundOn, .inl (cI, 24, .inl res.2.2.2.1)), (a_moving, .inl (cI, 3, .inl v_moving))] A) args s 0 0 A) (F0 m 75 ls [.int t0]) := by
  obtain ⟨⟨hx, hb, hml, hown, hts⟩, hr, hlocks⟩ := id E
  intro t0 x1 x3 v_a v_tried v_stands v_found v_foundOn v_moving v_movingMany v_foundIncome v_foundMoves hf H locs ls hw hl
  unfold f_X6_triesMoving_75 at hf
  refine lv_istore_n (lv' := [(2, .int t0), (0, .ref a_this), (1, .int x1), (3, .int x3)]) hx hb dX6_triesMoving_75 rfl hl (z_lt rfl) rfl (fun ls hl => ?_)
  refine lv_iinc (v := (x3 + (1 : Int32))) (lv' := [(3, .int (x3 + (1 : Int32))), (2, .int t0), (0, .ref a_this), (1, .int x1)]) hx hb dX6_triesMoving_76 hl (k := 3) rfl rfl (z_lt rfl) rfl (fun ls hl => ?_)
  refine lv_goto (tgt := 48) hx hb dX6_triesMoving_79 (by decide) ?_
  exact hk48 _ _ _ _ _ _ _ _ _ _ _ _ hf _ _ _ hw (lv_sub hl [2, 3, 1, 0] rfl)
set_option maxHeartbeats 4000000 in
set_option maxRecDepth 100000 in
theorem w_X6_triesMoving_70 {n : Nat} (E : zE p s m args meth c cX6_triesMoving 4 none zwX6_triesMoving RX6) {k23 : Int32 → (Nat → Int32) → (Nat → Int32) → (Nat → Int32) → (Nat → Int32) → (Nat → Int32) → (Nat → Int32) → Int32 → Int32 → Int32 → Option ((Nat → Int32) × (Nat → Int32) × (Nat → Int32) × (Nat → Int32) × Int32 × Int32)} (hk23 : ∀ (x1 : Int32) (v_a : Nat → Int32) (v_tried : Nat → Int32) (v_stands : Nat → Int32) (v_found : Nat → Int32) (v_foundOn : Nat → Int32) (v_moving : Nat → Int32) (v_movingMany : Int32) (v_foundIncome : Int32) (v_foundMoves : Int32), k23 x1 v_a v_tried v_stands v_found v_foundOn v_moving v_movingMany v_foundIncome v_foundMoves = some res → ∀ (H : Heap) (locs : List Loc) (ls : Array Slot), zW D (zT cI cZ cM) A s [(a_this, .inr (6, [.ref a_a, .ref a_fresh, .ref a_kept, .int v_keptMany, .int v_thrown, .ref a_buffer, .int v_buffered, .int v_size, .int v_at, .int v_behind, .int v_kind, .int v_wrong, .int v_wrongAt, .int v_errorAt, .long v_number, .ref a_best, .ref a_rentBy, .ref a_bareBy, .ref a_aheadBy, .ref a_isEdge, .ref a_tried, .ref a_stands, .ref a_found, .ref a_foundOn, .ref a_moving, .int v_movingMany, .int v_foundIncome, .int v_foundMoves])), (a_a, .inl (cI, 180, .inl v_a)), (a_tried, .inl (cI, 8, .inl v_tried)), (a_stands, .inl (cI, 24, .inl v_stands)), (a_found, .inl (cI, 8, .inl v_found)), (a_foundOn, .inl (cI, 24, .inl v_foundOn)), (a_moving, .inl (cI, 3, .inl v_moving))] H locs → lv_has ls 4 [(0, .ref a_this), (1, .int x1)] → W p l e rmX6_triesMoving s m args below meth c H locs 0 0 (MQ below (zQv D (zT cI cZ cM) [(a_this, .inr (6, [.ref a_a, .ref a_fresh, .ref a_kept, .int v_keptMany, .int v_thrown, .ref a_buffer, .int v_buffered, .int v_size, .int v_at, .int v_behind, .int v_kind, .int v_wrong, .int v_wrongAt, .int v_errorAt, .long v_number, .ref a_best, .ref a_rentBy, .ref a_bareBy, .ref a_aheadBy, .ref a_isEdge, .ref a_tried, .ref a_stands, .ref a_found, .ref a_foundOn, .ref a_moving, .int v_movingMany, .int res.2.2.2.2.1, .int res.2.2.2.2.2])), (a_a, .inl (cI, 180, .inl v_a)), (a_tried, .inl (cI, 8, .inl res.1)), (a_stands, .inl (cI, 24, .inl res.2.1)), (a_found, .inl (cI, 8, .inl res.2.2.1)), (a_foundOn, .inl (cI, 24, .inl res.2.2.2.1)), (a_moving, .inl (cI, 3, .inl v_moving))] A) args s 0 0 A) (F0 m 23 ls [])) {k48 : Int32 → Int32 → Int32 → (Nat → Int32) → (Nat → Int32) → (Nat → Int32) → (Nat → Int32) → (Nat → Int32) → (Nat → Int32) → Int32 → Int32 → Int32 → Option ((Nat → Int32) × (Nat → Int32) × (Nat → Int32) × (Nat → Int32) × Int32 × Int32)} (hk48 : ∀ (x1 : Int32) (x2 : Int32) (x3 : Int32) (v_a : Nat → Int32) (v_tried : Nat → Int32) (v_stands : Nat → Int32) (v_found : Nat → Int32) (v_foundOn : Nat → Int32) (v_moving : Nat → Int32) (v_movingMany : Int32) (v_foundIncome : Int32) (v_foundMoves : Int32), k48 x1 x2 x3 v_a v_tried v_stands v_found v_foundOn v_moving v_movingMany v_foundIncome v_foundMoves = some res → ∀ (H : Heap) (locs : List Loc) (ls : Array Slot), zW D (zT cI cZ cM) A s [(a_this, .inr (6, [.ref a_a, .ref a_fresh, .ref a_kept, .int v_keptMany, .int v_thrown, .ref a_buffer, .int v_buffered, .int v_size, .int v_at, .int v_behind, .int v_kind, .int v_wrong, .int v_wrongAt, .int v_errorAt, .long v_number, .ref a_best, .ref a_rentBy, .ref a_bareBy, .ref a_aheadBy, .ref a_isEdge, .ref a_tried, .ref a_stands, .ref a_found, .ref a_foundOn, .ref a_moving, .int v_movingMany, .int v_foundIncome, .int v_foundMoves])), (a_a, .inl (cI, 180, .inl v_a)), (a_tried, .inl (cI, 8, .inl v_tried)), (a_stands, .inl (cI, 24, .inl v_stands)), (a_found, .inl (cI, 8, .inl v_found)), (a_foundOn, .inl (cI, 24, .inl v_foundOn)), (a_moving, .inl (cI, 3, .inl v_moving))] H locs → lv_has ls 4 [(0, .ref a_this), (1, .int x1), (2, .int x2), (3, .int x3)] → W p l e rmX6_triesMoving s m args below meth c H locs 0 0 (MQ below (zQv D (zT cI cZ cM) [(a_this, .inr (6, [.ref a_a, .ref a_fresh, .ref a_kept, .int v_keptMany, .int v_thrown, .ref a_buffer, .int v_buffered, .int v_size, .int v_at, .int v_behind, .int v_kind, .int v_wrong, .int v_wrongAt, .int v_errorAt, .long v_number, .ref a_best, .ref a_rentBy, .ref a_bareBy, .ref a_aheadBy, .ref a_isEdge, .ref a_tried, .ref a_stands, .ref a_found, .ref a_foundOn, .ref a_moving, .int v_movingMany, .int res.2.2.2.2.1, .int res.2.2.2.2.2])), (a_a, .inl (cI, 180, .inl v_a)), (a_tried, .inl (cI, 8, .inl res.1)), (a_stands, .inl (cI, 24, .inl res.2.1)), (a_found, .inl (cI, 8, .inl res.2.2.1)), (a_foundOn, .inl (cI, 24, .inl res.2.2.2.1)), (a_moving, .inl (cI, 3, .inl v_moving))] A) args s 0 0 A) (F0 m 48 ls [])) : ∀ (x1 : Int32) (x3 : Int32) (v_a : Nat → Int32) (v_tried : Nat → Int32) (v_stands : Nat → Int32) (v_found : Nat → Int32) (v_foundOn : Nat → Int32) (v_moving : Nat → Int32) (v_movingMany : Int32) (v_foundIncome : Int32) (v_foundMoves : Int32), f_X6_triesMoving_70 n k23 k48 x1 x3 v_a v_tried v_stands v_found v_foundOn v_moving v_movingMany v_foundIncome v_foundMoves = some res → ∀ (H : Heap) (locs : List Loc) (ls : Array Slot), zW D (zT cI cZ cM) A s [(a_this, .inr (6, [.ref a_a, .ref a_fresh, .ref a_kept, .int v_keptMany, .int v_thrown, .ref a_buffer, .int v_buffered, .int v_size, .int v_at, .int v_behind, .int v_kind, .int v_wrong, .int v_wrongAt, .int v_errorAt, .long v_number, .ref a_best, .ref a_rentBy, .ref a_bareBy, .ref a_aheadBy, .ref a_isEdge, .ref a_tried, .ref a_stands, .ref a_found, .ref a_foundOn, .ref a_moving, .int v_movingMany, .int v_foundIncome, .int v_foundMoves])), (a_a, .inl (cI, 180, .inl v_a)), (a_tried, .inl (cI, 8, .inl v_tried)), (a_stands, .inl (cI, 24, .inl v_stands)), (a_found, .inl (cI, 8, .inl v_found)), (a_foundOn, .inl (cI, 24, .inl v_foundOn)), (a_moving, .inl (cI, 3, .inl v_moving))] H locs → lv_has ls 4 [(0, .ref a_this), (1, .int x1), (3, .int x3)] → W p l e rmX6_triesMoving s m args below meth c H locs 0 0 (MQ below (zQv D (zT cI cZ cM) [(a_this, .inr (6, [.ref a_a, .ref a_fresh, .ref a_kept, .int v_keptMany, .int v_thrown, .ref a_buffer, .int v_buffered, .int v_size, .int v_at, .int v_behind, .int v_kind, .int v_wrong, .int v_wrongAt, .int v_errorAt, .long v_number, .ref a_best, .ref a_rentBy, .ref a_bareBy, .ref a_aheadBy, .ref a_isEdge, .ref a_tried, .ref a_stands, .ref a_found, .ref a_foundOn, .ref a_moving, .int v_movingMany, .int res.2.2.2.2.1, .int res.2.2.2.2.2])), (a_a, .inl (cI, 180, .inl v_a)), (a_tried, .inl (cI, 8, .inl res.1)), (a_stands, .inl (cI, 24, .inl res.2.1)), (a_found, .inl (cI, 8, .inl res.2.2.1)), (a_foundOn, .inl (cI, 24, .inl res.2.2.2.1)), (a_moving, .inl (cI, 3, .inl v_moving))] A) args s 0 0 A) (F0 m 70 ls []) := by
  obtain ⟨⟨hx, hb, hml, hown, hts⟩, hr, hlocks⟩ := id E
  intro x1 x3 v_a v_tried v_stands v_found v_foundOn v_moving v_movingMany v_foundIncome v_foundMoves hf H locs ls hw hl
  unfold f_X6_triesMoving_70 at hf
  refine lv_iconst (v := 1) hx hb dX6_triesMoving_70 (by decide) ?_
  refine lv_goto (tgt := 75) hx hb dX6_triesMoving_71 (by decide) ?_
  exact w_X6_triesMoving_75 E hk23 hk48 _ _ _ _ _ _ _ _ _ _ _ _ hf _ _ _ hw (lv_sub hl [0, 1, 2] rfl)
set_option maxHeartbeats 4000000 in
set_option maxRecDepth 100000 in
theorem w_X6_triesMoving_48 {n : Nat} (E : zE p s m args meth c cX6_triesMoving 4 none zwX6_triesMoving RX6) {k23 : Int32 → (Nat → Int32) → (Nat → Int32) → (Nat → Int32) → (Nat → Int32) → (Nat → Int32) → (Nat → Int32) → Int32 → Int32 → Int32 → Option ((Nat → Int32) × (Nat → Int32) × (Nat → Int32) × (Nat → Int32) × Int32 × Int32)} (hk23 : ∀ (x1 : Int32) (v_a : Nat → Int32) (v_tried : Nat → Int32) (v_stands : Nat → Int32) (v_found : Nat → Int32) (v_foundOn : Nat → Int32) (v_moving : Nat → Int32) (v_movingMany : Int32) (v_foundIncome : Int32) (v_foundMoves : Int32), k23 x1 v_a v_tried v_stands v_found v_foundOn v_moving v_movingMany v_foundIncome v_foundMoves = some res → ∀ (H : Heap) (locs : List Loc) (ls : Array Slot), zW D (zT cI cZ cM) A s [(a_this, .inr (6, [.ref a_a, .ref a_fresh, .ref a_kept, .int v_keptMany, .int v_thrown, .ref a_buffer, .int v_buffered, .int v_size, .int v_at, .int v_behind, .int v_kind, .int v_wrong, .int v_wrongAt, .int v_errorAt, .long v_number, .ref a_best, .ref a_rentBy, .ref a_bareBy, .ref a_aheadBy, .ref a_isEdge, .ref a_tried, .ref a_stands, .ref a_found, .ref a_foundOn, .ref a_moving, .int v_movingMany, .int v_foundIncome, .int v_foundMoves])), (a_a, .inl (cI, 180, .inl v_a)), (a_tried, .inl (cI, 8, .inl v_tried)), (a_stands, .inl (cI, 24, .inl v_stands)), (a_found, .inl (cI, 8, .inl v_found)), (a_foundOn, .inl (cI, 24, .inl v_foundOn)), (a_moving, .inl (cI, 3, .inl v_moving))] H locs → lv_has ls 4 [(0, .ref a_this), (1, .int x1)] → W p l e rmX6_triesMoving s m args below meth c H locs 0 0 (MQ below (zQv D (zT cI cZ cM) [(a_this, .inr (6, [.ref a_a, .ref a_fresh, .ref a_kept, .int v_keptMany, .int v_thrown, .ref a_buffer, .int v_buffered, .int v_size, .int v_at, .int v_behind, .int v_kind, .int v_wrong, .int v_wrongAt, .int v_errorAt, .long v_number, .ref a_best, .ref a_rentBy, .ref a_bareBy, .ref a_aheadBy, .ref a_isEdge, .ref a_tried, .ref a_stands, .ref a_found, .ref a_foundOn, .ref a_moving, .int v_movingMany, .int res.2.2.2.2.1, .int res.2.2.2.2.2])), (a_a, .inl (cI, 180, .inl v_a)), (a_tried, .inl (cI, 8, .inl res.1)), (a_stands, .inl (cI, 24, .inl res.2.1)), (a_found, .inl (cI, 8, .inl res.2.2.1)), (a_foundOn, .inl (cI, 24, .inl res.2.2.2.1)), (a_moving, .inl (cI, 3, .inl v_moving))] A) args s 0 0 A) (F0 m 23 ls [])) : ∀ (fu : Nat), ∀ (x1 : Int32) (x2 : Int32) (x3 : Int32) (v_a : Nat → Int32) (v_tried : Nat → Int32) (v_stands : Nat → Int32) (v_found : Nat → Int32) (v_foundOn : Nat → Int32) (v_moving : Nat → Int32) (v_movingMany : Int32) (v_foundIncome : Int32) (v_foundMoves : Int32), f_X6_triesMoving_48 n k23 fu x1 x2 x3 v_a v_tried v_stands v_found v_foundOn v_moving v_movingMany v_foundIncome v_foundMoves = some res → ∀ (H : Heap) (locs : List Loc) (ls : Array Slot), zW D (zT cI cZ cM) A s [(a_this, .inr (6, [.ref a_a, .ref a_fresh, .ref a_kept, .int v_keptMany, .int v_thrown, .ref a_buffer, .int v_buffered, .int v_size, .int v_at, .int v_behind, .int v_kind, .int v_wrong, .int v_wrongAt, .int v_errorAt, .long v_number, .ref a_best, .ref a_rentBy, .ref a_bareBy, .ref a_aheadBy, .ref a_isEdge, .ref a_tried, .ref a_stands, .ref a_found, .ref a_foundOn, .ref a_moving, .int v_movingMany, .int v_foundIncome, .int v_foundMoves])), (a_a, .inl (cI, 180, .inl v_a)), (a_tried, .inl (cI, 8, .inl v_tried)), (a_stands, .inl (cI, 24, .inl v_stands)), (a_found, .inl (cI, 8, .inl v_found)), (a_foundOn, .inl (cI, 24, .inl v_foundOn)), (a_moving, .inl (cI, 3, .inl v_moving))] H locs → lv_has ls 4 [(0, .ref a_this), (1, .int x1), (2, .int x2), (3, .int x3)] → W p l e rmX6_triesMoving s m args below meth c H locs 0 0 (MQ below (zQv D (zT cI cZ cM) [(a_this, .inr (6, [.ref a_a, .ref a_fresh, .ref a_kept, .int v_keptMany, .int v_thrown, .ref a_buffer, .int v_buffered, .int v_size, .int v_at, .int v_behind, .int v_kind, .int v_wrong, .int v_wrongAt, .int v_errorAt, .long v_number, .ref a_best, .ref a_rentBy, .ref a_bareBy, .ref a_aheadBy, .ref a_isEdge, .ref a_tried, .ref a_stands, .ref a_found, .ref a_foundOn, .ref a_moving, .int v_movingMany, .int res.2.2.2.2.1, .int res.2.2.2.2.2])), (a_a, .inl (cI, 180, .inl v_a)), (a_tried, .inl (cI, 8, .inl res.1)), (a_stands, .inl (cI, 24, .inl res.2.1)), (a_found, .inl (cI, 8, .inl res.2.2.1)), (a_foundOn, .inl (cI, 24, .inl res.2.2.2.1)), (a_moving, .inl (cI, 3, .inl v_moving))] A) args s 0 0 A) (F0 m 48 ls []) := by
  obtain ⟨⟨hx, hb, hml, hown, hts⟩, hr, hlocks⟩ := id E
  intro fu
  induction fu with
  | zero => intro x1 x2 x3 v_a v_tried v_stands v_found v_foundOn v_moving v_movingMany v_foundIncome v_foundMoves hf; rw [f_X6_triesMoving_48.eq_1] at hf; cases hf
  | succ fu ih =>
    intro x1 x2 x3 v_a v_tried v_stands v_found v_foundOn v_moving v_movingMany v_foundIncome v_foundMoves hf H locs ls hw hl
    rw [f_X6_triesMoving_48.eq_2] at hf
    refine lv_iload_n hx hb dX6_triesMoving_48 rfl (lv_at hl 3 rfl) ?_
    refine lv_aload_n hx hb dX6_triesMoving_49 rfl (lv_at hl 0 rfl) ?_
    refine z_get E.1 hw in_wsX60 0 rfl rfl 25 (z_lt rfl) mw_816 (v := .int v_movingMany) rfl dX6_triesMoving_50 ?_
    refine lv_icmp_ge (tgt := 82) hx hb dX6_triesMoving_53 (by decide) (fun hc => ?_) (fun hc => ?_)
    · have hf := oI_pos hc hf
      refine lv_aload_n hx hb dX6_triesMoving_82 rfl (lv_at hl 0 rfl) ?_
      refine z_get E.1 hw in_wsX60 0 rfl rfl 20 (z_lt rfl) mw_674 (v := .ref a_tried) rfl dX6_triesMoving_83 ?_
      refine lv_iload_n hx hb dX6_triesMoving_86 rfl (lv_at hl 1 rfl) ?_
      obtain ⟨h_1, hf⟩ := oA_elim hf
      refine z_iald E.1 hw 2 0 rfl rfl h_1 dX6_triesMoving_87 ?_
      refine lv_iconst (v := -1) hx hb dX6_triesMoving_88 (by decide) ?_
      refine lv_icmp_eq (tgt := 108) hx hb dX6_triesMoving_89 (by decide) (fun hc => ?_) (fun hc => ?_)
      · have hf := oI_pos hc hf
        exact w_X6_triesMoving_108 E hk23 _ _ _ _ _ _ _ _ _ _ hf _ _ _ hw (lv_sub hl [0, 1] rfl)
      · have hf := oI_neg hc hf
        refine lv_iload_n hx hb dX6_triesMoving_92 rfl (lv_at hl 2 rfl) ?_
        refine lv_if_ne (tgt := 108) hx hb dX6_triesMoving_93 (by decide) (fun hc => ?_) (fun hc => ?_)
        · have hf := oI_neg hc hf
          exact w_X6_triesMoving_108 E hk23 _ _ _ _ _ _ _ _ _ _ hf _ _ _ hw (lv_sub hl [0, 1] rfl)
        · have hf := oI_pos hc hf
          refine lv_aload_n hx hb dX6_triesMoving_96 rfl (lv_at hl 0 rfl) ?_
          refine lv_iload_n hx hb dX6_triesMoving_97 rfl (lv_at hl 1 rfl) ?_
          refine lv_aload_n hx hb dX6_triesMoving_98 rfl (lv_at hl 0 rfl) ?_
          refine z_get E.1 hw in_wsX60 0 rfl rfl 20 (z_lt rfl) mw_674 (v := .ref a_tried) rfl dX6_triesMoving_99 ?_
          refine lv_iload_n hx hb dX6_triesMoving_102 rfl (lv_at hl 1 rfl) ?_
          obtain ⟨h_2, hf⟩ := oA_elim hf
          refine z_iald E.1 hw 2 0 rfl rfl h_2 dX6_triesMoving_103 ?_
          refine lv_iload_n hx hb dX6_triesMoving_104 rfl (lv_at hl 1 rfl) ?_
          obtain ⟨v_3, h_4, hf⟩ := oB_elim hf
          refine z_callVv (ws' := [(a_this, .inr (6, [.ref a_a, .ref a_fresh, .ref a_kept, .int v_keptMany, .int v_thrown, .ref a_buffer, .int v_buffered, .int v_size, .int v_at, .int v_behind, .int v_kind, .int v_wrong, .int v_wrongAt, .int v_errorAt, .long v_number, .ref a_best, .ref a_rentBy, .ref a_bareBy, .ref a_aheadBy, .ref a_isEdge, .ref a_tried, .ref a_stands, .ref a_found, .ref a_foundOn, .ref a_moving, .int v_movingMany, .int v_foundIncome, .int v_foundMoves])), (a_a, .inl (cI, 180, .inl v_a)), (a_tried, .inl (cI, 8, .inl v_tried)), (a_stands, .inl (cI, 24, .inl v_3)), (a_found, .inl (cI, 8, .inl v_found)), (a_foundOn, .inl (cI, 24, .inl v_foundOn)), (a_moving, .inl (cI, 3, .inl v_moving))]) (wr := [(a_tried, .inl (cI, 8, .inl v_tried)), (a_found, .inl (cI, 8, .inl v_found)), (a_foundOn, .inl (cI, 24, .inl v_foundOn)), (a_moving, .inl (cI, 3, .inl v_moving))]) (As := [.int x1, .int (v_tried (x1).toNatClampNeg), .int x1]) (rest := []) E.1 hl hw (c_X6_lays h_4) (cwV 3 hts (z_gV mw_683 mw_684 mw_685 mw_597 mw_686) rfl rfl rfl (by decide +kernel) ⟨(Nat.le_of_ble_eq_true rfl), (Nat.le_of_ble_eq_true rfl)⟩) 7 [(0, 2), (3, 1)] [(2, 1), (4, 3)] rfl rfl rfl rfl rfl rfl (by decide +kernel) rfl (q0 := 0) rfl rfl rfl (Nat.le_of_ble_eq_true rfl) dX6_triesMoving_105 ⟨Nat.le_of_ble_eq_true rfl, Nat.le_of_ble_eq_true rfl⟩ (fun H locs hw => ?_)
          exact w_X6_triesMoving_108 E hk23 _ _ _ _ _ _ _ _ _ _ hf _ _ _ hw (lv_sub hl [0, 1] rfl)
    · have hf := oI_neg hc hf
      refine lv_iload_n hx hb dX6_triesMoving_56 rfl (lv_at hl 2 rfl) ?_
      refine lv_if_ne (tgt := 70) hx hb dX6_triesMoving_57 (by decide) (fun hc => ?_) (fun hc => ?_)
      · have hf := oI_neg hc hf
        exact w_X6_triesMoving_70 E hk23 ih _ _ _ _ _ _ _ _ _ _ _ hf _ _ _ hw (lv_sub hl [0, 1, 3] rfl)
      · have hf := oI_pos hc hf
        refine lv_aload_n hx hb dX6_triesMoving_60 rfl (lv_at hl 0 rfl) ?_
        refine z_get E.1 hw in_wsX60 0 rfl rfl 24 (z_lt rfl) mw_805 (v := .ref a_moving) rfl dX6_triesMoving_61 ?_
        refine lv_iload_n hx hb dX6_triesMoving_64 rfl (lv_at hl 3 rfl) ?_
        obtain ⟨h_5, hf⟩ := oA_elim hf
        refine z_iald E.1 hw 6 0 rfl rfl h_5 dX6_triesMoving_65 ?_
        refine lv_iload_n hx hb dX6_triesMoving_66 rfl (lv_at hl 1 rfl) ?_
        refine lv_icmp_ne (tgt := 74) hx hb dX6_triesMoving_67 (by decide) (fun hc => ?_) (fun hc => ?_)
        · have hf := oI_neg hc hf
          refine lv_iconst (v := 0) hx hb dX6_triesMoving_74 (by decide) ?_
          exact w_X6_triesMoving_75 E hk23 ih _ _ _ _ _ _ _ _ _ _ _ _ hf _ _ _ hw (lv_sub hl [0, 1, 3] rfl)
        · have hf := oI_pos hc hf
          exact w_X6_triesMoving_70 E hk23 ih _ _ _ _ _ _ _ _ _ _ _ hf _ _ _ hw (lv_sub hl [0, 1, 3] rfl)
set_option maxHeartbeats 4000000 in
set_option maxRecDepth 100000 in
theorem w_X6_triesMoving_23 {n : Nat} (E : zE p s m args meth c cX6_triesMoving 4 none zwX6_triesMoving RX6) : ∀ (fu : Nat), ∀ (x1 : Int32) (v_a : Nat → Int32) (v_tried : Nat → Int32) (v_stands : Nat → Int32) (v_found : Nat → Int32) (v_foundOn : Nat → Int32) (v_moving : Nat → Int32) (v_movingMany : Int32) (v_foundIncome : Int32) (v_foundMoves : Int32), f_X6_triesMoving_23 n fu x1 v_a v_tried v_stands v_found v_foundOn v_moving v_movingMany v_foundIncome v_foundMoves = some res → ∀ (H : Heap) (locs : List Loc) (ls : Array Slot), zW D (zT cI cZ cM) A s [(a_this, .inr (6, [.ref a_a, .ref a_fresh, .ref a_kept, .int v_keptMany, .int v_thrown, .ref a_buffer, .int v_buffered, .int v_size, .int v_at, .int v_behind, .int v_kind, .int v_wrong, .int v_wrongAt, .int v_errorAt, .long v_number, .ref a_best, .ref a_rentBy, .ref a_bareBy, .ref a_aheadBy, .ref a_isEdge, .ref a_tried, .ref a_stands, .ref a_found, .ref a_foundOn, .ref a_moving, .int v_movingMany, .int v_foundIncome, .int v_foundMoves])), (a_a, .inl (cI, 180, .inl v_a)), (a_tried, .inl (cI, 8, .inl v_tried)), (a_stands, .inl (cI, 24, .inl v_stands)), (a_found, .inl (cI, 8, .inl v_found)), (a_foundOn, .inl (cI, 24, .inl v_foundOn)), (a_moving, .inl (cI, 3, .inl v_moving))] H locs → lv_has ls 4 [(0, .ref a_this), (1, .int x1)] → W p l e rmX6_triesMoving s m args below meth c H locs 0 0 (MQ below (zQv D (zT cI cZ cM) [(a_this, .inr (6, [.ref a_a, .ref a_fresh, .ref a_kept, .int v_keptMany, .int v_thrown, .ref a_buffer, .int v_buffered, .int v_size, .int v_at, .int v_behind, .int v_kind, .int v_wrong, .int v_wrongAt, .int v_errorAt, .long v_number, .ref a_best, .ref a_rentBy, .ref a_bareBy, .ref a_aheadBy, .ref a_isEdge, .ref a_tried, .ref a_stands, .ref a_found, .ref a_foundOn, .ref a_moving, .int v_movingMany, .int res.2.2.2.2.1, .int res.2.2.2.2.2])), (a_a, .inl (cI, 180, .inl v_a)), (a_tried, .inl (cI, 8, .inl res.1)), (a_stands, .inl (cI, 24, .inl res.2.1)), (a_found, .inl (cI, 8, .inl res.2.2.1)), (a_foundOn, .inl (cI, 24, .inl res.2.2.2.1)), (a_moving, .inl (cI, 3, .inl v_moving))] A) args s 0 0 A) (F0 m 23 ls []) := by
  obtain ⟨⟨hx, hb, hml, hown, hts⟩, hr, hlocks⟩ := id E
  intro fu
  induction fu with
  | zero => intro x1 v_a v_tried v_stands v_found v_foundOn v_moving v_movingMany v_foundIncome v_foundMoves hf; rw [f_X6_triesMoving_23.eq_1] at hf; cases hf
  | succ fu ih =>
    intro x1 v_a v_tried v_stands v_found v_foundOn v_moving v_movingMany v_foundIncome v_foundMoves hf H locs ls hw hl
    rw [f_X6_triesMoving_23.eq_2] at hf
    refine lv_iload_n hx hb dX6_triesMoving_23 rfl (lv_at hl 1 rfl) ?_
    refine lv_bipush (v := 8) hx hb dX6_triesMoving_24 (by decide) ?_
    refine lv_icmp_ge (tgt := 114) hx hb dX6_triesMoving_26 (by decide) (fun hc => ?_) (fun hc => ?_)
    · have hf := oI_pos hc hf
      refine lv_aload_n hx hb dX6_triesMoving_114 rfl (lv_at hl 0 rfl) ?_
      refine lv_iconst (v := 0) hx hb dX6_triesMoving_115 (by decide) ?_
      obtain ⟨v_6, v_7, v_8, v_9, v_10, v_11, h_12, hf⟩ := oB6_elim hf
      refine z_callVv (ws' := [(a_this, .inr (6, [.ref a_a, .ref a_fresh, .ref a_kept, .int v_keptMany, .int v_thrown, .ref a_buffer, .int v_buffered, .int v_size, .int v_at, .int v_behind, .int v_kind, .int v_wrong, .int v_wrongAt, .int v_errorAt, .long v_number, .ref a_best, .ref a_rentBy, .ref a_bareBy, .ref a_aheadBy, .ref a_isEdge, .ref a_tried, .ref a_stands, .ref a_found, .ref a_foundOn, .ref a_moving, .int v_movingMany, .int v_10, .int v_11])), (a_a, .inl (cI, 180, .inl v_a)), (a_tried, .inl (cI, 8, .inl v_6)), (a_stands, .inl (cI, 24, .inl v_7)), (a_found, .inl (cI, 8, .inl v_8)), (a_foundOn, .inl (cI, 24, .inl v_9)), (a_moving, .inl (cI, 3, .inl v_moving))]) (wr := []) (As := [.int (0 : Int32)]) (rest := []) E.1 hl hw (c_X6_seeks 5 _ _ _ _ _ _ _ _ _ _ _ _ h_12) (cwV 1 hts (z_gV mw_821 mw_822 mw_823 mw_597 mw_824) rfl rfl rfl (by decide +kernel) ⟨(Nat.le_of_ble_eq_true rfl), (Nat.le_of_ble_eq_true rfl)⟩) 7 [(0, 7)] [] rfl rfl rfl rfl rfl rfl (by decide +kernel) rfl (q0 := 0) rfl rfl rfl (Nat.le_of_ble_eq_true rfl) dX6_triesMoving_116 ⟨Nat.le_of_ble_eq_true rfl, Nat.le_of_ble_eq_true rfl⟩ (fun H locs hw => ?_)
      cases hf
      exact z_vret E rfl hw dX6_triesMoving_119
    · have hf := oI_neg hc hf
      refine lv_aload_n hx hb dX6_triesMoving_29 rfl (lv_at hl 0 rfl) ?_
      refine z_get E.1 hw in_wsX60 0 rfl rfl 20 (z_lt rfl) mw_674 (v := .ref a_tried) rfl dX6_triesMoving_30 ?_
      refine lv_iload_n hx hb dX6_triesMoving_33 rfl (lv_at hl 1 rfl) ?_
      refine lv_aload_n hx hb dX6_triesMoving_34 rfl (lv_at hl 0 rfl) ?_
      refine z_get E.1 hw in_wsX60 0 rfl rfl 0 (z_lt rfl) mw_593 (v := .ref a_a) rfl dX6_triesMoving_35 ?_
      refine lv_bipush (v := 107) hx hb dX6_triesMoving_38 (by decide) ?_
      refine lv_iload_n hx hb dX6_triesMoving_40 rfl (lv_at hl 1 rfl) ?_
      refine lv_iadd hx hb dX6_triesMoving_41 ?_
      obtain ⟨h_13, hf⟩ := oA_elim hf
      refine z_iald E.1 hw 1 0 rfl rfl h_13 dX6_triesMoving_42 ?_
      obtain ⟨h_14, hf⟩ := oA_elim hf
      obtain ⟨v_15, e_v_15, hf⟩ := oL_elim hf
      refine z_iast (ws' := [(a_this, .inr (6, [.ref a_a, .ref a_fresh, .ref a_kept, .int v_keptMany, .int v_thrown, .ref a_buffer, .int v_buffered, .int v_size, .int v_at, .int v_behind, .int v_kind, .int v_wrong, .int v_wrongAt, .int v_errorAt, .long v_number, .ref a_best, .ref a_rentBy, .ref a_bareBy, .ref a_aheadBy, .ref a_isEdge, .ref a_tried, .ref a_stands, .ref a_found, .ref a_foundOn, .ref a_moving, .int v_movingMany, .int v_foundIncome, .int v_foundMoves])), (a_a, .inl (cI, 180, .inl v_a)), (a_tried, .inl (cI, 8, .inl v_15)), (a_stands, .inl (cI, 24, .inl v_stands)), (a_found, .inl (cI, 8, .inl v_found)), (a_foundOn, .inl (cI, 24, .inl v_foundOn)), (a_moving, .inl (cI, 3, .inl v_moving))]) E.1 hw 2 0 rfl rfl h_14 (by subst e_v_15; rfl) dX6_triesMoving_43 (fun H locs hw => ?_)
      refine lv_iconst (v := 0) hx hb dX6_triesMoving_44 (by decide) ?_
      refine lv_istore_n (lv' := [(2, .int (0 : Int32)), (0, .ref a_this), (1, .int x1)]) hx hb dX6_triesMoving_45 rfl hl (z_lt rfl) rfl (fun ls hl => ?_)
      refine lv_iconst (v := 0) hx hb dX6_triesMoving_46 (by decide) ?_
      refine lv_istore_n (lv' := [(3, .int (0 : Int32)), (2, .int (0 : Int32)), (0, .ref a_this), (1, .int x1)]) hx hb dX6_triesMoving_47 rfl hl (z_lt rfl) rfl (fun ls hl => ?_)
      exact w_X6_triesMoving_48 E ih n _ _ _ _ _ _ _ _ _ _ _ _ hf _ _ _ hw (lv_sub hl [2, 3, 1, 0] rfl)
set_option maxHeartbeats 4000000 in
set_option maxRecDepth 100000 in
theorem w_X6_triesMoving_2 {n : Nat} (E : zE p s m args meth c cX6_triesMoving 4 none zwX6_triesMoving RX6) : ∀ (fu : Nat), ∀ (x1 : Int32) (v_a : Nat → Int32) (v_tried : Nat → Int32) (v_stands : Nat → Int32) (v_found : Nat → Int32) (v_foundOn : Nat → Int32) (v_moving : Nat → Int32) (v_movingMany : Int32) (v_foundIncome : Int32) (v_foundMoves : Int32), f_X6_triesMoving_2 n fu x1 v_a v_tried v_stands v_found v_foundOn v_moving v_movingMany v_foundIncome v_foundMoves = some res → ∀ (H : Heap) (locs : List Loc) (ls : Array Slot), zW D (zT cI cZ cM) A s [(a_this, .inr (6, [.ref a_a, .ref a_fresh, .ref a_kept, .int v_keptMany, .int v_thrown, .ref a_buffer, .int v_buffered, .int v_size, .int v_at, .int v_behind, .int v_kind, .int v_wrong, .int v_wrongAt, .int v_errorAt, .long v_number, .ref a_best, .ref a_rentBy, .ref a_bareBy, .ref a_aheadBy, .ref a_isEdge, .ref a_tried, .ref a_stands, .ref a_found, .ref a_foundOn, .ref a_moving, .int v_movingMany, .int v_foundIncome, .int v_foundMoves])), (a_a, .inl (cI, 180, .inl v_a)), (a_tried, .inl (cI, 8, .inl v_tried)), (a_stands, .inl (cI, 24, .inl v_stands)), (a_found, .inl (cI, 8, .inl v_found)), (a_foundOn, .inl (cI, 24, .inl v_foundOn)), (a_moving, .inl (cI, 3, .inl v_moving))] H locs → lv_has ls 4 [(0, .ref a_this), (1, .int x1)] → W p l e rmX6_triesMoving s m args below meth c H locs 0 0 (MQ below (zQv D (zT cI cZ cM) [(a_this, .inr (6, [.ref a_a, .ref a_fresh, .ref a_kept, .int v_keptMany, .int v_thrown, .ref a_buffer, .int v_buffered, .int v_size, .int v_at, .int v_behind, .int v_kind, .int v_wrong, .int v_wrongAt, .int v_errorAt, .long v_number, .ref a_best, .ref a_rentBy, .ref a_bareBy, .ref a_aheadBy, .ref a_isEdge, .ref a_tried, .ref a_stands, .ref a_found, .ref a_foundOn, .ref a_moving, .int v_movingMany, .int res.2.2.2.2.1, .int res.2.2.2.2.2])), (a_a, .inl (cI, 180, .inl v_a)), (a_tried, .inl (cI, 8, .inl res.1)), (a_stands, .inl (cI, 24, .inl res.2.1)), (a_found, .inl (cI, 8, .inl res.2.2.1)), (a_foundOn, .inl (cI, 24, .inl res.2.2.2.1)), (a_moving, .inl (cI, 3, .inl v_moving))] A) args s 0 0 A) (F0 m 2 ls []) := by
  obtain ⟨⟨hx, hb, hml, hown, hts⟩, hr, hlocks⟩ := id E
  intro fu
  induction fu with
  | zero => intro x1 v_a v_tried v_stands v_found v_foundOn v_moving v_movingMany v_foundIncome v_foundMoves hf; rw [f_X6_triesMoving_2.eq_1] at hf; cases hf
  | succ fu ih =>
    intro x1 v_a v_tried v_stands v_found v_foundOn v_moving v_movingMany v_foundIncome v_foundMoves hf H locs ls hw hl
    rw [f_X6_triesMoving_2.eq_2] at hf
    refine lv_iload_n hx hb dX6_triesMoving_2 rfl (lv_at hl 1 rfl) ?_
    refine lv_bipush (v := 24) hx hb dX6_triesMoving_3 (by decide) ?_
    refine lv_icmp_ge (tgt := 21) hx hb dX6_triesMoving_5 (by decide) (fun hc => ?_) (fun hc => ?_)
    · have hf := oI_pos hc hf
      refine lv_iconst (v := 0) hx hb dX6_triesMoving_21 (by decide) ?_
      refine lv_istore_n (lv' := [(1, .int (0 : Int32)), (0, .ref a_this)]) hx hb dX6_triesMoving_22 rfl hl (z_lt rfl) rfl (fun ls hl => ?_)
      exact w_X6_triesMoving_23 E  n _ _ _ _ _ _ _ _ _ _ hf _ _ _ hw (lv_sub hl [1, 0] rfl)
    · have hf := oI_neg hc hf
      refine lv_aload_n hx hb dX6_triesMoving_8 rfl (lv_at hl 0 rfl) ?_
      refine z_get E.1 hw in_wsX60 0 rfl rfl 21 (z_lt rfl) mw_673 (v := .ref a_stands) rfl dX6_triesMoving_9 ?_
      refine lv_iload_n hx hb dX6_triesMoving_12 rfl (lv_at hl 1 rfl) ?_
      refine lv_iconst (v := -1) hx hb dX6_triesMoving_13 (by decide) ?_
      obtain ⟨h_16, hf⟩ := oA_elim hf
      obtain ⟨v_17, e_v_17, hf⟩ := oL_elim hf
      refine z_iast (ws' := [(a_this, .inr (6, [.ref a_a, .ref a_fresh, .ref a_kept, .int v_keptMany, .int v_thrown, .ref a_buffer, .int v_buffered, .int v_size, .int v_at, .int v_behind, .int v_kind, .int v_wrong, .int v_wrongAt, .int v_errorAt, .long v_number, .ref a_best, .ref a_rentBy, .ref a_bareBy, .ref a_aheadBy, .ref a_isEdge, .ref a_tried, .ref a_stands, .ref a_found, .ref a_foundOn, .ref a_moving, .int v_movingMany, .int v_foundIncome, .int v_foundMoves])), (a_a, .inl (cI, 180, .inl v_a)), (a_tried, .inl (cI, 8, .inl v_tried)), (a_stands, .inl (cI, 24, .inl v_17)), (a_found, .inl (cI, 8, .inl v_found)), (a_foundOn, .inl (cI, 24, .inl v_foundOn)), (a_moving, .inl (cI, 3, .inl v_moving))]) E.1 hw 3 0 rfl rfl h_16 (by subst e_v_17; rfl) dX6_triesMoving_14 (fun H locs hw => ?_)
      refine lv_iinc (v := (x1 + (1 : Int32))) (lv' := [(1, .int (x1 + (1 : Int32))), (0, .ref a_this)]) hx hb dX6_triesMoving_15 hl (k := 1) rfl rfl (z_lt rfl) rfl (fun ls hl => ?_)
      refine lv_goto (tgt := 2) hx hb dX6_triesMoving_18 (by decide) ?_
      exact ih _ _ _ _ _ _ _ _ _ _ hf _ _ _ hw (lv_sub hl [1, 0] rfl)
set_option maxHeartbeats 4000000 in
set_option maxRecDepth 100000 in
theorem c_X6_triesMoving {l : Launch} {D : va_G} {cI cZ cM : ClassId} {a_this a_a a_fresh a_kept a_buffer a_best a_rentBy a_bareBy a_aheadBy a_isEdge a_tried a_stands a_found a_foundOn a_moving : Nat} {v_keptMany : Int32} {v_thrown : Int32} {v_buffered : Int32} {v_size : Int32} {v_at : Int32} {v_behind : Int32} {v_kind : Int32} {v_wrong : Int32} {v_wrongAt : Int32} {v_errorAt : Int32} {v_number : Int64} {res : (Nat → Int32) × (Nat → Int32) × (Nat → Int32) × (Nat → Int32) × Int32 × Int32} {sz : Nat} {n : Nat} {v_a : Nat → Int32} {v_tried : Nat → Int32} {v_stands : Nat → Int32} {v_found : Nat → Int32} {v_foundOn : Nat → Int32} {v_moving : Nat → Int32} {v_movingMany : Int32} {v_foundIncome : Int32} {v_foundMoves : Int32} (hf : f_X6_triesMoving n v_a v_tried v_stands v_found v_foundOn v_moving v_movingMany v_foundIncome v_foundMoves = some res) : Met l yX6_triesMoving zwX6_triesMoving rmX6_triesMoving (zPc D (zT cI cZ cM) [.ref a_this] [(a_this, .inr (6, [.ref a_a, .ref a_fresh, .ref a_kept, .int v_keptMany, .int v_thrown, .ref a_buffer, .int v_buffered, .int v_size, .int v_at, .int v_behind, .int v_kind, .int v_wrong, .int v_wrongAt, .int v_errorAt, .long v_number, .ref a_best, .ref a_rentBy, .ref a_bareBy, .ref a_aheadBy, .ref a_isEdge, .ref a_tried, .ref a_stands, .ref a_found, .ref a_foundOn, .ref a_moving, .int v_movingMany, .int v_foundIncome, .int v_foundMoves])), (a_a, .inl (cI, 180, .inl v_a)), (a_tried, .inl (cI, 8, .inl v_tried)), (a_stands, .inl (cI, 24, .inl v_stands)), (a_found, .inl (cI, 8, .inl v_found)), (a_foundOn, .inl (cI, 24, .inl v_foundOn)), (a_moving, .inl (cI, 3, .inl v_moving))] sz) (zQv D (zT cI cZ cM) [(a_this, .inr (6, [.ref a_a, .ref a_fresh, .ref a_kept, .int v_keptMany, .int v_thrown, .ref a_buffer, .int v_buffered, .int v_size, .int v_at, .int v_behind, .int v_kind, .int v_wrong, .int v_wrongAt, .int v_errorAt, .long v_number, .ref a_best, .ref a_rentBy, .ref a_bareBy, .ref a_aheadBy, .ref a_isEdge, .ref a_tried, .ref a_stands, .ref a_found, .ref a_foundOn, .ref a_moving, .int v_movingMany, .int res.2.2.2.2.1, .int res.2.2.2.2.2])), (a_a, .inl (cI, 180, .inl v_a)), (a_tried, .inl (cI, 8, .inl res.1)), (a_stands, .inl (cI, 24, .inl res.2.1)), (a_found, .inl (cI, 8, .inl res.2.2.1)), (a_foundOn, .inl (cI, 24, .inl res.2.2.2.1)), (a_moving, .inl (cI, 3, .inl v_moving))] (va_A [(a_this, .inr (6, [.ref a_a, .ref a_fresh, .ref a_kept, .int v_keptMany, .int v_thrown, .ref a_buffer, .int v_buffered, .int v_size, .int v_at, .int v_behind, .int v_kind, .int v_wrong, .int v_wrongAt, .int v_errorAt, .long v_number, .ref a_best, .ref a_rentBy, .ref a_bareBy, .ref a_aheadBy, .ref a_isEdge, .ref a_tried, .ref a_stands, .ref a_found, .ref a_foundOn, .ref a_moving, .int v_movingMany, .int v_foundIncome, .int v_foundMoves])), (a_a, .inl (cI, 180, .inl v_a)), (a_tried, .inl (cI, 8, .inl v_tried)), (a_stands, .inl (cI, 24, .inl v_stands)), (a_found, .inl (cI, 8, .inl v_found)), (a_foundOn, .inl (cI, 24, .inl v_foundOn)), (a_moving, .inl (cI, 3, .inl v_moving))] sz)) 0 0 (va_A [(a_this, .inr (6, [.ref a_a, .ref a_fresh, .ref a_kept, .int v_keptMany, .int v_thrown, .ref a_buffer, .int v_buffered, .int v_size, .int v_at, .int v_behind, .int v_kind, .int v_wrong, .int v_wrongAt, .int v_errorAt, .long v_number, .ref a_best, .ref a_rentBy, .ref a_bareBy, .ref a_aheadBy, .ref a_isEdge, .ref a_tried, .ref a_stands, .ref a_found, .ref a_foundOn, .ref a_moving, .int v_movingMany, .int v_foundIncome, .int v_foundMoves])), (a_a, .inl (cI, 180, .inl v_a)), (a_tried, .inl (cI, 8, .inl v_tried)), (a_stands, .inl (cI, 24, .inl v_stands)), (a_found, .inl (cI, 8, .inl v_found)), (a_foundOn, .inl (cI, 24, .inl v_foundOn)), (a_moving, .inl (cI, 3, .inl v_moving))] sz) := by
  refine z_met (cc := cX6_triesMoving) (maxL := 4) (ret := none) (by decide) rfl (Nat.le_of_ble_eq_true rfl) ?_
  intro p e s m below meth c ls E hsz hw hl
  obtain ⟨⟨hx, hb, hml, hown, hts⟩, hr, hlocks⟩ := id E
  have hl : lv_has ls 4 [(0, .ref a_this)] := hl
  unfold f_X6_triesMoving at hf
  refine lv_iconst (v := 0) hx hb dX6_triesMoving_0 (by decide) ?_
  refine lv_istore_n (lv' := [(1, .int (0 : Int32)), (0, .ref a_this)]) hx hb dX6_triesMoving_1 rfl hl (z_lt rfl) rfl (fun ls hl => ?_)
  exact w_X6_triesMoving_2 E  n _ _ _ _ _ _ _ _ _ _ hf _ _ _ hw (lv_sub hl [1, 0] rfl)
end
