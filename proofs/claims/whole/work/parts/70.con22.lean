/-! X6_isOn -/
section
variable {p : Program} {l : Launch} {e : Env} {s : State} {m : MethodId} {args : Array Value} {below : List Frame} {meth : Method} {c : Code} {D : va_G} {A : Nat → Prop} {cI cZ cM : ClassId} {a_this a_a a_fresh a_kept a_buffer a_best a_rentBy a_bareBy a_aheadBy a_isEdge a_tried a_stands a_found a_foundOn a_moving : Nat} {v_keptMany : Int32} {v_thrown : Int32} {v_buffered : Int32} {v_size : Int32} {v_at : Int32} {v_behind : Int32} {v_kind : Int32} {v_wrong : Int32} {v_wrongAt : Int32} {v_errorAt : Int32} {v_number : Int64} {v_movingMany : Int32} {v_foundIncome : Int32} {v_foundMoves : Int32} {res : Int32}
def rmX6_isOn : Room := { frames := 1, cells := 0, slots := 0, locals := 25 }
abbrev zwX6_isOn : List Cond := Cond.code yX6_isOn cX6_isOn 3 (some .boolean) :: wsAll
set_option maxHeartbeats 4000000 in
set_option maxRecDepth 100000 in
theorem c_X6_isOn {l : Launch} {D : va_G} {cI cZ cM : ClassId} {a_this a_a a_fresh a_kept a_buffer a_best a_rentBy a_bareBy a_aheadBy a_isEdge a_tried a_stands a_found a_foundOn a_moving : Nat} {v_keptMany : Int32} {v_thrown : Int32} {v_buffered : Int32} {v_size : Int32} {v_at : Int32} {v_behind : Int32} {v_kind : Int32} {v_wrong : Int32} {v_wrongAt : Int32} {v_errorAt : Int32} {v_number : Int64} {v_movingMany : Int32} {v_foundIncome : Int32} {v_foundMoves : Int32} {res : Int32} {sz : Nat} {v_a : Nat → Int32} {x1 : Int32} {x2 : Int32} (hf : f_X6_isOn v_a x1 x2 = some res) : Met l yX6_isOn zwX6_isOn rmX6_isOn (zPc D (zT cI cZ cM) [.ref a_this, .int x1, .int x2] [(a_this, .inr (6, [.ref a_a, .ref a_fresh, .ref a_kept, .int v_keptMany, .int v_thrown, .ref a_buffer, .int v_buffered, .int v_size, .int v_at, .int v_behind, .int v_kind, .int v_wrong, .int v_wrongAt, .int v_errorAt, .long v_number, .ref a_best, .ref a_rentBy, .ref a_bareBy, .ref a_aheadBy, .ref a_isEdge, .ref a_tried, .ref a_stands, .ref a_found, .ref a_foundOn, .ref a_moving, .int v_movingMany, .int v_foundIncome, .int v_foundMoves])), (a_a, .inl (cI, 180, .inl v_a))] sz) (zQi D (zT cI cZ cM) res [(a_this, .inr (6, [.ref a_a, .ref a_fresh, .ref a_kept, .int v_keptMany, .int v_thrown, .ref a_buffer, .int v_buffered, .int v_size, .int v_at, .int v_behind, .int v_kind, .int v_wrong, .int v_wrongAt, .int v_errorAt, .long v_number, .ref a_best, .ref a_rentBy, .ref a_bareBy, .ref a_aheadBy, .ref a_isEdge, .ref a_tried, .ref a_stands, .ref a_found, .ref a_foundOn, .ref a_moving, .int v_movingMany, .int v_foundIncome, .int v_foundMoves])), (a_a, .inl (cI, 180, .inl v_a))] (va_A [(a_this, .inr (6, [.ref a_a, .ref a_fresh, .ref a_kept, .int v_keptMany, .int v_thrown, .ref a_buffer, .int v_buffered, .int v_size, .int v_at, .int v_behind, .int v_kind, .int v_wrong, .int v_wrongAt, .int v_errorAt, .long v_number, .ref a_best, .ref a_rentBy, .ref a_bareBy, .ref a_aheadBy, .ref a_isEdge, .ref a_tried, .ref a_stands, .ref a_found, .ref a_foundOn, .ref a_moving, .int v_movingMany, .int v_foundIncome, .int v_foundMoves])), (a_a, .inl (cI, 180, .inl v_a))] sz)) 0 0 (va_A [(a_this, .inr (6, [.ref a_a, .ref a_fresh, .ref a_kept, .int v_keptMany, .int v_thrown, .ref a_buffer, .int v_buffered, .int v_size, .int v_at, .int v_behind, .int v_kind, .int v_wrong, .int v_wrongAt, .int v_errorAt, .long v_number, .ref a_best, .ref a_rentBy, .ref a_bareBy, .ref a_aheadBy, .ref a_isEdge, .ref a_tried, .ref a_stands, .ref a_found, .ref a_foundOn, .ref a_moving, .int v_movingMany, .int v_foundIncome, .int v_foundMoves])), (a_a, .inl (cI, 180, .inl v_a))] sz) := by
  refine z_met (cc := cX6_isOn) (maxL := 3) (ret := (some .boolean)) (by decide) rfl (Nat.le_of_ble_eq_true rfl) ?_
  intro p e s m below meth c ls E hsz hw hl
  obtain ⟨⟨hx, hb, hml, hown, hts⟩, hr, hlocks⟩ := id E
  have hl : lv_has ls 3 [(0, .ref a_this), (1, .int x1), (2, .int x2)] := hl
  unfold f_X6_isOn at hf
  refine lv_aload_n hx hb dX6_isOn_0 rfl (lv_at hl 0 rfl) ?_
  refine z_get E.1 hw in_wsX60 0 rfl rfl 0 (z_lt rfl) mw_593 (v := .ref a_a) rfl dX6_isOn_1 ?_
  refine lv_bipush (v := 107) hx hb dX6_isOn_4 (by decide) ?_
  refine lv_iload_n hx hb dX6_isOn_6 rfl (lv_at hl 1 rfl) ?_
  refine lv_iadd hx hb dX6_isOn_7 ?_
  obtain ⟨h_1, hf⟩ := oA_elim hf
  refine z_iald E.1 hw 1 0 rfl rfl h_1 dX6_isOn_8 ?_
  refine lv_iconst (v := -1) hx hb dX6_isOn_9 (by decide) ?_
  refine lv_icmp_eq (tgt := 57) hx hb dX6_isOn_10 (by decide) (fun hc => ?_) (fun hc => ?_)
  · have hf := oI_pos hc hf
    refine lv_iconst (v := 0) hx hb dX6_isOn_57 (by decide) ?_
    cases hf
    exact z_zret E rfl z_n0 hw dX6_isOn_58
  · have hf := oI_neg hc hf
    refine lv_iload_n hx hb dX6_isOn_13 rfl (lv_at hl 2 rfl) ?_
    refine lv_i2l hx hb dX6_isOn_14 rfl ?_
    refine lv_aload_n hx hb dX6_isOn_15 rfl (lv_at hl 0 rfl) ?_
    refine z_get E.1 hw in_wsX60 0 rfl rfl 0 (z_lt rfl) mw_593 (v := .ref a_a) rfl dX6_isOn_16 ?_
    refine lv_bipush (v := 107) hx hb dX6_isOn_19 (by decide) ?_
    refine lv_iload_n hx hb dX6_isOn_21 rfl (lv_at hl 1 rfl) ?_
    refine lv_iadd hx hb dX6_isOn_22 ?_
    obtain ⟨h_2, hf⟩ := oA_elim hf
    refine z_iald E.1 hw 1 0 rfl rfl h_2 dX6_isOn_23 ?_
    refine lv_i2l hx hb dX6_isOn_24 rfl ?_
    refine lv_aload_n hx hb dX6_isOn_25 rfl (lv_at hl 0 rfl) ?_
    refine z_get E.1 hw in_wsX60 0 rfl rfl 0 (z_lt rfl) mw_593 (v := .ref a_a) rfl dX6_isOn_26 ?_
    refine lv_bipush (v := 107) hx hb dX6_isOn_29 (by decide) ?_
    refine lv_iload_n hx hb dX6_isOn_31 rfl (lv_at hl 1 rfl) ?_
    refine lv_iadd hx hb dX6_isOn_32 ?_
    obtain ⟨h_3, hf⟩ := oA_elim hf
    refine z_iald E.1 hw 1 0 rfl rfl h_3 dX6_isOn_33 ?_
    refine lv_aload_n hx hb dX6_isOn_34 rfl (lv_at hl 0 rfl) ?_
    refine z_get E.1 hw in_wsX60 0 rfl rfl 0 (z_lt rfl) mw_593 (v := .ref a_a) rfl dX6_isOn_35 ?_
    refine lv_bipush (v := 83) hx hb dX6_isOn_38 (by decide) ?_
    refine lv_iload_n hx hb dX6_isOn_40 rfl (lv_at hl 1 rfl) ?_
    refine lv_iadd hx hb dX6_isOn_41 ?_
    obtain ⟨h_4, hf⟩ := oA_elim hf
    refine z_iald E.1 hw 1 0 rfl rfl h_4 dX6_isOn_42 ?_
    refine lv_iadd hx hb dX6_isOn_43 ?_
    refine lv_iconst (v := 1) hx hb dX6_isOn_44 (by decide) ?_
    refine lv_isub hx hb dX6_isOn_45 ?_
    refine lv_i2l hx hb dX6_isOn_46 rfl ?_
    obtain ⟨r_5, h_6, hf⟩ := oB_elim hf
    refine z_callSi (ws' := [(a_this, .inr (6, [.ref a_a, .ref a_fresh, .ref a_kept, .int v_keptMany, .int v_thrown, .ref a_buffer, .int v_buffered, .int v_size, .int v_at, .int v_behind, .int v_kind, .int v_wrong, .int v_wrongAt, .int v_errorAt, .long v_number, .ref a_best, .ref a_rentBy, .ref a_bareBy, .ref a_aheadBy, .ref a_isEdge, .ref a_tried, .ref a_stands, .ref a_found, .ref a_foundOn, .ref a_moving, .int v_movingMany, .int v_foundIncome, .int v_foundMoves])), (a_a, .inl (cI, 180, .inl v_a))]) (wr := [(a_this, .inr (6, [.ref a_a, .ref a_fresh, .ref a_kept, .int v_keptMany, .int v_thrown, .ref a_buffer, .int v_buffered, .int v_size, .int v_at, .int v_behind, .int v_kind, .int v_wrong, .int v_wrongAt, .int v_errorAt, .long v_number, .ref a_best, .ref a_rentBy, .ref a_bareBy, .ref a_aheadBy, .ref a_isEdge, .ref a_tried, .ref a_stands, .ref a_found, .ref a_foundOn, .ref a_moving, .int v_movingMany, .int v_foundIncome, .int v_foundMoves])), (a_a, .inl (cI, 180, .inl v_a))]) (As := [.long ((x2).toInt64), .long (((v_a (((107 : Int32) + x1)).toNatClampNeg)).toInt64), .long (((((v_a (((107 : Int32) + x1)).toNatClampNeg) + (v_a (((83 : Int32) + x1)).toNatClampNeg)) - (1 : Int32))).toInt64)]) (rest := []) E.1 hl hw (c_X6_isIn h_6) (va_cwS 3 hts (z_gS mw_595 mw_596 mw_597 mw_598) rfl rfl rfl (by decide +kernel) ⟨(Nat.le_of_ble_eq_true rfl), (Nat.le_of_ble_eq_true rfl)⟩) 2 [] [(0, 2)] rfl rfl rfl rfl rfl rfl (by decide +kernel) rfl rfl (Nat.le_of_ble_eq_true rfl) dX6_isOn_47 ⟨Nat.le_of_ble_eq_true rfl, Nat.le_of_ble_eq_true rfl⟩ (fun H locs hw => ?_)
    refine lv_if_eq (tgt := 57) hx hb dX6_isOn_50 (by decide) (fun hc => ?_) (fun hc => ?_)
    · have hf := oI_pos hc hf
      refine lv_iconst (v := 0) hx hb dX6_isOn_57 (by decide) ?_
      cases hf
      exact z_zret E rfl z_n0 hw dX6_isOn_58
    · have hf := oI_neg hc hf
      refine lv_iconst (v := 1) hx hb dX6_isOn_53 (by decide) ?_
      refine lv_goto (tgt := 58) hx hb dX6_isOn_54 (by decide) ?_
      cases hf
      exact z_zret E rfl z_n1 hw dX6_isOn_58
end
/-! X6_on -/
section
variable {p : Program} {l : Launch} {e : Env} {s : State} {m : MethodId} {args : Array Value} {below : List Frame} {meth : Method} {c : Code} {D : va_G} {A : Nat → Prop} {cI cZ cM : ClassId} {a_this a_a a_fresh a_kept a_buffer a_best a_rentBy a_bareBy a_aheadBy a_isEdge a_tried a_stands a_found a_foundOn a_moving : Nat} {v_keptMany : Int32} {v_thrown : Int32} {v_buffered : Int32} {v_size : Int32} {v_at : Int32} {v_behind : Int32} {v_kind : Int32} {v_wrong : Int32} {v_wrongAt : Int32} {v_errorAt : Int32} {v_number : Int64} {v_movingMany : Int32} {v_foundIncome : Int32} {v_foundMoves : Int32} {res : Int32}
def rmX6_on : Room := { frames := 2, cells := 0, slots := 0, locals := 47 }
abbrev zwX6_on : List Cond := Cond.code yX6_on cX6_on 3 (some .int) :: wsAll
set_option maxHeartbeats 4000000 in
set_option maxRecDepth 100000 in
theorem w_X6_on_2 {n : Nat} (E : zE p s m args meth c cX6_on 3 (some .int) zwX6_on RX6) : ∀ (fu : Nat), ∀ (x1 : Int32) (x2 : Int32) (v_a : Nat → Int32), f_X6_on_2 n fu x1 x2 v_a = some res → ∀ (H : Heap) (locs : List Loc) (ls : Array Slot), zW D (zT cI cZ cM) A s [(a_this, .inr (6, [.ref a_a, .ref a_fresh, .ref a_kept, .int v_keptMany, .int v_thrown, .ref a_buffer, .int v_buffered, .int v_size, .int v_at, .int v_behind, .int v_kind, .int v_wrong, .int v_wrongAt, .int v_errorAt, .long v_number, .ref a_best, .ref a_rentBy, .ref a_bareBy, .ref a_aheadBy, .ref a_isEdge, .ref a_tried, .ref a_stands, .ref a_found, .ref a_foundOn, .ref a_moving, .int v_movingMany, .int v_foundIncome, .int v_foundMoves])), (a_a, .inl (cI, 180, .inl v_a))] H locs → lv_has ls 3 [(0, .ref a_this), (1, .int x1), (2, .int x2)] → W p l e rmX6_on s m args below meth c H locs 0 0 (MQ below (zQi D (zT cI cZ cM) res [(a_this, .inr (6, [.ref a_a, .ref a_fresh, .ref a_kept, .int v_keptMany, .int v_thrown, .ref a_buffer, .int v_buffered, .int v_size, .int v_at, .int v_behind, .int v_kind, .int v_wrong, .int v_wrongAt, .int v_errorAt, .long v_number, .ref a_best, .ref a_rentBy, .ref a_bareBy, .ref a_aheadBy, .ref a_isEdge, .ref a_tried, .ref a_stands, .ref a_found, .ref a_foundOn, .ref a_moving, .int v_movingMany, .int v_foundIncome, .int v_foundMoves])), (a_a, .inl (cI, 180, .inl v_a))] A) args s 0 0 A) (F0 m 2 ls []) := by
  obtain ⟨⟨hx, hb, hml, hown, hts⟩, hr, hlocks⟩ := id E
  intro fu
  induction fu with
  | zero => intro x1 x2 v_a hf; rw [f_X6_on_2.eq_1] at hf; cases hf
  | succ fu ih =>
    intro x1 x2 v_a hf H locs ls hw hl
    rw [f_X6_on_2.eq_2] at hf
    refine lv_iload_n hx hb dX6_on_2 rfl (lv_at hl 2 rfl) ?_
    refine lv_aload_n hx hb dX6_on_3 rfl (lv_at hl 0 rfl) ?_
    refine z_get E.1 hw in_wsX60 0 rfl rfl 0 (z_lt rfl) mw_593 (v := .ref a_a) rfl dX6_on_4 ?_
    refine lv_bipush (v := 74) hx hb dX6_on_7 (by decide) ?_
    obtain ⟨h_1, hf⟩ := oA_elim hf
    refine z_iald E.1 hw 1 0 rfl rfl h_1 dX6_on_9 ?_
    refine lv_icmp_ge (tgt := 30) hx hb dX6_on_10 (by decide) (fun hc => ?_) (fun hc => ?_)
    · have hf := oI_pos hc hf
      refine lv_iconst (v := -1) hx hb dX6_on_30 (by decide) ?_
      cases hf
      exact z_iret E rfl hw dX6_on_31
    · have hf := oI_neg hc hf
      refine lv_aload_n hx hb dX6_on_13 rfl (lv_at hl 0 rfl) ?_
      refine lv_iload_n hx hb dX6_on_14 rfl (lv_at hl 2 rfl) ?_
      refine lv_iload_n hx hb dX6_on_15 rfl (lv_at hl 1 rfl) ?_
      obtain ⟨r_2, h_3, hf⟩ := oB_elim hf
      refine z_callVi (ws' := [(a_this, .inr (6, [.ref a_a, .ref a_fresh, .ref a_kept, .int v_keptMany, .int v_thrown, .ref a_buffer, .int v_buffered, .int v_size, .int v_at, .int v_behind, .int v_kind, .int v_wrong, .int v_wrongAt, .int v_errorAt, .long v_number, .ref a_best, .ref a_rentBy, .ref a_bareBy, .ref a_aheadBy, .ref a_isEdge, .ref a_tried, .ref a_stands, .ref a_found, .ref a_foundOn, .ref a_moving, .int v_movingMany, .int v_foundIncome, .int v_foundMoves])), (a_a, .inl (cI, 180, .inl v_a))]) (wr := []) (As := [.int x2, .int x1]) (rest := []) E.1 hl hw (c_X6_isOn h_3) (cwV 2 hts (z_gV mw_613 mw_614 mw_615 mw_597 mw_616) rfl rfl rfl (by decide +kernel) ⟨(Nat.le_of_ble_eq_true rfl), (Nat.le_of_ble_eq_true rfl)⟩) 2 [(0, 2)] [] rfl rfl rfl rfl rfl rfl (by decide +kernel) rfl (q0 := 0) rfl rfl rfl (Nat.le_of_ble_eq_true rfl) dX6_on_16 ⟨Nat.le_of_ble_eq_true rfl, Nat.le_of_ble_eq_true rfl⟩ (fun H locs hw => ?_)
      refine lv_if_eq (tgt := 24) hx hb dX6_on_19 (by decide) (fun hc => ?_) (fun hc => ?_)
      · have hf := oI_pos hc hf
        refine lv_iinc (v := (x2 + (1 : Int32))) (lv' := [(2, .int (x2 + (1 : Int32))), (0, .ref a_this), (1, .int x1)]) hx hb dX6_on_24 hl (k := 2) rfl rfl (z_lt rfl) rfl (fun ls hl => ?_)
        refine lv_goto (tgt := 2) hx hb dX6_on_27 (by decide) ?_
        exact ih _ _ _ hf _ _ _ hw (lv_sub hl [1, 2, 0] rfl)
      · have hf := oI_neg hc hf
        refine lv_iload_n hx hb dX6_on_22 rfl (lv_at hl 2 rfl) ?_
        cases hf
        exact z_iret E rfl hw dX6_on_23
set_option maxHeartbeats 4000000 in
set_option maxRecDepth 100000 in
theorem c_X6_on {l : Launch} {D : va_G} {cI cZ cM : ClassId} {a_this a_a a_fresh a_kept a_buffer a_best a_rentBy a_bareBy a_aheadBy a_isEdge a_tried a_stands a_found a_foundOn a_moving : Nat} {v_keptMany : Int32} {v_thrown : Int32} {v_buffered : Int32} {v_size : Int32} {v_at : Int32} {v_behind : Int32} {v_kind : Int32} {v_wrong : Int32} {v_wrongAt : Int32} {v_errorAt : Int32} {v_number : Int64} {v_movingMany : Int32} {v_foundIncome : Int32} {v_foundMoves : Int32} {res : Int32} {sz : Nat} {n : Nat} {v_a : Nat → Int32} {x1 : Int32} (hf : f_X6_on n v_a x1 = some res) : Met l yX6_on zwX6_on rmX6_on (zPc D (zT cI cZ cM) [.ref a_this, .int x1] [(a_this, .inr (6, [.ref a_a, .ref a_fresh, .ref a_kept, .int v_keptMany, .int v_thrown, .ref a_buffer, .int v_buffered, .int v_size, .int v_at, .int v_behind, .int v_kind, .int v_wrong, .int v_wrongAt, .int v_errorAt, .long v_number, .ref a_best, .ref a_rentBy, .ref a_bareBy, .ref a_aheadBy, .ref a_isEdge, .ref a_tried, .ref a_stands, .ref a_found, .ref a_foundOn, .ref a_moving, .int v_movingMany, .int v_foundIncome, .int v_foundMoves])), (a_a, .inl (cI, 180, .inl v_a))] sz) (zQi D (zT cI cZ cM) res [(a_this, .inr (6, [.ref a_a, .ref a_fresh, .ref a_kept, .int v_keptMany, .int v_thrown, .ref a_buffer, .int v_buffered, .int v_size, .int v_at, .int v_behind, .int v_kind, .int v_wrong, .int v_wrongAt, .int v_errorAt, .long v_number, .ref a_best, .ref a_rentBy, .ref a_bareBy, .ref a_aheadBy, .ref a_isEdge, .ref a_tried, .ref a_stands, .ref a_found, .ref a_foundOn, .ref a_moving, .int v_movingMany, .int v_foundIncome, .int v_foundMoves])), (a_a, .inl (cI, 180, .inl v_a))] (va_A [(a_this, .inr (6, [.ref a_a, .ref a_fresh, .ref a_kept, .int v_keptMany, .int v_thrown, .ref a_buffer, .int v_buffered, .int v_size, .int v_at, .int v_behind, .int v_kind, .int v_wrong, .int v_wrongAt, .int v_errorAt, .long v_number, .ref a_best, .ref a_rentBy, .ref a_bareBy, .ref a_aheadBy, .ref a_isEdge, .ref a_tried, .ref a_stands, .ref a_found, .ref a_foundOn, .ref a_moving, .int v_movingMany, .int v_foundIncome, .int v_foundMoves])), (a_a, .inl (cI, 180, .inl v_a))] sz)) 0 0 (va_A [(a_this, .inr (6, [.ref a_a, .ref a_fresh, .ref a_kept, .int v_keptMany, .int v_thrown, .ref a_buffer, .int v_buffered, .int v_size, .int v_at, .int v_behind, .int v_kind, .int v_wrong, .int v_wrongAt, .int v_errorAt, .long v_number, .ref a_best, .ref a_rentBy, .ref a_bareBy, .ref a_aheadBy, .ref a_isEdge, .ref a_tried, .ref a_stands, .ref a_found, .ref a_foundOn, .ref a_moving, .int v_movingMany, .int v_foundIncome, .int v_foundMoves])), (a_a, .inl (cI, 180, .inl v_a))] sz) := by
  refine z_met (cc := cX6_on) (maxL := 3) (ret := (some .int)) (by decide) rfl (Nat.le_of_ble_eq_true rfl) ?_
  intro p e s m below meth c ls E hsz hw hl
  obtain ⟨⟨hx, hb, hml, hown, hts⟩, hr, hlocks⟩ := id E
  have hl : lv_has ls 3 [(0, .ref a_this), (1, .int x1)] := hl
  unfold f_X6_on at hf
  refine lv_iconst (v := 0) hx hb dX6_on_0 (by decide) ?_
  refine lv_istore_n (lv' := [(2, .int (0 : Int32)), (0, .ref a_this), (1, .int x1)]) hx hb dX6_on_1 rfl hl (z_lt rfl) rfl (fun ls hl => ?_)
  exact w_X6_on_2 E  n _ _ _ hf _ _ _ hw (lv_sub hl [1, 2, 0] rfl)
end
/-! X6_areBeside -/
section
variable {p : Program} {l : Launch} {e : Env} {s : State} {m : MethodId} {args : Array Value} {below : List Frame} {meth : Method} {c : Code} {D : va_G} {A : Nat → Prop} {cI cZ cM : ClassId} {a_this a_a a_fresh a_kept a_buffer a_best a_rentBy a_bareBy a_aheadBy a_isEdge a_tried a_stands a_found a_foundOn a_moving : Nat} {v_keptMany : Int32} {v_thrown : Int32} {v_buffered : Int32} {v_size : Int32} {v_at : Int32} {v_behind : Int32} {v_kind : Int32} {v_wrong : Int32} {v_wrongAt : Int32} {v_errorAt : Int32} {v_number : Int64} {v_movingMany : Int32} {v_foundIncome : Int32} {v_foundMoves : Int32} {res : Int32}
def rmX6_areBeside : Room := { frames := 3, cells := 0, slots := 0, locals := 69 }
abbrev zwX6_areBeside : List Cond := Cond.code yX6_areBeside cX6_areBeside 6 (some .boolean) :: wsAll
set_option maxHeartbeats 4000000 in
set_option maxRecDepth 100000 in
theorem w_X6_areBeside_133 {n : Nat} (E : zE p s m args meth c cX6_areBeside 6 (some .boolean) zwX6_areBeside RX6) {k2 : Int32 → Int32 → Int32 → (Nat → Int32) → Option (Int32)} (hk2 : ∀ (x1 : Int32) (x2 : Int32) (x3 : Int32) (v_a : Nat → Int32), k2 x1 x2 x3 v_a = some res → ∀ (H : Heap) (locs : List Loc) (ls : Array Slot), zW D (zT cI cZ cM) A s [(a_this, .inr (6, [.ref a_a, .ref a_fresh, .ref a_kept, .int v_keptMany, .int v_thrown, .ref a_buffer, .int v_buffered, .int v_size, .int v_at, .int v_behind, .int v_kind, .int v_wrong, .int v_wrongAt, .int v_errorAt, .long v_number, .ref a_best, .ref a_rentBy, .ref a_bareBy, .ref a_aheadBy, .ref a_isEdge, .ref a_tried, .ref a_stands, .ref a_found, .ref a_foundOn, .ref a_moving, .int v_movingMany, .int v_foundIncome, .int v_foundMoves])), (a_a, .inl (cI, 180, .inl v_a))] H locs → lv_has ls 6 [(0, .ref a_this), (1, .int x1), (2, .int x2), (3, .int x3)] → W p l e rmX6_areBeside s m args below meth c H locs 0 0 (MQ below (zQi D (zT cI cZ cM) res [(a_this, .inr (6, [.ref a_a, .ref a_fresh, .ref a_kept, .int v_keptMany, .int v_thrown, .ref a_buffer, .int v_buffered, .int v_size, .int v_at, .int v_behind, .int v_kind, .int v_wrong, .int v_wrongAt, .int v_errorAt, .long v_number, .ref a_best, .ref a_rentBy, .ref a_bareBy, .ref a_aheadBy, .ref a_isEdge, .ref a_tried, .ref a_stands, .ref a_found, .ref a_foundOn, .ref a_moving, .int v_movingMany, .int v_foundIncome, .int v_foundMoves])), (a_a, .inl (cI, 180, .inl v_a))] A) args s 0 0 A) (F0 m 2 ls [])) : ∀ (x1 : Int32) (x2 : Int32) (x3 : Int32) (v_a : Nat → Int32), f_X6_areBeside_133 n k2 x1 x2 x3 v_a = some res → ∀ (H : Heap) (locs : List Loc) (ls : Array Slot), zW D (zT cI cZ cM) A s [(a_this, .inr (6, [.ref a_a, .ref a_fresh, .ref a_kept, .int v_keptMany, .int v_thrown, .ref a_buffer, .int v_buffered, .int v_size, .int v_at, .int v_behind, .int v_kind, .int v_wrong, .int v_wrongAt, .int v_errorAt, .long v_number, .ref a_best, .ref a_rentBy, .ref a_bareBy, .ref a_aheadBy, .ref a_isEdge, .ref a_tried, .ref a_stands, .ref a_found, .ref a_foundOn, .ref a_moving, .int v_movingMany, .int v_foundIncome, .int v_foundMoves])), (a_a, .inl (cI, 180, .inl v_a))] H locs → lv_has ls 6 [(0, .ref a_this), (1, .int x1), (2, .int x2), (3, .int x3)] → W p l e rmX6_areBeside s m args below meth c H locs 0 0 (MQ below (zQi D (zT cI cZ cM) res [(a_this, .inr (6, [.ref a_a, .ref a_fresh, .ref a_kept, .int v_keptMany, .int v_thrown, .ref a_buffer, .int v_buffered, .int v_size, .int v_at, .int v_behind, .int v_kind, .int v_wrong, .int v_wrongAt, .int v_errorAt, .long v_number, .ref a_best, .ref a_rentBy, .ref a_bareBy, .ref a_aheadBy, .ref a_isEdge, .ref a_tried, .ref a_stands, .ref a_found, .ref a_foundOn, .ref a_moving, .int v_movingMany, .int v_foundIncome, .int v_foundMoves])), (a_a, .inl (cI, 180, .inl v_a))] A) args s 0 0 A) (F0 m 133 ls []) := by
  obtain ⟨⟨hx, hb, hml, hown, hts⟩, hr, hlocks⟩ := id E
  intro x1 x2 x3 v_a hf H locs ls hw hl
  unfold f_X6_areBeside_133 at hf
  refine lv_iinc (v := (x3 + (1 : Int32))) (lv' := [(3, .int (x3 + (1 : Int32))), (0, .ref a_this), (1, .int x1), (2, .int x2)]) hx hb dX6_areBeside_133 hl (k := 3) rfl rfl (z_lt rfl) rfl (fun ls hl => ?_)
  refine lv_goto (tgt := 2) hx hb dX6_areBeside_136 (by decide) ?_
  exact hk2 _ _ _ _ hf _ _ _ hw (lv_sub hl [1, 2, 3, 0] rfl)
set_option maxHeartbeats 4000000 in
set_option maxRecDepth 100000 in
theorem w_X6_areBeside_103 {n : Nat} (E : zE p s m args meth c cX6_areBeside 6 (some .boolean) zwX6_areBeside RX6) {k2 : Int32 → Int32 → Int32 → (Nat → Int32) → Option (Int32)} (hk2 : ∀ (x1 : Int32) (x2 : Int32) (x3 : Int32) (v_a : Nat → Int32), k2 x1 x2 x3 v_a = some res → ∀ (H : Heap) (locs : List Loc) (ls : Array Slot), zW D (zT cI cZ cM) A s [(a_this, .inr (6, [.ref a_a, .ref a_fresh, .ref a_kept, .int v_keptMany, .int v_thrown, .ref a_buffer, .int v_buffered, .int v_size, .int v_at, .int v_behind, .int v_kind, .int v_wrong, .int v_wrongAt, .int v_errorAt, .long v_number, .ref a_best, .ref a_rentBy, .ref a_bareBy, .ref a_aheadBy, .ref a_isEdge, .ref a_tried, .ref a_stands, .ref a_found, .ref a_foundOn, .ref a_moving, .int v_movingMany, .int v_foundIncome, .int v_foundMoves])), (a_a, .inl (cI, 180, .inl v_a))] H locs → lv_has ls 6 [(0, .ref a_this), (1, .int x1), (2, .int x2), (3, .int x3)] → W p l e rmX6_areBeside s m args below meth c H locs 0 0 (MQ below (zQi D (zT cI cZ cM) res [(a_this, .inr (6, [.ref a_a, .ref a_fresh, .ref a_kept, .int v_keptMany, .int v_thrown, .ref a_buffer, .int v_buffered, .int v_size, .int v_at, .int v_behind, .int v_kind, .int v_wrong, .int v_wrongAt, .int v_errorAt, .long v_number, .ref a_best, .ref a_rentBy, .ref a_bareBy, .ref a_aheadBy, .ref a_isEdge, .ref a_tried, .ref a_stands, .ref a_found, .ref a_foundOn, .ref a_moving, .int v_movingMany, .int v_foundIncome, .int v_foundMoves])), (a_a, .inl (cI, 180, .inl v_a))] A) args s 0 0 A) (F0 m 2 ls [])) : ∀ (x1 : Int32) (x2 : Int32) (x3 : Int32) (x4 : Int32) (x5 : Int32) (v_a : Nat → Int32), f_X6_areBeside_103 n k2 x1 x2 x3 x4 x5 v_a = some res → ∀ (H : Heap) (locs : List Loc) (ls : Array Slot), zW D (zT cI cZ cM) A s [(a_this, .inr (6, [.ref a_a, .ref a_fresh, .ref a_kept, .int v_keptMany, .int v_thrown, .ref a_buffer, .int v_buffered, .int v_size, .int v_at, .int v_behind, .int v_kind, .int v_wrong, .int v_wrongAt, .int v_errorAt, .long v_number, .ref a_best, .ref a_rentBy, .ref a_bareBy, .ref a_aheadBy, .ref a_isEdge, .ref a_tried, .ref a_stands, .ref a_found, .ref a_foundOn, .ref a_moving, .int v_movingMany, .int v_foundIncome, .int v_foundMoves])), (a_a, .inl (cI, 180, .inl v_a))] H locs → lv_has ls 6 [(0, .ref a_this), (1, .int x1), (2, .int x2), (3, .int x3), (4, .int x4), (5, .int x5)] → W p l e rmX6_areBeside s m args below meth c H locs 0 0 (MQ below (zQi D (zT cI cZ cM) res [(a_this, .inr (6, [.ref a_a, .ref a_fresh, .ref a_kept, .int v_keptMany, .int v_thrown, .ref a_buffer, .int v_buffered, .int v_size, .int v_at, .int v_behind, .int v_kind, .int v_wrong, .int v_wrongAt, .int v_errorAt, .long v_number, .ref a_best, .ref a_rentBy, .ref a_bareBy, .ref a_aheadBy, .ref a_isEdge, .ref a_tried, .ref a_stands, .ref a_found, .ref a_foundOn, .ref a_moving, .int v_movingMany, .int v_foundIncome, .int v_foundMoves])), (a_a, .inl (cI, 180, .inl v_a))] A) args s 0 0 A) (F0 m 103 ls []) := by
  obtain ⟨⟨hx, hb, hml, hown, hts⟩, hr, hlocks⟩ := id E
  intro x1 x2 x3 x4 x5 v_a hf H locs ls hw hl
  unfold f_X6_areBeside_103 at hf
  refine lv_aload_n hx hb dX6_areBeside_103 rfl (lv_at hl 0 rfl) ?_
  refine z_get E.1 hw in_wsX60 0 rfl rfl 0 (z_lt rfl) mw_593 (v := .ref a_a) rfl dX6_areBeside_104 ?_
  refine lv_bipush (v := 75) hx hb dX6_areBeside_107 (by decide) ?_
  refine lv_iload hx hb dX6_areBeside_109 (lv_at hl 4 rfl) ?_
  refine lv_iadd hx hb dX6_areBeside_111 ?_
  obtain ⟨h_1, hf⟩ := oA_elim hf
  refine z_iald E.1 hw 1 0 rfl rfl h_1 dX6_areBeside_112 ?_
  refine lv_iload_n hx hb dX6_areBeside_113 rfl (lv_at hl 2 rfl) ?_
  refine lv_icmp_ne (tgt := 133) hx hb dX6_areBeside_114 (by decide) (fun hc => ?_) (fun hc => ?_)
  · have hf := oI_neg hc hf
    exact w_X6_areBeside_133 E hk2 _ _ _ _ hf _ _ _ hw (lv_sub hl [0, 1, 2, 3] rfl)
  · have hf := oI_pos hc hf
    refine lv_aload_n hx hb dX6_areBeside_117 rfl (lv_at hl 0 rfl) ?_
    refine z_get E.1 hw in_wsX60 0 rfl rfl 0 (z_lt rfl) mw_593 (v := .ref a_a) rfl dX6_areBeside_118 ?_
    refine lv_bipush (v := 75) hx hb dX6_areBeside_121 (by decide) ?_
    refine lv_iload hx hb dX6_areBeside_123 (lv_at hl 5 rfl) ?_
    refine lv_iadd hx hb dX6_areBeside_125 ?_
    obtain ⟨h_2, hf⟩ := oA_elim hf
    refine z_iald E.1 hw 1 0 rfl rfl h_2 dX6_areBeside_126 ?_
    refine lv_iload_n hx hb dX6_areBeside_127 rfl (lv_at hl 1 rfl) ?_
    refine lv_icmp_ne (tgt := 133) hx hb dX6_areBeside_128 (by decide) (fun hc => ?_) (fun hc => ?_)
    · have hf := oI_neg hc hf
      exact w_X6_areBeside_133 E hk2 _ _ _ _ hf _ _ _ hw (lv_sub hl [0, 1, 2, 3] rfl)
    · have hf := oI_pos hc hf
      refine lv_iconst (v := 1) hx hb dX6_areBeside_131 (by decide) ?_
      cases hf
      exact z_zret E rfl z_n1 hw dX6_areBeside_132
set_option maxHeartbeats 4000000 in
set_option maxRecDepth 100000 in
theorem w_X6_areBeside_2 {n : Nat} (E : zE p s m args meth c cX6_areBeside 6 (some .boolean) zwX6_areBeside RX6) : ∀ (fu : Nat), ∀ (x1 : Int32) (x2 : Int32) (x3 : Int32) (v_a : Nat → Int32), f_X6_areBeside_2 n fu x1 x2 x3 v_a = some res → ∀ (H : Heap) (locs : List Loc) (ls : Array Slot), zW D (zT cI cZ cM) A s [(a_this, .inr (6, [.ref a_a, .ref a_fresh, .ref a_kept, .int v_keptMany, .int v_thrown, .ref a_buffer, .int v_buffered, .int v_size, .int v_at, .int v_behind, .int v_kind, .int v_wrong, .int v_wrongAt, .int v_errorAt, .long v_number, .ref a_best, .ref a_rentBy, .ref a_bareBy, .ref a_aheadBy, .ref a_isEdge, .ref a_tried, .ref a_stands, .ref a_found, .ref a_foundOn, .ref a_moving, .int v_movingMany, .int v_foundIncome, .int v_foundMoves])), (a_a, .inl (cI, 180, .inl v_a))] H locs → lv_has ls 6 [(0, .ref a_this), (1, .int x1), (2, .int x2), (3, .int x3)] → W p l e rmX6_areBeside s m args below meth c H locs 0 0 (MQ below (zQi D (zT cI cZ cM) res [(a_this, .inr (6, [.ref a_a, .ref a_fresh, .ref a_kept, .int v_keptMany, .int v_thrown, .ref a_buffer, .int v_buffered, .int v_size, .int v_at, .int v_behind, .int v_kind, .int v_wrong, .int v_wrongAt, .int v_errorAt, .long v_number, .ref a_best, .ref a_rentBy, .ref a_bareBy, .ref a_aheadBy, .ref a_isEdge, .ref a_tried, .ref a_stands, .ref a_found, .ref a_foundOn, .ref a_moving, .int v_movingMany, .int v_foundIncome, .int v_foundMoves])), (a_a, .inl (cI, 180, .inl v_a))] A) args s 0 0 A) (F0 m 2 ls []) := by
  obtain ⟨⟨hx, hb, hml, hown, hts⟩, hr, hlocks⟩ := id E
  intro fu
  induction fu with
  | zero => intro x1 x2 x3 v_a hf; rw [f_X6_areBeside_2.eq_1] at hf; cases hf
  | succ fu ih =>
    intro x1 x2 x3 v_a hf H locs ls hw hl
    rw [f_X6_areBeside_2.eq_2] at hf
    refine lv_iload_n hx hb dX6_areBeside_2 rfl (lv_at hl 3 rfl) ?_
    refine lv_iconst (v := 1) hx hb dX6_areBeside_3 (by decide) ?_
    refine lv_iadd hx hb dX6_areBeside_4 ?_
    refine lv_aload_n hx hb dX6_areBeside_5 rfl (lv_at hl 0 rfl) ?_
    refine z_get E.1 hw in_wsX60 0 rfl rfl 0 (z_lt rfl) mw_593 (v := .ref a_a) rfl dX6_areBeside_6 ?_
    refine lv_iconst (v := 1) hx hb dX6_areBeside_9 (by decide) ?_
    obtain ⟨h_3, hf⟩ := oA_elim hf
    refine z_iald E.1 hw 1 0 rfl rfl h_3 dX6_areBeside_10 ?_
    refine lv_icmp_ge (tgt := 139) hx hb dX6_areBeside_11 (by decide) (fun hc => ?_) (fun hc => ?_)
    · have hf := oI_pos hc hf
      refine lv_iconst (v := 0) hx hb dX6_areBeside_139 (by decide) ?_
      cases hf
      exact z_zret E rfl z_n0 hw dX6_areBeside_140
    · have hf := oI_neg hc hf
      refine lv_aload_n hx hb dX6_areBeside_14 rfl (lv_at hl 0 rfl) ?_
      refine lv_iload_n hx hb dX6_areBeside_15 rfl (lv_at hl 3 rfl) ?_
      obtain ⟨r_4, h_5, hf⟩ := oB_elim hf
      refine z_callVi (ws' := [(a_this, .inr (6, [.ref a_a, .ref a_fresh, .ref a_kept, .int v_keptMany, .int v_thrown, .ref a_buffer, .int v_buffered, .int v_size, .int v_at, .int v_behind, .int v_kind, .int v_wrong, .int v_wrongAt, .int v_errorAt, .long v_number, .ref a_best, .ref a_rentBy, .ref a_bareBy, .ref a_aheadBy, .ref a_isEdge, .ref a_tried, .ref a_stands, .ref a_found, .ref a_foundOn, .ref a_moving, .int v_movingMany, .int v_foundIncome, .int v_foundMoves])), (a_a, .inl (cI, 180, .inl v_a))]) (wr := []) (As := [.int x3]) (rest := []) E.1 hl hw (c_X6_on h_5) (cwV 1 hts (z_gV mw_609 mw_610 mw_611 mw_597 mw_612) rfl rfl rfl (by decide +kernel) ⟨(Nat.le_of_ble_eq_true rfl), (Nat.le_of_ble_eq_true rfl)⟩) 2 [(0, 2)] [] rfl rfl rfl rfl rfl rfl (by decide +kernel) rfl (q0 := 0) rfl rfl rfl (Nat.le_of_ble_eq_true rfl) dX6_areBeside_16 ⟨Nat.le_of_ble_eq_true rfl, Nat.le_of_ble_eq_true rfl⟩ (fun H locs hw => ?_)
      refine lv_istore (lv' := [(4, .int r_4), (0, .ref a_this), (1, .int x1), (2, .int x2), (3, .int x3)]) hx hb dX6_areBeside_19 hl (z_lt rfl) rfl (fun ls hl => ?_)
      refine lv_aload_n hx hb dX6_areBeside_21 rfl (lv_at hl 1 rfl) ?_
      refine lv_iload_n hx hb dX6_areBeside_22 rfl (lv_at hl 4 rfl) ?_
      refine lv_iconst (v := 1) hx hb dX6_areBeside_23 (by decide) ?_
      refine lv_iadd hx hb dX6_areBeside_24 ?_
      obtain ⟨r_6, h_7, hf⟩ := oB_elim hf
      refine z_callVi (ws' := [(a_this, .inr (6, [.ref a_a, .ref a_fresh, .ref a_kept, .int v_keptMany, .int v_thrown, .ref a_buffer, .int v_buffered, .int v_size, .int v_at, .int v_behind, .int v_kind, .int v_wrong, .int v_wrongAt, .int v_errorAt, .long v_number, .ref a_best, .ref a_rentBy, .ref a_bareBy, .ref a_aheadBy, .ref a_isEdge, .ref a_tried, .ref a_stands, .ref a_found, .ref a_foundOn, .ref a_moving, .int v_movingMany, .int v_foundIncome, .int v_foundMoves])), (a_a, .inl (cI, 180, .inl v_a))]) (wr := []) (As := [.int (x3 + (1 : Int32))]) (rest := []) E.1 hl hw (c_X6_on h_7) (cwV 1 hts (z_gV mw_609 mw_610 mw_611 mw_597 mw_612) rfl rfl rfl (by decide +kernel) ⟨(Nat.le_of_ble_eq_true rfl), (Nat.le_of_ble_eq_true rfl)⟩) 2 [(0, 2)] [] rfl rfl rfl rfl rfl rfl (by decide +kernel) rfl (q0 := 0) rfl rfl rfl (Nat.le_of_ble_eq_true rfl) dX6_areBeside_25 ⟨Nat.le_of_ble_eq_true rfl, Nat.le_of_ble_eq_true rfl⟩ (fun H locs hw => ?_)
      refine lv_istore (lv' := [(5, .int r_6), (4, .int r_4), (0, .ref a_this), (1, .int x1), (2, .int x2), (3, .int x3)]) hx hb dX6_areBeside_28 hl (z_lt rfl) rfl (fun ls hl => ?_)
      refine lv_aload_n hx hb dX6_areBeside_30 rfl (lv_at hl 2 rfl) ?_
      refine z_get E.1 hw in_wsX60 0 rfl rfl 0 (z_lt rfl) mw_593 (v := .ref a_a) rfl dX6_areBeside_31 ?_
      refine lv_bipush (v := 50) hx hb dX6_areBeside_34 (by decide) ?_
      refine lv_iload_n hx hb dX6_areBeside_36 rfl (lv_at hl 5 rfl) ?_
      refine lv_iadd hx hb dX6_areBeside_37 ?_
      obtain ⟨h_8, hf⟩ := oA_elim hf
      refine z_iald E.1 hw 1 0 rfl rfl h_8 dX6_areBeside_38 ?_
      refine lv_aload_n hx hb dX6_areBeside_39 rfl (lv_at hl 2 rfl) ?_
      refine z_get E.1 hw in_wsX60 0 rfl rfl 0 (z_lt rfl) mw_593 (v := .ref a_a) rfl dX6_areBeside_40 ?_
      refine lv_bipush (v := 50) hx hb dX6_areBeside_43 (by decide) ?_
      refine lv_iload_n hx hb dX6_areBeside_45 rfl (lv_at hl 5 rfl) ?_
      refine lv_iadd hx hb dX6_areBeside_46 ?_
      refine lv_iconst (v := 1) hx hb dX6_areBeside_47 (by decide) ?_
      refine lv_iadd hx hb dX6_areBeside_48 ?_
      obtain ⟨h_9, hf⟩ := oA_elim hf
      refine z_iald E.1 hw 1 0 rfl rfl h_9 dX6_areBeside_49 ?_
      refine lv_icmp_ne (tgt := 133) hx hb dX6_areBeside_50 (by decide) (fun hc => ?_) (fun hc => ?_)
      · have hf := oI_neg hc hf
        exact w_X6_areBeside_133 E ih _ _ _ _ hf _ _ _ hw (lv_sub hl [2, 3, 4, 5] rfl)
      · have hf := oI_pos hc hf
        refine lv_iload hx hb dX6_areBeside_53 (lv_at hl 1 rfl) ?_
        refine lv_iconst (v := -1) hx hb dX6_areBeside_55 (by decide) ?_
        refine lv_icmp_eq (tgt := 133) hx hb dX6_areBeside_56 (by decide) (fun hc => ?_) (fun hc => ?_)
        · have hf := oI_pos hc hf
          exact w_X6_areBeside_133 E ih _ _ _ _ hf _ _ _ hw (lv_sub hl [2, 3, 4, 5] rfl)
        · have hf := oI_neg hc hf
          refine lv_iload hx hb dX6_areBeside_59 (lv_at hl 0 rfl) ?_
          refine lv_iconst (v := -1) hx hb dX6_areBeside_61 (by decide) ?_
          refine lv_icmp_eq (tgt := 133) hx hb dX6_areBeside_62 (by decide) (fun hc => ?_) (fun hc => ?_)
          · have hf := oI_pos hc hf
            exact w_X6_areBeside_133 E ih _ _ _ _ hf _ _ _ hw (lv_sub hl [2, 3, 4, 5] rfl)
          · have hf := oI_neg hc hf
            refine lv_iload hx hb dX6_areBeside_65 (lv_at hl 1 rfl) ?_
            refine lv_iload hx hb dX6_areBeside_67 (lv_at hl 0 rfl) ?_
            refine lv_icmp_ne (tgt := 75) hx hb dX6_areBeside_69 (by decide) (fun hc => ?_) (fun hc => ?_)
            · have hf := oI_neg hc hf
              refine lv_aload_n hx hb dX6_areBeside_75 rfl (lv_at hl 2 rfl) ?_
              refine z_get E.1 hw in_wsX60 0 rfl rfl 0 (z_lt rfl) mw_593 (v := .ref a_a) rfl dX6_areBeside_76 ?_
              refine lv_bipush (v := 75) hx hb dX6_areBeside_79 (by decide) ?_
              refine lv_iload hx hb dX6_areBeside_81 (lv_at hl 1 rfl) ?_
              refine lv_iadd hx hb dX6_areBeside_83 ?_
              obtain ⟨h_10, hf⟩ := oA_elim hf
              refine z_iald E.1 hw 1 0 rfl rfl h_10 dX6_areBeside_84 ?_
              refine lv_iload_n hx hb dX6_areBeside_85 rfl (lv_at hl 3 rfl) ?_
              refine lv_icmp_ne (tgt := 103) hx hb dX6_areBeside_86 (by decide) (fun hc => ?_) (fun hc => ?_)
              · have hf := oI_neg hc hf
                exact w_X6_areBeside_103 E ih _ _ _ _ _ _ hf _ _ _ hw (lv_sub hl [2, 3, 4, 5, 1, 0] rfl)
              · have hf := oI_pos hc hf
                refine lv_aload_n hx hb dX6_areBeside_89 rfl (lv_at hl 2 rfl) ?_
                refine z_get E.1 hw in_wsX60 0 rfl rfl 0 (z_lt rfl) mw_593 (v := .ref a_a) rfl dX6_areBeside_90 ?_
                refine lv_bipush (v := 75) hx hb dX6_areBeside_93 (by decide) ?_
                refine lv_iload hx hb dX6_areBeside_95 (lv_at hl 0 rfl) ?_
                refine lv_iadd hx hb dX6_areBeside_97 ?_
                obtain ⟨h_11, hf⟩ := oA_elim hf
                refine z_iald E.1 hw 1 0 rfl rfl h_11 dX6_areBeside_98 ?_
                refine lv_iload_n hx hb dX6_areBeside_99 rfl (lv_at hl 4 rfl) ?_
                refine lv_icmp_eq (tgt := 131) hx hb dX6_areBeside_100 (by decide) (fun hc => ?_) (fun hc => ?_)
                · have hf := oI_pos hc hf
                  refine lv_iconst (v := 1) hx hb dX6_areBeside_131 (by decide) ?_
                  cases hf
                  exact z_zret E rfl z_n1 hw dX6_areBeside_132
                · have hf := oI_neg hc hf
                  exact w_X6_areBeside_103 E ih _ _ _ _ _ _ hf _ _ _ hw (lv_sub hl [2, 3, 4, 5, 1, 0] rfl)
            · have hf := oI_pos hc hf
              refine lv_goto (tgt := 133) hx hb dX6_areBeside_72 (by decide) ?_
              exact w_X6_areBeside_133 E ih _ _ _ _ hf _ _ _ hw (lv_sub hl [2, 3, 4, 5] rfl)
set_option maxHeartbeats 4000000 in
set_option maxRecDepth 100000 in
theorem c_X6_areBeside {l : Launch} {D : va_G} {cI cZ cM : ClassId} {a_this a_a a_fresh a_kept a_buffer a_best a_rentBy a_bareBy a_aheadBy a_isEdge a_tried a_stands a_found a_foundOn a_moving : Nat} {v_keptMany : Int32} {v_thrown : Int32} {v_buffered : Int32} {v_size : Int32} {v_at : Int32} {v_behind : Int32} {v_kind : Int32} {v_wrong : Int32} {v_wrongAt : Int32} {v_errorAt : Int32} {v_number : Int64} {v_movingMany : Int32} {v_foundIncome : Int32} {v_foundMoves : Int32} {res : Int32} {sz : Nat} {n : Nat} {v_a : Nat → Int32} {x1 : Int32} {x2 : Int32} (hf : f_X6_areBeside n v_a x1 x2 = some res) : Met l yX6_areBeside zwX6_areBeside rmX6_areBeside (zPc D (zT cI cZ cM) [.ref a_this, .int x1, .int x2] [(a_this, .inr (6, [.ref a_a, .ref a_fresh, .ref a_kept, .int v_keptMany, .int v_thrown, .ref a_buffer, .int v_buffered, .int v_size, .int v_at, .int v_behind, .int v_kind, .int v_wrong, .int v_wrongAt, .int v_errorAt, .long v_number, .ref a_best, .ref a_rentBy, .ref a_bareBy, .ref a_aheadBy, .ref a_isEdge, .ref a_tried, .ref a_stands, .ref a_found, .ref a_foundOn, .ref a_moving, .int v_movingMany, .int v_foundIncome, .int v_foundMoves])), (a_a, .inl (cI, 180, .inl v_a))] sz) (zQi D (zT cI cZ cM) res [(a_this, .inr (6, [.ref a_a, .ref a_fresh, .ref a_kept, .int v_keptMany, .int v_thrown, .ref a_buffer, .int v_buffered, .int v_size, .int v_at, .int v_behind, .int v_kind, .int v_wrong, .int v_wrongAt, .int v_errorAt, .long v_number, .ref a_best, .ref a_rentBy, .ref a_bareBy, .ref a_aheadBy, .ref a_isEdge, .ref a_tried, .ref a_stands, .ref a_found, .ref a_foundOn, .ref a_moving, .int v_movingMany, .int v_foundIncome, .int v_foundMoves])), (a_a, .inl (cI, 180, .inl v_a))] (va_A [(a_this, .inr (6, [.ref a_a, .ref a_fresh, .ref a_kept, .int v_keptMany, .int v_thrown, .ref a_buffer, .int v_buffered, .int v_size, .int v_at, .int v_behind, .int v_kind, .int v_wrong, .int v_wrongAt, .int v_errorAt, .long v_number, .ref a_best, .ref a_rentBy, .ref a_bareBy, .ref a_aheadBy, .ref a_isEdge, .ref a_tried, .ref a_stands, .ref a_found, .ref a_foundOn, .ref a_moving, .int v_movingMany, .int v_foundIncome, .int v_foundMoves])), (a_a, .inl (cI, 180, .inl v_a))] sz)) 0 0 (va_A [(a_this, .inr (6, [.ref a_a, .ref a_fresh, .ref a_kept, .int v_keptMany, .int v_thrown, .ref a_buffer, .int v_buffered, .int v_size, .int v_at, .int v_behind, .int v_kind, .int v_wrong, .int v_wrongAt, .int v_errorAt, .long v_number, .ref a_best, .ref a_rentBy, .ref a_bareBy, .ref a_aheadBy, .ref a_isEdge, .ref a_tried, .ref a_stands, .ref a_found, .ref a_foundOn, .ref a_moving, .int v_movingMany, .int v_foundIncome, .int v_foundMoves])), (a_a, .inl (cI, 180, .inl v_a))] sz) := by
  refine z_met (cc := cX6_areBeside) (maxL := 6) (ret := (some .boolean)) (by decide) rfl (Nat.le_of_ble_eq_true rfl) ?_
  intro p e s m below meth c ls E hsz hw hl
  obtain ⟨⟨hx, hb, hml, hown, hts⟩, hr, hlocks⟩ := id E
  have hl : lv_has ls 6 [(0, .ref a_this), (1, .int x1), (2, .int x2)] := hl
  unfold f_X6_areBeside at hf
  refine lv_iconst (v := 0) hx hb dX6_areBeside_0 (by decide) ?_
  refine lv_istore_n (lv' := [(3, .int (0 : Int32)), (0, .ref a_this), (1, .int x1), (2, .int x2)]) hx hb dX6_areBeside_1 rfl hl (z_lt rfl) rfl (fun ls hl => ?_)
  exact w_X6_areBeside_2 E  n _ _ _ _ hf _ _ _ hw (lv_sub hl [1, 2, 3, 0] rfl)
end
/-! X6_areTrades -/
section
variable {p : Program} {l : Launch} {e : Env} {s : State} {m : MethodId} {args : Array Value} {below : List Frame} {meth : Method} {c : Code} {D : va_G} {A : Nat → Prop} {cI cZ cM : ClassId} {res : Int32}
def rmX6_areTrades : Room := { frames := 1, cells := 0, slots := 0, locals := 25 }
abbrev zwX6_areTrades : List Cond := Cond.code yX6_areTrades cX6_areTrades 2 (some .boolean) :: wsAll
set_option maxHeartbeats 4000000 in
set_option maxRecDepth 100000 in
theorem c_X6_areTrades {l : Launch} {D : va_G} {cI cZ cM : ClassId} {res : Int32} {sz : Nat} {x0 : Int32} {x1 : Int32} (hf : f_X6_areTrades x0 x1 = some res) : Met l yX6_areTrades zwX6_areTrades rmX6_areTrades (zPc D (zT cI cZ cM) [.int x0, .int x1] [] sz) (zQi D (zT cI cZ cM) res [] (va_A [] sz)) 0 0 (va_A [] sz) := by
  refine z_met (cc := cX6_areTrades) (maxL := 2) (ret := (some .boolean)) (by decide) rfl (Nat.le_of_ble_eq_true rfl) ?_
  intro p e s m below meth c ls E hsz hw hl
  obtain ⟨⟨hx, hb, hml, hown, hts⟩, hr, hlocks⟩ := id E
  have hl : lv_has ls 2 [(0, .int x0), (1, .int x1)] := hl
  unfold f_X6_areTrades at hf
  refine lv_iload_n hx hb dX6_areTrades_0 rfl (lv_at hl 0 rfl) ?_
  refine lv_i2l hx hb dX6_areTrades_1 rfl ?_
  refine lv_lconst (v := 0) hx hb dX6_areTrades_2 (by decide) ?_
  refine lv_ldc2 (v := 7) hx hb hown (hts _ mw_590) dX6_areTrades_3 ?_
  obtain ⟨r_1, h_2, hf⟩ := oB_elim hf
  refine z_callSi (ws' := []) (wr := []) (As := [.long ((x0).toInt64), .long (0 : Int64), .long (7 : Int64)]) (rest := []) E.1 hl hw (c_X6_isIn h_2) (va_cwS 3 hts (z_gS mw_595 mw_596 mw_597 mw_598) rfl rfl rfl (by decide +kernel) ⟨(Nat.le_of_ble_eq_true rfl), (Nat.le_of_ble_eq_true rfl)⟩) 0 [] [] rfl rfl rfl rfl rfl rfl (by decide +kernel) rfl rfl (Nat.le_of_ble_eq_true rfl) dX6_areTrades_6 ⟨Nat.le_of_ble_eq_true rfl, Nat.le_of_ble_eq_true rfl⟩ (fun H locs hw => ?_)
  refine lv_if_eq (tgt := 28) hx hb dX6_areTrades_9 (by decide) (fun hc => ?_) (fun hc => ?_)
  · have hf := oI_pos hc hf
    refine lv_iconst (v := 0) hx hb dX6_areTrades_28 (by decide) ?_
    cases hf
    exact z_zret E rfl z_n0 hw dX6_areTrades_29
  · have hf := oI_neg hc hf
    refine lv_iload_n hx hb dX6_areTrades_12 rfl (lv_at hl 1 rfl) ?_
    refine lv_i2l hx hb dX6_areTrades_13 rfl ?_
    refine lv_lconst (v := 0) hx hb dX6_areTrades_14 (by decide) ?_
    refine lv_ldc2 (v := 7) hx hb hown (hts _ mw_590) dX6_areTrades_15 ?_
    obtain ⟨r_3, h_4, hf⟩ := oB_elim hf
    refine z_callSi (ws' := []) (wr := []) (As := [.long ((x1).toInt64), .long (0 : Int64), .long (7 : Int64)]) (rest := []) E.1 hl hw (c_X6_isIn h_4) (va_cwS 3 hts (z_gS mw_595 mw_596 mw_597 mw_598) rfl rfl rfl (by decide +kernel) ⟨(Nat.le_of_ble_eq_true rfl), (Nat.le_of_ble_eq_true rfl)⟩) 0 [] [] rfl rfl rfl rfl rfl rfl (by decide +kernel) rfl rfl (Nat.le_of_ble_eq_true rfl) dX6_areTrades_18 ⟨Nat.le_of_ble_eq_true rfl, Nat.le_of_ble_eq_true rfl⟩ (fun H locs hw => ?_)
    refine lv_if_eq (tgt := 28) hx hb dX6_areTrades_21 (by decide) (fun hc => ?_) (fun hc => ?_)
    · have hf := oI_pos hc hf
      refine lv_iconst (v := 0) hx hb dX6_areTrades_28 (by decide) ?_
      cases hf
      exact z_zret E rfl z_n0 hw dX6_areTrades_29
    · have hf := oI_neg hc hf
      refine lv_iconst (v := 1) hx hb dX6_areTrades_24 (by decide) ?_
      refine lv_goto (tgt := 29) hx hb dX6_areTrades_25 (by decide) ?_
      cases hf
      exact z_zret E rfl z_n1 hw dX6_areTrades_29
end
/-! X6_at -/
section
variable {p : Program} {l : Launch} {e : Env} {s : State} {m : MethodId} {args : Array Value} {below : List Frame} {meth : Method} {c : Code} {D : va_G} {A : Nat → Prop} {cI cZ cM : ClassId} {res : Int32}
def rmX6_at : Room := { frames := 0, cells := 0, slots := 0, locals := 0 }
abbrev zwX6_at : List Cond := Cond.code yX6_at cX6_at 4 (some .int) :: wsAll
set_option maxHeartbeats 4000000 in
set_option maxRecDepth 100000 in
theorem c_X6_at {l : Launch} {D : va_G} {cI cZ cM : ClassId} {res : Int32} {sz : Nat} {x0 : Int32} {x1 : Int32} {x2 : Int32} {x3 : Int32} (hf : f_X6_at x0 x1 x2 x3 = some res) : Met l yX6_at zwX6_at rmX6_at (zPc D (zT cI cZ cM) [.int x0, .int x1, .int x2, .int x3] [] sz) (zQi D (zT cI cZ cM) res [] (va_A [] sz)) 0 0 (va_A [] sz) := by
  refine z_met (cc := cX6_at) (maxL := 4) (ret := (some .int)) (by decide) rfl (Nat.le_of_ble_eq_true rfl) ?_
  intro p e s m below meth c ls E hsz hw hl
  obtain ⟨⟨hx, hb, hml, hown, hts⟩, hr, hlocks⟩ := id E
  have hl : lv_has ls 4 [(0, .int x0), (1, .int x1), (2, .int x2), (3, .int x3)] := hl
  unfold f_X6_at at hf
  refine lv_iload_n hx hb dX6_at_0 rfl (lv_at hl 0 rfl) ?_
  refine lv_sipush (v := 256) hx hb dX6_at_1 (by decide) ?_
  refine lv_imul hx hb dX6_at_4 ?_
  refine lv_iload_n hx hb dX6_at_5 rfl (lv_at hl 1 rfl) ?_
  refine lv_iadd hx hb dX6_at_6 ?_
  refine lv_bipush (v := 9) hx hb dX6_at_7 (by decide) ?_
  refine lv_imul hx hb dX6_at_9 ?_
  refine lv_iload_n hx hb dX6_at_10 rfl (lv_at hl 2 rfl) ?_
  refine lv_iadd hx hb dX6_at_11 ?_
  refine lv_bipush (v := 6) hx hb dX6_at_12 (by decide) ?_
  refine lv_imul hx hb dX6_at_14 ?_
  refine lv_iload_n hx hb dX6_at_15 rfl (lv_at hl 3 rfl) ?_
  refine lv_iadd hx hb dX6_at_16 ?_
  cases hf
  exact z_iret E rfl hw dX6_at_17
end
/-! X6_bare -/
section
variable {p : Program} {l : Launch} {e : Env} {s : State} {m : MethodId} {args : Array Value} {below : List Frame} {meth : Method} {c : Code} {D : va_G} {A : Nat → Prop} {cI cZ cM : ClassId} {a_this a_a a_fresh a_kept a_buffer a_best a_rentBy a_bareBy a_aheadBy a_isEdge a_tried a_stands a_found a_foundOn a_moving : Nat} {v_keptMany : Int32} {v_thrown : Int32} {v_buffered : Int32} {v_size : Int32} {v_at : Int32} {v_behind : Int32} {v_kind : Int32} {v_wrong : Int32} {v_wrongAt : Int32} {v_errorAt : Int32} {v_number : Int64} {v_movingMany : Int32} {v_foundIncome : Int32} {v_foundMoves : Int32} {res : Int32}
def rmX6_bare : Room := { frames := 0, cells := 0, slots := 0, locals := 0 }
abbrev zwX6_bare : List Cond := Cond.code yX6_bare cX6_bare 5 (some .int) :: wsAll
set_option maxHeartbeats 4000000 in
set_option maxRecDepth 100000 in
theorem w_X6_bare_5 {n : Nat} (E : zE p s m args meth c cX6_bare 5 (some .int) zwX6_bare RX6) : ∀ (fu : Nat), ∀ (x1 : Int32) (x2 : Int32) (x3 : Int32) (x4 : Int32) (v_a : Nat → Int32), f_X6_bare_5 n fu x1 x2 x3 x4 v_a = some res → ∀ (H : Heap) (locs : List Loc) (ls : Array Slot), zW D (zT cI cZ cM) A s [(a_this, .inr (6, [.ref a_a, .ref a_fresh, .ref a_kept, .int v_keptMany, .int v_thrown, .ref a_buffer, .int v_buffered, .int v_size, .int v_at, .int v_behind, .int v_kind, .int v_wrong, .int v_wrongAt, .int v_errorAt, .long v_number, .ref a_best, .ref a_rentBy, .ref a_bareBy, .ref a_aheadBy, .ref a_isEdge, .ref a_tried, .ref a_stands, .ref a_found, .ref a_foundOn, .ref a_moving, .int v_movingMany, .int v_foundIncome, .int v_foundMoves])), (a_a, .inl (cI, 180, .inl v_a))] H locs → lv_has ls 5 [(0, .ref a_this), (1, .int x1), (2, .int x2), (3, .int x3), (4, .int x4)] → W p l e rmX6_bare s m args below meth c H locs 0 0 (MQ below (zQi D (zT cI cZ cM) res [(a_this, .inr (6, [.ref a_a, .ref a_fresh, .ref a_kept, .int v_keptMany, .int v_thrown, .ref a_buffer, .int v_buffered, .int v_size, .int v_at, .int v_behind, .int v_kind, .int v_wrong, .int v_wrongAt, .int v_errorAt, .long v_number, .ref a_best, .ref a_rentBy, .ref a_bareBy, .ref a_aheadBy, .ref a_isEdge, .ref a_tried, .ref a_stands, .ref a_found, .ref a_foundOn, .ref a_moving, .int v_movingMany, .int v_foundIncome, .int v_foundMoves])), (a_a, .inl (cI, 180, .inl v_a))] A) args s 0 0 A) (F0 m 5 ls []) := by
  obtain ⟨⟨hx, hb, hml, hown, hts⟩, hr, hlocks⟩ := id E
  intro fu
  induction fu with
  | zero => intro x1 x2 x3 x4 v_a hf; rw [f_X6_bare_5.eq_1] at hf; cases hf
  | succ fu ih =>
    intro x1 x2 x3 x4 v_a hf H locs ls hw hl
    rw [f_X6_bare_5.eq_2] at hf
    refine lv_iload hx hb dX6_bare_5 (lv_at hl 4 rfl) ?_
    refine lv_aload_n hx hb dX6_bare_7 rfl (lv_at hl 0 rfl) ?_
    refine z_get E.1 hw in_wsX60 0 rfl rfl 0 (z_lt rfl) mw_593 (v := .ref a_a) rfl dX6_bare_8 ?_
    refine lv_bipush (v := 83) hx hb dX6_bare_11 (by decide) ?_
    refine lv_iload_n hx hb dX6_bare_13 rfl (lv_at hl 1 rfl) ?_
    refine lv_iadd hx hb dX6_bare_14 ?_
    obtain ⟨h_1, hf⟩ := oA_elim hf
    refine z_iald E.1 hw 1 0 rfl rfl h_1 dX6_bare_15 ?_
    refine lv_icmp_ge (tgt := 60) hx hb dX6_bare_16 (by decide) (fun hc => ?_) (fun hc => ?_)
    · have hf := oI_pos hc hf
      refine lv_iload_n hx hb dX6_bare_60 rfl (lv_at hl 3 rfl) ?_
      cases hf
      exact z_iret E rfl hw dX6_bare_61
    · have hf := oI_neg hc hf
      refine lv_iload_n hx hb dX6_bare_19 rfl (lv_at hl 3 rfl) ?_
      refine lv_aload_n hx hb dX6_bare_20 rfl (lv_at hl 0 rfl) ?_
      refine z_get E.1 hw in_wsX60 0 rfl rfl 0 (z_lt rfl) mw_593 (v := .ref a_a) rfl dX6_bare_21 ?_
      refine lv_bipush (v := 99) hx hb dX6_bare_24 (by decide) ?_
      refine lv_iload_n hx hb dX6_bare_26 rfl (lv_at hl 1 rfl) ?_
      refine lv_iadd hx hb dX6_bare_27 ?_
      obtain ⟨h_2, hf⟩ := oA_elim hf
      refine z_iald E.1 hw 1 0 rfl rfl h_2 dX6_bare_28 ?_
      refine lv_aload_n hx hb dX6_bare_29 rfl (lv_at hl 0 rfl) ?_
      refine z_get E.1 hw in_wsX60 0 rfl rfl 0 (z_lt rfl) mw_593 (v := .ref a_a) rfl dX6_bare_30 ?_
      refine lv_bipush (v := 99) hx hb dX6_bare_33 (by decide) ?_
      refine lv_iload_n hx hb dX6_bare_35 rfl (lv_at hl 1 rfl) ?_
      refine lv_iadd hx hb dX6_bare_36 ?_
      obtain ⟨h_3, hf⟩ := oA_elim hf
      refine z_iald E.1 hw 1 0 rfl rfl h_3 dX6_bare_37 ?_
      refine lv_aload_n hx hb dX6_bare_38 rfl (lv_at hl 0 rfl) ?_
      refine z_get E.1 hw in_wsX60 0 rfl rfl 0 (z_lt rfl) mw_593 (v := .ref a_a) rfl dX6_bare_39 ?_
      refine lv_bipush (v := 26) hx hb dX6_bare_42 (by decide) ?_
      refine lv_iload_n hx hb dX6_bare_44 rfl (lv_at hl 2 rfl) ?_
      refine lv_iadd hx hb dX6_bare_45 ?_
      refine lv_iload hx hb dX6_bare_46 (lv_at hl 4 rfl) ?_
      refine lv_iadd hx hb dX6_bare_48 ?_
      obtain ⟨h_4, hf⟩ := oA_elim hf
      refine z_iald E.1 hw 1 0 rfl rfl h_4 dX6_bare_49 ?_
      refine lv_imul hx hb dX6_bare_50 ?_
      refine lv_isub hx hb dX6_bare_51 ?_
      refine lv_iadd hx hb dX6_bare_52 ?_
      obtain ⟨y_5, e_y_5, hf⟩ := oL_elim hf
      refine z_top e_y_5 ?_
      refine lv_istore_n (lv' := [(3, .int y_5), (0, .ref a_this), (1, .int x1), (2, .int x2), (4, .int x4)]) hx hb dX6_bare_53 rfl hl (z_lt rfl) rfl (fun ls hl => ?_)
      refine lv_iinc (v := (x4 + (1 : Int32))) (lv' := [(4, .int (x4 + (1 : Int32))), (3, .int y_5), (0, .ref a_this), (1, .int x1), (2, .int x2)]) hx hb dX6_bare_54 hl (k := 4) rfl rfl (z_lt rfl) rfl (fun ls hl => ?_)
      refine lv_goto (tgt := 5) hx hb dX6_bare_57 (by decide) ?_
      exact ih _ _ _ _ _ hf _ _ _ hw (lv_sub hl [2, 3, 4, 1, 0] rfl)
set_option maxHeartbeats 4000000 in
set_option maxRecDepth 100000 in
theorem c_X6_bare {l : Launch} {D : va_G} {cI cZ cM : ClassId} {a_this a_a a_fresh a_kept a_buffer a_best a_rentBy a_bareBy a_aheadBy a_isEdge a_tried a_stands a_found a_foundOn a_moving : Nat} {v_keptMany : Int32} {v_thrown : Int32} {v_buffered : Int32} {v_size : Int32} {v_at : Int32} {v_behind : Int32} {v_kind : Int32} {v_wrong : Int32} {v_wrongAt : Int32} {v_errorAt : Int32} {v_number : Int64} {v_movingMany : Int32} {v_foundIncome : Int32} {v_foundMoves : Int32} {res : Int32} {sz : Nat} {n : Nat} {v_a : Nat → Int32} {x1 : Int32} {x2 : Int32} (hf : f_X6_bare n v_a x1 x2 = some res) : Met l yX6_bare zwX6_bare rmX6_bare (zPc D (zT cI cZ cM) [.ref a_this, .int x1, .int x2] [(a_this, .inr (6, [.ref a_a, .ref a_fresh, .ref a_kept, .int v_keptMany, .int v_thrown, .ref a_buffer, .int v_buffered, .int v_size, .int v_at, .int v_behind, .int v_kind, .int v_wrong, .int v_wrongAt, .int v_errorAt, .long v_number, .ref a_best, .ref a_rentBy, .ref a_bareBy, .ref a_aheadBy, .ref a_isEdge, .ref a_tried, .ref a_stands, .ref a_found, .ref a_foundOn, .ref a_moving, .int v_movingMany, .int v_foundIncome, .int v_foundMoves])), (a_a, .inl (cI, 180, .inl v_a))] sz) (zQi D (zT cI cZ cM) res [(a_this, .inr (6, [.ref a_a, .ref a_fresh, .ref a_kept, .int v_keptMany, .int v_thrown, .ref a_buffer, .int v_buffered, .int v_size, .int v_at, .int v_behind, .int v_kind, .int v_wrong, .int v_wrongAt, .int v_errorAt, .long v_number, .ref a_best, .ref a_rentBy, .ref a_bareBy, .ref a_aheadBy, .ref a_isEdge, .ref a_tried, .ref a_stands, .ref a_found, .ref a_foundOn, .ref a_moving, .int v_movingMany, .int v_foundIncome, .int v_foundMoves])), (a_a, .inl (cI, 180, .inl v_a))] (va_A [(a_this, .inr (6, [.ref a_a, .ref a_fresh, .ref a_kept, .int v_keptMany, .int v_thrown, .ref a_buffer, .int v_buffered, .int v_size, .int v_at, .int v_behind, .int v_kind, .int v_wrong, .int v_wrongAt, .int v_errorAt, .long v_number, .ref a_best, .ref a_rentBy, .ref a_bareBy, .ref a_aheadBy, .ref a_isEdge, .ref a_tried, .ref a_stands, .ref a_found, .ref a_foundOn, .ref a_moving, .int v_movingMany, .int v_foundIncome, .int v_foundMoves])), (a_a, .inl (cI, 180, .inl v_a))] sz)) 0 0 (va_A [(a_this, .inr (6, [.ref a_a, .ref a_fresh, .ref a_kept, .int v_keptMany, .int v_thrown, .ref a_buffer, .int v_buffered, .int v_size, .int v_at, .int v_behind, .int v_kind, .int v_wrong, .int v_wrongAt, .int v_errorAt, .long v_number, .ref a_best, .ref a_rentBy, .ref a_bareBy, .ref a_aheadBy, .ref a_isEdge, .ref a_tried, .ref a_stands, .ref a_found, .ref a_foundOn, .ref a_moving, .int v_movingMany, .int v_foundIncome, .int v_foundMoves])), (a_a, .inl (cI, 180, .inl v_a))] sz) := by
  refine z_met (cc := cX6_bare) (maxL := 5) (ret := (some .int)) (by decide) rfl (Nat.le_of_ble_eq_true rfl) ?_
  intro p e s m below meth c ls E hsz hw hl
  obtain ⟨⟨hx, hb, hml, hown, hts⟩, hr, hlocks⟩ := id E
  have hl : lv_has ls 5 [(0, .ref a_this), (1, .int x1), (2, .int x2)] := hl
  unfold f_X6_bare at hf
  refine lv_iconst (v := 0) hx hb dX6_bare_0 (by decide) ?_
  refine lv_istore_n (lv' := [(3, .int (0 : Int32)), (0, .ref a_this), (1, .int x1), (2, .int x2)]) hx hb dX6_bare_1 rfl hl (z_lt rfl) rfl (fun ls hl => ?_)
  refine lv_iconst (v := 0) hx hb dX6_bare_2 (by decide) ?_
  refine lv_istore (lv' := [(4, .int (0 : Int32)), (3, .int (0 : Int32)), (0, .ref a_this), (1, .int x1), (2, .int x2)]) hx hb dX6_bare_3 hl (z_lt rfl) rfl (fun ls hl => ?_)
  exact w_X6_bare_5 E  n _ _ _ _ _ hf _ _ _ hw (lv_sub hl [2, 3, 4, 1, 0] rfl)
end
/-! X6_doClash -/
section
variable {p : Program} {l : Launch} {e : Env} {s : State} {m : MethodId} {args : Array Value} {below : List Frame} {meth : Method} {c : Code} {D : va_G} {A : Nat → Prop} {cI cZ cM : ClassId} {a_this a_a a_fresh a_kept a_buffer a_best a_rentBy a_bareBy a_aheadBy a_isEdge a_tried a_stands a_found a_foundOn a_moving : Nat} {v_keptMany : Int32} {v_thrown : Int32} {v_buffered : Int32} {v_size : Int32} {v_at : Int32} {v_behind : Int32} {v_kind : Int32} {v_wrong : Int32} {v_wrongAt : Int32} {v_errorAt : Int32} {v_number : Int64} {v_movingMany : Int32} {v_foundIncome : Int32} {v_foundMoves : Int32} {res : Int32}
def rmX6_doClash : Room := { frames := 0, cells := 0, slots := 0, locals := 0 }
abbrev zwX6_doClash : List Cond := Cond.code yX6_doClash cX6_doClash 3 (some .boolean) :: wsAll
set_option maxHeartbeats 4000000 in
set_option maxRecDepth 100000 in
theorem c_X6_doClash {l : Launch} {D : va_G} {cI cZ cM : ClassId} {a_this a_a a_fresh a_kept a_buffer a_best a_rentBy a_bareBy a_aheadBy a_isEdge a_tried a_stands a_found a_foundOn a_moving : Nat} {v_keptMany : Int32} {v_thrown : Int32} {v_buffered : Int32} {v_size : Int32} {v_at : Int32} {v_behind : Int32} {v_kind : Int32} {v_wrong : Int32} {v_wrongAt : Int32} {v_errorAt : Int32} {v_number : Int64} {v_movingMany : Int32} {v_foundIncome : Int32} {v_foundMoves : Int32} {res : Int32} {sz : Nat} {v_a : Nat → Int32} {x1 : Int32} {x2 : Int32} (hf : f_X6_doClash v_a x1 x2 = some res) : Met l yX6_doClash zwX6_doClash rmX6_doClash (zPc D (zT cI cZ cM) [.ref a_this, .int x1, .int x2] [(a_this, .inr (6, [.ref a_a, .ref a_fresh, .ref a_kept, .int v_keptMany, .int v_thrown, .ref a_buffer, .int v_buffered, .int v_size, .int v_at, .int v_behind, .int v_kind, .int v_wrong, .int v_wrongAt, .int v_errorAt, .long v_number, .ref a_best, .ref a_rentBy, .ref a_bareBy, .ref a_aheadBy, .ref a_isEdge, .ref a_tried, .ref a_stands, .ref a_found, .ref a_foundOn, .ref a_moving, .int v_movingMany, .int v_foundIncome, .int v_foundMoves])), (a_a, .inl (cI, 180, .inl v_a))] sz) (zQi D (zT cI cZ cM) res [(a_this, .inr (6, [.ref a_a, .ref a_fresh, .ref a_kept, .int v_keptMany, .int v_thrown, .ref a_buffer, .int v_buffered, .int v_size, .int v_at, .int v_behind, .int v_kind, .int v_wrong, .int v_wrongAt, .int v_errorAt, .long v_number, .ref a_best, .ref a_rentBy, .ref a_bareBy, .ref a_aheadBy, .ref a_isEdge, .ref a_tried, .ref a_stands, .ref a_found, .ref a_foundOn, .ref a_moving, .int v_movingMany, .int v_foundIncome, .int v_foundMoves])), (a_a, .inl (cI, 180, .inl v_a))] (va_A [(a_this, .inr (6, [.ref a_a, .ref a_fresh, .ref a_kept, .int v_keptMany, .int v_thrown, .ref a_buffer, .int v_buffered, .int v_size, .int v_at, .int v_behind, .int v_kind, .int v_wrong, .int v_wrongAt, .int v_errorAt, .long v_number, .ref a_best, .ref a_rentBy, .ref a_bareBy, .ref a_aheadBy, .ref a_isEdge, .ref a_tried, .ref a_stands, .ref a_found, .ref a_foundOn, .ref a_moving, .int v_movingMany, .int v_foundIncome, .int v_foundMoves])), (a_a, .inl (cI, 180, .inl v_a))] sz)) 0 0 (va_A [(a_this, .inr (6, [.ref a_a, .ref a_fresh, .ref a_kept, .int v_keptMany, .int v_thrown, .ref a_buffer, .int v_buffered, .int v_size, .int v_at, .int v_behind, .int v_kind, .int v_wrong, .int v_wrongAt, .int v_errorAt, .long v_number, .ref a_best, .ref a_rentBy, .ref a_bareBy, .ref a_aheadBy, .ref a_isEdge, .ref a_tried, .ref a_stands, .ref a_found, .ref a_foundOn, .ref a_moving, .int v_movingMany, .int v_foundIncome, .int v_foundMoves])), (a_a, .inl (cI, 180, .inl v_a))] sz) := by
  refine z_met (cc := cX6_doClash) (maxL := 3) (ret := (some .boolean)) (by decide) rfl (Nat.le_of_ble_eq_true rfl) ?_
  intro p e s m below meth c ls E hsz hw hl
  obtain ⟨⟨hx, hb, hml, hown, hts⟩, hr, hlocks⟩ := id E
  have hl : lv_has ls 3 [(0, .ref a_this), (1, .int x1), (2, .int x2)] := hl
  unfold f_X6_doClash at hf
  refine lv_aload_n hx hb dX6_doClash_0 rfl (lv_at hl 0 rfl) ?_
  refine z_get E.1 hw in_wsX60 0 rfl rfl 0 (z_lt rfl) mw_593 (v := .ref a_a) rfl dX6_doClash_1 ?_
  refine lv_bipush (v := 115) hx hb dX6_doClash_4 (by decide) ?_
  refine lv_bipush (v := 8) hx hb dX6_doClash_6 (by decide) ?_
  refine lv_aload_n hx hb dX6_doClash_8 rfl (lv_at hl 0 rfl) ?_
  refine z_get E.1 hw in_wsX60 0 rfl rfl 0 (z_lt rfl) mw_593 (v := .ref a_a) rfl dX6_doClash_9 ?_
  refine lv_bipush (v := 75) hx hb dX6_doClash_12 (by decide) ?_
  refine lv_iload_n hx hb dX6_doClash_14 rfl (lv_at hl 1 rfl) ?_
  refine lv_iadd hx hb dX6_doClash_15 ?_
  obtain ⟨h_1, hf⟩ := oA_elim hf
  refine z_iald E.1 hw 1 0 rfl rfl h_1 dX6_doClash_16 ?_
  refine lv_imul hx hb dX6_doClash_17 ?_
  refine lv_iadd hx hb dX6_doClash_18 ?_
  refine lv_aload_n hx hb dX6_doClash_19 rfl (lv_at hl 0 rfl) ?_
  refine z_get E.1 hw in_wsX60 0 rfl rfl 0 (z_lt rfl) mw_593 (v := .ref a_a) rfl dX6_doClash_20 ?_
  refine lv_bipush (v := 75) hx hb dX6_doClash_23 (by decide) ?_
  refine lv_iload_n hx hb dX6_doClash_25 rfl (lv_at hl 2 rfl) ?_
  refine lv_iadd hx hb dX6_doClash_26 ?_
  obtain ⟨h_2, hf⟩ := oA_elim hf
  refine z_iald E.1 hw 1 0 rfl rfl h_2 dX6_doClash_27 ?_
  refine lv_iadd hx hb dX6_doClash_28 ?_
  obtain ⟨h_3, hf⟩ := oA_elim hf
  refine z_iald E.1 hw 1 0 rfl rfl h_3 dX6_doClash_29 ?_
  refine lv_iconst (v := 1) hx hb dX6_doClash_30 (by decide) ?_
  refine lv_icmp_ne (tgt := 38) hx hb dX6_doClash_31 (by decide) (fun hc => ?_) (fun hc => ?_)
  · have hf := oI_neg hc hf
    refine lv_iconst (v := 0) hx hb dX6_doClash_38 (by decide) ?_
    cases hf
    exact z_zret E rfl z_n0 hw dX6_doClash_39
  · have hf := oI_pos hc hf
    refine lv_iconst (v := 1) hx hb dX6_doClash_34 (by decide) ?_
    refine lv_goto (tgt := 39) hx hb dX6_doClash_35 (by decide) ?_
    cases hf
    exact z_zret E rfl z_n1 hw dX6_doClash_39
end
/-! X6_begun -/
section
variable {p : Program} {l : Launch} {e : Env} {s : State} {m : MethodId} {args : Array Value} {below : List Frame} {meth : Method} {c : Code} {D : va_G} {A : Nat → Prop} {cI cZ cM : ClassId} {a_this a_a a_fresh a_kept a_buffer a_best a_rentBy a_bareBy a_aheadBy a_isEdge a_tried a_stands a_found a_foundOn a_moving : Nat} {v_keptMany : Int32} {v_thrown : Int32} {v_buffered : Int32} {v_size : Int32} {v_at : Int32} {v_behind : Int32} {v_kind : Int32} {v_wrong : Int32} {v_wrongAt : Int32} {v_errorAt : Int32} {v_number : Int64} {v_movingMany : Int32} {v_foundIncome : Int32} {v_foundMoves : Int32} {res : Int32}
def rmX6_begun : Room := { frames := 1, cells := 0, slots := 0, locals := 23 }
abbrev zwX6_begun : List Cond := Cond.code yX6_begun cX6_begun 7 (some .int) :: wsAll
set_option maxHeartbeats 4000000 in
set_option maxRecDepth 100000 in
theorem w_X6_begun_61 (E : zE p s m args meth c cX6_begun 7 (some .int) zwX6_begun RX6) : ∀ (x1 : Int32) (x2 : Int32) (x3 : Int32) (x5 : Int32) (x6 : Int32) (v_a : Nat → Int32) (v_best : Nat → Int32) (v_rentBy : Nat → Int32) (v_bareBy : Nat → Int32) (v_aheadBy : Nat → Int32), f_X6_begun_61 x1 x2 x3 x5 x6 v_a v_best v_rentBy v_bareBy v_aheadBy = some res → ∀ (H : Heap) (locs : List Loc) (ls : Array Slot), zW D (zT cI cZ cM) A s [(a_this, .inr (6, [.ref a_a, .ref a_fresh, .ref a_kept, .int v_keptMany, .int v_thrown, .ref a_buffer, .int v_buffered, .int v_size, .int v_at, .int v_behind, .int v_kind, .int v_wrong, .int v_wrongAt, .int v_errorAt, .long v_number, .ref a_best, .ref a_rentBy, .ref a_bareBy, .ref a_aheadBy, .ref a_isEdge, .ref a_tried, .ref a_stands, .ref a_found, .ref a_foundOn, .ref a_moving, .int v_movingMany, .int v_foundIncome, .int v_foundMoves])), (a_a, .inl (cI, 180, .inl v_a)), (a_best, .inl (cI, 345600, .inl v_best)), (a_rentBy, .inl (cI, 192, .inl v_rentBy)), (a_bareBy, .inl (cI, 192, .inl v_bareBy)), (a_aheadBy, .inl (cI, 192, .inl v_aheadBy))] H locs → lv_has ls 7 [(0, .ref a_this), (1, .int x1), (2, .int x2), (3, .int x3), (5, .int x5), (6, .int x6)] → W p l e rmX6_begun s m args below meth c H locs 0 0 (MQ below (zQi D (zT cI cZ cM) res [(a_this, .inr (6, [.ref a_a, .ref a_fresh, .ref a_kept, .int v_keptMany, .int v_thrown, .ref a_buffer, .int v_buffered, .int v_size, .int v_at, .int v_behind, .int v_kind, .int v_wrong, .int v_wrongAt, .int v_errorAt, .long v_number, .ref a_best, .ref a_rentBy, .ref a_bareBy, .ref a_aheadBy, .ref a_isEdge, .ref a_tried, .ref a_stands, .ref a_found, .ref a_foundOn, .ref a_moving, .int v_movingMany, .int v_foundIncome, .int v_foundMoves])), (a_a, .inl (cI, 180, .inl v_a)), (a_best, .inl (cI, 345600, .inl v_best)), (a_rentBy, .inl (cI, 192, .inl v_rentBy)), (a_bareBy, .inl (cI, 192, .inl v_bareBy)), (a_aheadBy, .inl (cI, 192, .inl v_aheadBy))] A) args s 0 0 A) (F0 m 61 ls []) := by
  obtain ⟨⟨hx, hb, hml, hown, hts⟩, hr, hlocks⟩ := id E
  intro x1 x2 x3 x5 x6 v_a v_best v_rentBy v_bareBy v_aheadBy hf H locs ls hw hl
  unfold f_X6_begun_61 at hf
  refine lv_bipush (v := 16) hx hb dX6_begun_61 (by decide) ?_
  refine lv_aload_n hx hb dX6_begun_63 rfl (lv_at hl 0 rfl) ?_
  refine z_get E.1 hw in_wsX60 0 rfl rfl 16 (z_lt rfl) mw_621 (v := .ref a_rentBy) rfl dX6_begun_64 ?_
  refine lv_iload hx hb dX6_begun_67 (lv_at hl 5 rfl) ?_
  obtain ⟨h_1, hf⟩ := oA_elim hf
  refine z_iald E.1 hw 3 0 rfl rfl h_1 dX6_begun_69 ?_
  refine lv_imul hx hb dX6_begun_70 ?_
  refine lv_iconst (v := 1) hx hb dX6_begun_71 (by decide) ?_
  refine lv_iadd hx hb dX6_begun_72 ?_
  refine lv_aload_n hx hb dX6_begun_73 rfl (lv_at hl 0 rfl) ?_
  refine z_get E.1 hw in_wsX60 0 rfl rfl 15 (z_lt rfl) mw_623 (v := .ref a_best) rfl dX6_begun_74 ?_
  refine lv_iload_n hx hb dX6_begun_77 rfl (lv_at hl 2 rfl) ?_
  refine lv_aload_n hx hb dX6_begun_78 rfl (lv_at hl 0 rfl) ?_
  refine z_get E.1 hw in_wsX60 0 rfl rfl 0 (z_lt rfl) mw_593 (v := .ref a_a) rfl dX6_begun_79 ?_
  refine lv_bipush (v := 83) hx hb dX6_begun_82 (by decide) ?_
  refine lv_iload_n hx hb dX6_begun_84 rfl (lv_at hl 1 rfl) ?_
  refine lv_iadd hx hb dX6_begun_85 ?_
  obtain ⟨h_2, hf⟩ := oA_elim hf
  refine z_iald E.1 hw 1 0 rfl rfl h_2 dX6_begun_86 ?_
  refine lv_iadd hx hb dX6_begun_87 ?_
  refine lv_iload_n hx hb dX6_begun_88 rfl (lv_at hl 3 rfl) ?_
  refine lv_iconst (v := 1) hx hb dX6_begun_89 (by decide) ?_
  refine lv_iload_n hx hb dX6_begun_90 rfl (lv_at hl 1 rfl) ?_
  refine lv_ishl hx hb dX6_begun_91 ?_
  refine lv_ior hx hb dX6_begun_92 ?_
  refine lv_aload_n hx hb dX6_begun_93 rfl (lv_at hl 0 rfl) ?_
  refine z_get E.1 hw in_wsX60 0 rfl rfl 18 (z_lt rfl) mw_624 (v := .ref a_aheadBy) rfl dX6_begun_94 ?_
  refine lv_iload hx hb dX6_begun_97 (lv_at hl 5 rfl) ?_
  obtain ⟨h_3, hf⟩ := oA_elim hf
  refine z_iald E.1 hw 5 0 rfl rfl h_3 dX6_begun_99 ?_
  refine lv_iload hx hb dX6_begun_100 (lv_at hl 4 rfl) ?_
  refine lv_aload_n hx hb dX6_begun_102 rfl (lv_at hl 0 rfl) ?_
  refine z_get E.1 hw in_wsX60 0 rfl rfl 17 (z_lt rfl) mw_622 (v := .ref a_bareBy) rfl dX6_begun_103 ?_
  refine lv_iload hx hb dX6_begun_106 (lv_at hl 5 rfl) ?_
  obtain ⟨h_4, hf⟩ := oA_elim hf
  refine z_iald E.1 hw 4 0 rfl rfl h_4 dX6_begun_108 ?_
  refine lv_isub hx hb dX6_begun_109 ?_
  obtain ⟨r_5, h_6, hf⟩ := oB_elim hf
  refine z_callSi (ws' := [(a_this, .inr (6, [.ref a_a, .ref a_fresh, .ref a_kept, .int v_keptMany, .int v_thrown, .ref a_buffer, .int v_buffered, .int v_size, .int v_at, .int v_behind, .int v_kind, .int v_wrong, .int v_wrongAt, .int v_errorAt, .long v_number, .ref a_best, .ref a_rentBy, .ref a_bareBy, .ref a_aheadBy, .ref a_isEdge, .ref a_tried, .ref a_stands, .ref a_found, .ref a_foundOn, .ref a_moving, .int v_movingMany, .int v_foundIncome, .int v_foundMoves])), (a_a, .inl (cI, 180, .inl v_a)), (a_best, .inl (cI, 345600, .inl v_best)), (a_rentBy, .inl (cI, 192, .inl v_rentBy)), (a_bareBy, .inl (cI, 192, .inl v_bareBy)), (a_aheadBy, .inl (cI, 192, .inl v_aheadBy))]) (wr := [(a_this, .inr (6, [.ref a_a, .ref a_fresh, .ref a_kept, .int v_keptMany, .int v_thrown, .ref a_buffer, .int v_buffered, .int v_size, .int v_at, .int v_behind, .int v_kind, .int v_wrong, .int v_wrongAt, .int v_errorAt, .long v_number, .ref a_best, .ref a_rentBy, .ref a_bareBy, .ref a_aheadBy, .ref a_isEdge, .ref a_tried, .ref a_stands, .ref a_found, .ref a_foundOn, .ref a_moving, .int v_movingMany, .int v_foundIncome, .int v_foundMoves])), (a_a, .inl (cI, 180, .inl v_a)), (a_best, .inl (cI, 345600, .inl v_best)), (a_rentBy, .inl (cI, 192, .inl v_rentBy)), (a_bareBy, .inl (cI, 192, .inl v_bareBy)), (a_aheadBy, .inl (cI, 192, .inl v_aheadBy))]) (As := [.int (x2 + (v_a (((83 : Int32) + x1)).toNatClampNeg)), .int (x3 ||| ((1 : Int32) <<< (x1 &&& 31))), .int (v_aheadBy (x6).toNatClampNeg), .int (x5 - (v_bareBy (x6).toNatClampNeg))]) (rest := [.ref a_best, .int (((16 : Int32) * (v_rentBy (x6).toNatClampNeg)) + (1 : Int32))]) E.1 hl hw (c_X6_at h_6) (va_cwS 4 hts (z_gS mw_629 mw_630 mw_597 mw_618) rfl rfl rfl (by decide +kernel) ⟨(Nat.le_of_ble_eq_true rfl), (Nat.le_of_ble_eq_true rfl)⟩) 6 [] [(0, 6)] rfl rfl rfl rfl rfl rfl (by decide +kernel) rfl rfl (Nat.le_of_ble_eq_true rfl) dX6_begun_110 ⟨Nat.le_of_ble_eq_true rfl, Nat.le_of_ble_eq_true rfl⟩ (fun H locs hw => ?_)
  obtain ⟨h_7, hf⟩ := oA_elim hf
  refine z_iald E.1 hw 2 0 rfl rfl h_7 dX6_begun_113 ?_
  refine lv_iadd hx hb dX6_begun_114 ?_
  cases hf
  exact z_iret E rfl hw dX6_begun_115
set_option maxHeartbeats 4000000 in
set_option maxRecDepth 100000 in
theorem c_X6_begun {l : Launch} {D : va_G} {cI cZ cM : ClassId} {a_this a_a a_fresh a_kept a_buffer a_best a_rentBy a_bareBy a_aheadBy a_isEdge a_tried a_stands a_found a_foundOn a_moving : Nat} {v_keptMany : Int32} {v_thrown : Int32} {v_buffered : Int32} {v_size : Int32} {v_at : Int32} {v_behind : Int32} {v_kind : Int32} {v_wrong : Int32} {v_wrongAt : Int32} {v_errorAt : Int32} {v_number : Int64} {v_movingMany : Int32} {v_foundIncome : Int32} {v_foundMoves : Int32} {res : Int32} {sz : Nat} {v_a : Nat → Int32} {v_best : Nat → Int32} {v_rentBy : Nat → Int32} {v_bareBy : Nat → Int32} {v_aheadBy : Nat → Int32} {x1 : Int32} {x2 : Int32} {x3 : Int32} {x4 : Int32} {x5 : Int32} (hf : f_X6_begun v_a v_best v_rentBy v_bareBy v_aheadBy x1 x2 x3 x4 x5 = some res) : Met l yX6_begun zwX6_begun rmX6_begun (zPc D (zT cI cZ cM) [.ref a_this, .int x1, .int x2, .int x3, .int x4, .int x5] [(a_this, .inr (6, [.ref a_a, .ref a_fresh, .ref a_kept, .int v_keptMany, .int v_thrown, .ref a_buffer, .int v_buffered, .int v_size, .int v_at, .int v_behind, .int v_kind, .int v_wrong, .int v_wrongAt, .int v_errorAt, .long v_number, .ref a_best, .ref a_rentBy, .ref a_bareBy, .ref a_aheadBy, .ref a_isEdge, .ref a_tried, .ref a_stands, .ref a_found, .ref a_foundOn, .ref a_moving, .int v_movingMany, .int v_foundIncome, .int v_foundMoves])), (a_a, .inl (cI, 180, .inl v_a)), (a_best, .inl (cI, 345600, .inl v_best)), (a_rentBy, .inl (cI, 192, .inl v_rentBy)), (a_bareBy, .inl (cI, 192, .inl v_bareBy)), (a_aheadBy, .inl (cI, 192, .inl v_aheadBy))] sz) (zQi D (zT cI cZ cM) res [(a_this, .inr (6, [.ref a_a, .ref a_fresh, .ref a_kept, .int v_keptMany, .int v_thrown, .ref a_buffer, .int v_buffered, .int v_size, .int v_at, .int v_behind, .int v_kind, .int v_wrong, .int v_wrongAt, .int v_errorAt, .long v_number, .ref a_best, .ref a_rentBy, .ref a_bareBy, .ref a_aheadBy, .ref a_isEdge, .ref a_tried, .ref a_stands, .ref a_found, .ref a_foundOn, .ref a_moving, .int v_movingMany, .int v_foundIncome, .int v_foundMoves])), (a_a, .inl (cI, 180, .inl v_a)), (a_best, .inl (cI, 345600, .inl v_best)), (a_rentBy, .inl (cI, 192, .inl v_rentBy)), (a_bareBy, .inl (cI, 192, .inl v_bareBy)), (a_aheadBy, .inl (cI, 192, .inl v_aheadBy))] (va_A [(a_this, .inr (6, [.ref a_a, .ref a_fresh, .ref a_kept, .int v_keptMany, .int v_thrown, .ref a_buffer, .int v_buffered, .int v_size, .int v_at, .int v_behind, .int v_kind, .int v_wrong, .int v_wrongAt, .int v_errorAt, .long v_number, .ref a_best, .ref a_rentBy, .ref a_bareBy, .ref a_aheadBy, .ref a_isEdge, .ref a_tried, .ref a_stands, .ref a_found, .ref a_foundOn, .ref a_moving, .int v_movingMany, .int v_foundIncome, .int v_foundMoves])), (a_a, .inl (cI, 180, .inl v_a)), (a_best, .inl (cI, 345600, .inl v_best)), (a_rentBy, .inl (cI, 192, .inl v_rentBy)), (a_bareBy, .inl (cI, 192, .inl v_bareBy)), (a_aheadBy, .inl (cI, 192, .inl v_aheadBy))] sz)) 0 0 (va_A [(a_this, .inr (6, [.ref a_a, .ref a_fresh, .ref a_kept, .int v_keptMany, .int v_thrown, .ref a_buffer, .int v_buffered, .int v_size, .int v_at, .int v_behind, .int v_kind, .int v_wrong, .int v_wrongAt, .int v_errorAt, .long v_number, .ref a_best, .ref a_rentBy, .ref a_bareBy, .ref a_aheadBy, .ref a_isEdge, .ref a_tried, .ref a_stands, .ref a_found, .ref a_foundOn, .ref a_moving, .int v_movingMany, .int v_foundIncome, .int v_foundMoves])), (a_a, .inl (cI, 180, .inl v_a)), (a_best, .inl (cI, 345600, .inl v_best)), (a_rentBy, .inl (cI, 192, .inl v_rentBy)), (a_bareBy, .inl (cI, 192, .inl v_bareBy)), (a_aheadBy, .inl (cI, 192, .inl v_aheadBy))] sz) := by
  refine z_met (cc := cX6_begun) (maxL := 7) (ret := (some .int)) (by decide) rfl (Nat.le_of_ble_eq_true rfl) ?_
  intro p e s m below meth c ls E hsz hw hl
  obtain ⟨⟨hx, hb, hml, hown, hts⟩, hr, hlocks⟩ := id E
  have hl : lv_has ls 7 [(0, .ref a_this), (1, .int x1), (2, .int x2), (3, .int x3), (4, .int x4), (5, .int x5)] := hl
  unfold f_X6_begun at hf
  refine lv_bipush (v := 24) hx hb dX6_begun_0 (by decide) ?_
  refine lv_iload_n hx hb dX6_begun_2 rfl (lv_at hl 1 rfl) ?_
  refine lv_imul hx hb dX6_begun_3 ?_
  refine lv_iload_n hx hb dX6_begun_4 rfl (lv_at hl 2 rfl) ?_
  refine lv_iadd hx hb dX6_begun_5 ?_
  obtain ⟨y_8, e_y_8, hf⟩ := oL_elim hf
  refine z_top e_y_8 ?_
  refine lv_istore (lv' := [(6, .int y_8), (0, .ref a_this), (1, .int x1), (2, .int x2), (3, .int x3), (4, .int x4), (5, .int x5)]) hx hb dX6_begun_6 hl (z_lt rfl) rfl (fun ls hl => ?_)
  refine lv_iload_n hx hb dX6_begun_8 rfl (lv_at hl 4 rfl) ?_
  refine lv_iload_n hx hb dX6_begun_9 rfl (lv_at hl 2 rfl) ?_
  refine lv_ishr hx hb dX6_begun_10 ?_
  refine lv_iconst (v := 1) hx hb dX6_begun_11 (by decide) ?_
  refine lv_iand hx hb dX6_begun_12 ?_
  refine lv_iconst (v := 1) hx hb dX6_begun_13 (by decide) ?_
  refine lv_icmp_eq (tgt := 40) hx hb dX6_begun_14 (by decide) (fun hc => ?_) (fun hc => ?_)
  · have hf := oI_pos hc hf
    refine lv_iconst (v := -1) hx hb dX6_begun_40 (by decide) ?_
    cases hf
    exact z_iret E rfl hw dX6_begun_41
  · have hf := oI_neg hc hf
    refine lv_aload_n hx hb dX6_begun_17 rfl (lv_at hl 1 rfl) ?_
    refine z_get E.1 hw in_wsX60 0 rfl rfl 16 (z_lt rfl) mw_621 (v := .ref a_rentBy) rfl dX6_begun_18 ?_
    refine lv_iload hx hb dX6_begun_21 (lv_at hl 0 rfl) ?_
    obtain ⟨h_9, hf⟩ := oA_elim hf
    refine z_iald E.1 hw 3 0 rfl rfl h_9 dX6_begun_23 ?_
    refine lv_iconst (v := -1) hx hb dX6_begun_24 (by decide) ?_
    refine lv_icmp_eq (tgt := 40) hx hb dX6_begun_25 (by decide) (fun hc => ?_) (fun hc => ?_)
    · have hf := oI_pos hc hf
      refine lv_iconst (v := -1) hx hb dX6_begun_40 (by decide) ?_
      cases hf
      exact z_iret E rfl hw dX6_begun_41
    · have hf := oI_neg hc hf
      refine lv_aload_n hx hb dX6_begun_28 rfl (lv_at hl 1 rfl) ?_
      refine z_get E.1 hw in_wsX60 0 rfl rfl 17 (z_lt rfl) mw_622 (v := .ref a_bareBy) rfl dX6_begun_29 ?_
      refine lv_iload hx hb dX6_begun_32 (lv_at hl 0 rfl) ?_
      obtain ⟨h_10, hf⟩ := oA_elim hf
      refine z_iald E.1 hw 4 0 rfl rfl h_10 dX6_begun_34 ?_
      refine lv_iload hx hb dX6_begun_35 (lv_at hl 6 rfl) ?_
      refine lv_icmp_le (tgt := 42) hx hb dX6_begun_37 (by decide) (fun hc => ?_) (fun hc => ?_)
      · have hf := oI_pos hc hf
        refine lv_iload hx hb dX6_begun_42 (lv_at hl 5 rfl) ?_
        refine lv_bipush (v := 8) hx hb dX6_begun_44 (by decide) ?_
        refine lv_icmp_ge (tgt := 61) hx hb dX6_begun_46 (by decide) (fun hc => ?_) (fun hc => ?_)
        · have hf := oI_pos hc hf
          exact w_X6_begun_61 E  _ _ _ _ _ _ _ _ _ _ hf _ _ _ hw (lv_sub hl [1, 2, 3, 4, 6, 0] rfl)
        · have hf := oI_neg hc hf
          refine lv_aload_n hx hb dX6_begun_49 rfl (lv_at hl 1 rfl) ?_
          refine lv_iload hx hb dX6_begun_50 (lv_at hl 5 rfl) ?_
          refine lv_iload_n hx hb dX6_begun_52 rfl (lv_at hl 2 rfl) ?_
          obtain ⟨r_11, h_12, hf⟩ := oB_elim hf
          refine z_callVi (ws' := [(a_this, .inr (6, [.ref a_a, .ref a_fresh, .ref a_kept, .int v_keptMany, .int v_thrown, .ref a_buffer, .int v_buffered, .int v_size, .int v_at, .int v_behind, .int v_kind, .int v_wrong, .int v_wrongAt, .int v_errorAt, .long v_number, .ref a_best, .ref a_rentBy, .ref a_bareBy, .ref a_aheadBy, .ref a_isEdge, .ref a_tried, .ref a_stands, .ref a_found, .ref a_foundOn, .ref a_moving, .int v_movingMany, .int v_foundIncome, .int v_foundMoves])), (a_a, .inl (cI, 180, .inl v_a)), (a_best, .inl (cI, 345600, .inl v_best)), (a_rentBy, .inl (cI, 192, .inl v_rentBy)), (a_bareBy, .inl (cI, 192, .inl v_bareBy)), (a_aheadBy, .inl (cI, 192, .inl v_aheadBy))]) (wr := [(a_best, .inl (cI, 345600, .inl v_best)), (a_rentBy, .inl (cI, 192, .inl v_rentBy)), (a_bareBy, .inl (cI, 192, .inl v_bareBy)), (a_aheadBy, .inl (cI, 192, .inl v_aheadBy))]) (As := [.int x4, .int x1]) (rest := []) E.1 hl hw (c_X6_doClash h_12) (cwV 2 hts (z_gV mw_625 mw_626 mw_627 mw_597 mw_628) rfl rfl rfl (by decide +kernel) ⟨(Nat.le_of_ble_eq_true rfl), (Nat.le_of_ble_eq_true rfl)⟩) 6 [(0, 2)] [(2, 4)] rfl rfl rfl rfl rfl rfl (by decide +kernel) rfl (q0 := 0) rfl rfl rfl (Nat.le_of_ble_eq_true rfl) dX6_begun_53 ⟨Nat.le_of_ble_eq_true rfl, Nat.le_of_ble_eq_true rfl⟩ (fun H locs hw => ?_)
          refine lv_if_eq (tgt := 61) hx hb dX6_begun_56 (by decide) (fun hc => ?_) (fun hc => ?_)
          · have hf := oI_pos hc hf
            exact w_X6_begun_61 E  _ _ _ _ _ _ _ _ _ _ hf _ _ _ hw (lv_sub hl [1, 2, 3, 4, 6, 0] rfl)
          · have hf := oI_neg hc hf
            refine lv_iconst (v := -1) hx hb dX6_begun_59 (by decide) ?_
            cases hf
            exact z_iret E rfl hw dX6_begun_60
      · have hf := oI_neg hc hf
        refine lv_iconst (v := -1) hx hb dX6_begun_40 (by decide) ?_
        cases hf
        exact z_iret E rfl hw dX6_begun_41
end
/-! X6_free -/
section
variable {p : Program} {l : Launch} {e : Env} {s : State} {m : MethodId} {args : Array Value} {below : List Frame} {meth : Method} {c : Code} {D : va_G} {A : Nat → Prop} {cI cZ cM : ClassId} {a_this a_a a_fresh a_kept a_buffer a_best a_rentBy a_bareBy a_aheadBy a_isEdge a_tried a_stands a_found a_foundOn a_moving : Nat} {v_keptMany : Int32} {v_thrown : Int32} {v_buffered : Int32} {v_size : Int32} {v_at : Int32} {v_behind : Int32} {v_kind : Int32} {v_wrong : Int32} {v_wrongAt : Int32} {v_errorAt : Int32} {v_number : Int64} {v_movingMany : Int32} {v_foundIncome : Int32} {v_foundMoves : Int32} {res : Int32}
def rmX6_free : Room := { frames := 1, cells := 0, slots := 0, locals := 23 }
abbrev zwX6_free : List Cond := Cond.code yX6_free cX6_free 4 (some .int) :: wsAll
set_option maxHeartbeats 4000000 in
set_option maxRecDepth 100000 in
theorem c_X6_free {l : Launch} {D : va_G} {cI cZ cM : ClassId} {a_this a_a a_fresh a_kept a_buffer a_best a_rentBy a_bareBy a_aheadBy a_isEdge a_tried a_stands a_found a_foundOn a_moving : Nat} {v_keptMany : Int32} {v_thrown : Int32} {v_buffered : Int32} {v_size : Int32} {v_at : Int32} {v_behind : Int32} {v_kind : Int32} {v_wrong : Int32} {v_wrongAt : Int32} {v_errorAt : Int32} {v_number : Int64} {v_movingMany : Int32} {v_foundIncome : Int32} {v_foundMoves : Int32} {res : Int32} {sz : Nat} {v_best : Nat → Int32} {x1 : Int32} {x2 : Int32} {x3 : Int32} (hf : f_X6_free v_best x1 x2 x3 = some res) : Met l yX6_free zwX6_free rmX6_free (zPc D (zT cI cZ cM) [.ref a_this, .int x1, .int x2, .int x3] [(a_this, .inr (6, [.ref a_a, .ref a_fresh, .ref a_kept, .int v_keptMany, .int v_thrown, .ref a_buffer, .int v_buffered, .int v_size, .int v_at, .int v_behind, .int v_kind, .int v_wrong, .int v_wrongAt, .int v_errorAt, .long v_number, .ref a_best, .ref a_rentBy, .ref a_bareBy, .ref a_aheadBy, .ref a_isEdge, .ref a_tried, .ref a_stands, .ref a_found, .ref a_foundOn, .ref a_moving, .int v_movingMany, .int v_foundIncome, .int v_foundMoves])), (a_best, .inl (cI, 345600, .inl v_best))] sz) (zQi D (zT cI cZ cM) res [(a_this, .inr (6, [.ref a_a, .ref a_fresh, .ref a_kept, .int v_keptMany, .int v_thrown, .ref a_buffer, .int v_buffered, .int v_size, .int v_at, .int v_behind, .int v_kind, .int v_wrong, .int v_wrongAt, .int v_errorAt, .long v_number, .ref a_best, .ref a_rentBy, .ref a_bareBy, .ref a_aheadBy, .ref a_isEdge, .ref a_tried, .ref a_stands, .ref a_found, .ref a_foundOn, .ref a_moving, .int v_movingMany, .int v_foundIncome, .int v_foundMoves])), (a_best, .inl (cI, 345600, .inl v_best))] (va_A [(a_this, .inr (6, [.ref a_a, .ref a_fresh, .ref a_kept, .int v_keptMany, .int v_thrown, .ref a_buffer, .int v_buffered, .int v_size, .int v_at, .int v_behind, .int v_kind, .int v_wrong, .int v_wrongAt, .int v_errorAt, .long v_number, .ref a_best, .ref a_rentBy, .ref a_bareBy, .ref a_aheadBy, .ref a_isEdge, .ref a_tried, .ref a_stands, .ref a_found, .ref a_foundOn, .ref a_moving, .int v_movingMany, .int v_foundIncome, .int v_foundMoves])), (a_best, .inl (cI, 345600, .inl v_best))] sz)) 0 0 (va_A [(a_this, .inr (6, [.ref a_a, .ref a_fresh, .ref a_kept, .int v_keptMany, .int v_thrown, .ref a_buffer, .int v_buffered, .int v_size, .int v_at, .int v_behind, .int v_kind, .int v_wrong, .int v_wrongAt, .int v_errorAt, .long v_number, .ref a_best, .ref a_rentBy, .ref a_bareBy, .ref a_aheadBy, .ref a_isEdge, .ref a_tried, .ref a_stands, .ref a_found, .ref a_foundOn, .ref a_moving, .int v_movingMany, .int v_foundIncome, .int v_foundMoves])), (a_best, .inl (cI, 345600, .inl v_best))] sz) := by
  refine z_met (cc := cX6_free) (maxL := 4) (ret := (some .int)) (by decide) rfl (Nat.le_of_ble_eq_true rfl) ?_
  intro p e s m below meth c ls E hsz hw hl
  obtain ⟨⟨hx, hb, hml, hown, hts⟩, hr, hlocks⟩ := id E
  have hl : lv_has ls 4 [(0, .ref a_this), (1, .int x1), (2, .int x2), (3, .int x3)] := hl
  unfold f_X6_free at hf
  refine lv_aload_n hx hb dX6_free_0 rfl (lv_at hl 0 rfl) ?_
  refine z_get E.1 hw in_wsX60 0 rfl rfl 15 (z_lt rfl) mw_623 (v := .ref a_best) rfl dX6_free_1 ?_
  refine lv_iload_n hx hb dX6_free_4 rfl (lv_at hl 1 rfl) ?_
  refine lv_iconst (v := 1) hx hb dX6_free_5 (by decide) ?_
  refine lv_iadd hx hb dX6_free_6 ?_
  refine lv_iload_n hx hb dX6_free_7 rfl (lv_at hl 2 rfl) ?_
  refine lv_bipush (v := 8) hx hb dX6_free_8 (by decide) ?_
  refine lv_iload_n hx hb dX6_free_10 rfl (lv_at hl 3 rfl) ?_
  obtain ⟨r_1, h_2, hf⟩ := oB_elim hf
  refine z_callSi (ws' := [(a_this, .inr (6, [.ref a_a, .ref a_fresh, .ref a_kept, .int v_keptMany, .int v_thrown, .ref a_buffer, .int v_buffered, .int v_size, .int v_at, .int v_behind, .int v_kind, .int v_wrong, .int v_wrongAt, .int v_errorAt, .long v_number, .ref a_best, .ref a_rentBy, .ref a_bareBy, .ref a_aheadBy, .ref a_isEdge, .ref a_tried, .ref a_stands, .ref a_found, .ref a_foundOn, .ref a_moving, .int v_movingMany, .int v_foundIncome, .int v_foundMoves])), (a_best, .inl (cI, 345600, .inl v_best))]) (wr := [(a_this, .inr (6, [.ref a_a, .ref a_fresh, .ref a_kept, .int v_keptMany, .int v_thrown, .ref a_buffer, .int v_buffered, .int v_size, .int v_at, .int v_behind, .int v_kind, .int v_wrong, .int v_wrongAt, .int v_errorAt, .long v_number, .ref a_best, .ref a_rentBy, .ref a_bareBy, .ref a_aheadBy, .ref a_isEdge, .ref a_tried, .ref a_stands, .ref a_found, .ref a_foundOn, .ref a_moving, .int v_movingMany, .int v_foundIncome, .int v_foundMoves])), (a_best, .inl (cI, 345600, .inl v_best))]) (As := [.int (x1 + (1 : Int32)), .int x2, .int (8 : Int32), .int x3]) (rest := [.ref a_best]) E.1 hl hw (c_X6_at h_2) (va_cwS 4 hts (z_gS mw_629 mw_630 mw_597 mw_618) rfl rfl rfl (by decide +kernel) ⟨(Nat.le_of_ble_eq_true rfl), (Nat.le_of_ble_eq_true rfl)⟩) 2 [] [(0, 2)] rfl rfl rfl rfl rfl rfl (by decide +kernel) rfl rfl (Nat.le_of_ble_eq_true rfl) dX6_free_11 ⟨Nat.le_of_ble_eq_true rfl, Nat.le_of_ble_eq_true rfl⟩ (fun H locs hw => ?_)
  obtain ⟨h_3, hf⟩ := oA_elim hf
  refine z_iald E.1 hw 1 0 rfl rfl h_3 dX6_free_14 ?_
  cases hf
  exact z_iret E rfl hw dX6_free_15
end
/-! X6_isSameRow -/
section
variable {p : Program} {l : Launch} {e : Env} {s : State} {m : MethodId} {args : Array Value} {below : List Frame} {meth : Method} {c : Code} {D : va_G} {A : Nat → Prop} {cI cZ cM : ClassId} {a_this a_a a_fresh a_kept a_buffer a_best a_rentBy a_bareBy a_aheadBy a_isEdge a_tried a_stands a_found a_foundOn a_moving : Nat} {v_keptMany : Int32} {v_thrown : Int32} {v_buffered : Int32} {v_size : Int32} {v_at : Int32} {v_behind : Int32} {v_kind : Int32} {v_wrong : Int32} {v_wrongAt : Int32} {v_errorAt : Int32} {v_number : Int64} {v_movingMany : Int32} {v_foundIncome : Int32} {v_foundMoves : Int32} {res : Int32}
def rmX6_isSameRow : Room := { frames := 0, cells := 0, slots := 0, locals := 0 }
abbrev zwX6_isSameRow : List Cond := Cond.code yX6_isSameRow cX6_isSameRow 3 (some .boolean) :: wsAll
set_option maxHeartbeats 4000000 in
set_option maxRecDepth 100000 in
theorem c_X6_isSameRow {l : Launch} {D : va_G} {cI cZ cM : ClassId} {a_this a_a a_fresh a_kept a_buffer a_best a_rentBy a_bareBy a_aheadBy a_isEdge a_tried a_stands a_found a_foundOn a_moving : Nat} {v_keptMany : Int32} {v_thrown : Int32} {v_buffered : Int32} {v_size : Int32} {v_at : Int32} {v_behind : Int32} {v_kind : Int32} {v_wrong : Int32} {v_wrongAt : Int32} {v_errorAt : Int32} {v_number : Int64} {v_movingMany : Int32} {v_foundIncome : Int32} {v_foundMoves : Int32} {res : Int32} {sz : Nat} {v_a : Nat → Int32} {x1 : Int32} {x2 : Int32} (hf : f_X6_isSameRow v_a x1 x2 = some res) : Met l yX6_isSameRow zwX6_isSameRow rmX6_isSameRow (zPc D (zT cI cZ cM) [.ref a_this, .int x1, .int x2] [(a_this, .inr (6, [.ref a_a, .ref a_fresh, .ref a_kept, .int v_keptMany, .int v_thrown, .ref a_buffer, .int v_buffered, .int v_size, .int v_at, .int v_behind, .int v_kind, .int v_wrong, .int v_wrongAt, .int v_errorAt, .long v_number, .ref a_best, .ref a_rentBy, .ref a_bareBy, .ref a_aheadBy, .ref a_isEdge, .ref a_tried, .ref a_stands, .ref a_found, .ref a_foundOn, .ref a_moving, .int v_movingMany, .int v_foundIncome, .int v_foundMoves])), (a_a, .inl (cI, 180, .inl v_a))] sz) (zQi D (zT cI cZ cM) res [(a_this, .inr (6, [.ref a_a, .ref a_fresh, .ref a_kept, .int v_keptMany, .int v_thrown, .ref a_buffer, .int v_buffered, .int v_size, .int v_at, .int v_behind, .int v_kind, .int v_wrong, .int v_wrongAt, .int v_errorAt, .long v_number, .ref a_best, .ref a_rentBy, .ref a_bareBy, .ref a_aheadBy, .ref a_isEdge, .ref a_tried, .ref a_stands, .ref a_found, .ref a_foundOn, .ref a_moving, .int v_movingMany, .int v_foundIncome, .int v_foundMoves])), (a_a, .inl (cI, 180, .inl v_a))] (va_A [(a_this, .inr (6, [.ref a_a, .ref a_fresh, .ref a_kept, .int v_keptMany, .int v_thrown, .ref a_buffer, .int v_buffered, .int v_size, .int v_at, .int v_behind, .int v_kind, .int v_wrong, .int v_wrongAt, .int v_errorAt, .long v_number, .ref a_best, .ref a_rentBy, .ref a_bareBy, .ref a_aheadBy, .ref a_isEdge, .ref a_tried, .ref a_stands, .ref a_found, .ref a_foundOn, .ref a_moving, .int v_movingMany, .int v_foundIncome, .int v_foundMoves])), (a_a, .inl (cI, 180, .inl v_a))] sz)) 0 0 (va_A [(a_this, .inr (6, [.ref a_a, .ref a_fresh, .ref a_kept, .int v_keptMany, .int v_thrown, .ref a_buffer, .int v_buffered, .int v_size, .int v_at, .int v_behind, .int v_kind, .int v_wrong, .int v_wrongAt, .int v_errorAt, .long v_number, .ref a_best, .ref a_rentBy, .ref a_bareBy, .ref a_aheadBy, .ref a_isEdge, .ref a_tried, .ref a_stands, .ref a_found, .ref a_foundOn, .ref a_moving, .int v_movingMany, .int v_foundIncome, .int v_foundMoves])), (a_a, .inl (cI, 180, .inl v_a))] sz) := by
  refine z_met (cc := cX6_isSameRow) (maxL := 3) (ret := (some .boolean)) (by decide) rfl (Nat.le_of_ble_eq_true rfl) ?_
  intro p e s m below meth c ls E hsz hw hl
  obtain ⟨⟨hx, hb, hml, hown, hts⟩, hr, hlocks⟩ := id E
  have hl : lv_has ls 3 [(0, .ref a_this), (1, .int x1), (2, .int x2)] := hl
  unfold f_X6_isSameRow at hf
  refine lv_iload_n hx hb dX6_isSameRow_0 rfl (lv_at hl 2 rfl) ?_
  refine lv_aload_n hx hb dX6_isSameRow_1 rfl (lv_at hl 0 rfl) ?_
  refine z_get E.1 hw in_wsX60 0 rfl rfl 0 (z_lt rfl) mw_593 (v := .ref a_a) rfl dX6_isSameRow_2 ?_
  refine lv_iconst (v := 1) hx hb dX6_isSameRow_5 (by decide) ?_
  obtain ⟨h_1, hf⟩ := oA_elim hf
  refine z_iald E.1 hw 1 0 rfl rfl h_1 dX6_isSameRow_6 ?_
  refine lv_icmp_ge (tgt := 35) hx hb dX6_isSameRow_7 (by decide) (fun hc => ?_) (fun hc => ?_)
  · have hf := oI_pos hc hf
    refine lv_iconst (v := 0) hx hb dX6_isSameRow_35 (by decide) ?_
    cases hf
    exact z_zret E rfl z_n0 hw dX6_isSameRow_36
  · have hf := oI_neg hc hf
    refine lv_aload_n hx hb dX6_isSameRow_10 rfl (lv_at hl 0 rfl) ?_
    refine z_get E.1 hw in_wsX60 0 rfl rfl 0 (z_lt rfl) mw_593 (v := .ref a_a) rfl dX6_isSameRow_11 ?_
    refine lv_bipush (v := 50) hx hb dX6_isSameRow_14 (by decide) ?_
    refine lv_iload_n hx hb dX6_isSameRow_16 rfl (lv_at hl 1 rfl) ?_
    refine lv_iadd hx hb dX6_isSameRow_17 ?_
    obtain ⟨h_2, hf⟩ := oA_elim hf
    refine z_iald E.1 hw 1 0 rfl rfl h_2 dX6_isSameRow_18 ?_
    refine lv_aload_n hx hb dX6_isSameRow_19 rfl (lv_at hl 0 rfl) ?_
    refine z_get E.1 hw in_wsX60 0 rfl rfl 0 (z_lt rfl) mw_593 (v := .ref a_a) rfl dX6_isSameRow_20 ?_
    refine lv_bipush (v := 50) hx hb dX6_isSameRow_23 (by decide) ?_
    refine lv_iload_n hx hb dX6_isSameRow_25 rfl (lv_at hl 2 rfl) ?_
    refine lv_iadd hx hb dX6_isSameRow_26 ?_
    obtain ⟨h_3, hf⟩ := oA_elim hf
    refine z_iald E.1 hw 1 0 rfl rfl h_3 dX6_isSameRow_27 ?_
    refine lv_icmp_ne (tgt := 35) hx hb dX6_isSameRow_28 (by decide) (fun hc => ?_) (fun hc => ?_)
    · have hf := oI_neg hc hf
      refine lv_iconst (v := 0) hx hb dX6_isSameRow_35 (by decide) ?_
      cases hf
      exact z_zret E rfl z_n0 hw dX6_isSameRow_36
    · have hf := oI_pos hc hf
      refine lv_iconst (v := 1) hx hb dX6_isSameRow_31 (by decide) ?_
      refine lv_goto (tgt := 36) hx hb dX6_isSameRow_32 (by decide) ?_
      cases hf
      exact z_zret E rfl z_n1 hw dX6_isSameRow_36
end
/-! X6_isRoom -/
section
variable {p : Program} {l : Launch} {e : Env} {s : State} {m : MethodId} {args : Array Value} {below : List Frame} {meth : Method} {c : Code} {D : va_G} {A : Nat → Prop} {cI cZ cM : ClassId} {a_this a_a a_fresh a_kept a_buffer a_best a_rentBy a_bareBy a_aheadBy a_isEdge a_tried a_stands a_found a_foundOn a_moving : Nat} {v_keptMany : Int32} {v_thrown : Int32} {v_buffered : Int32} {v_size : Int32} {v_at : Int32} {v_behind : Int32} {v_kind : Int32} {v_wrong : Int32} {v_wrongAt : Int32} {v_errorAt : Int32} {v_number : Int64} {v_movingMany : Int32} {v_foundIncome : Int32} {v_foundMoves : Int32} {res : Int32}
def rmX6_isRoom : Room := { frames := 0, cells := 0, slots := 0, locals := 0 }
abbrev zwX6_isRoom : List Cond := Cond.code yX6_isRoom cX6_isRoom 4 (some .boolean) :: wsAll
set_option maxHeartbeats 4000000 in
set_option maxRecDepth 100000 in
theorem c_X6_isRoom {l : Launch} {D : va_G} {cI cZ cM : ClassId} {a_this a_a a_fresh a_kept a_buffer a_best a_rentBy a_bareBy a_aheadBy a_isEdge a_tried a_stands a_found a_foundOn a_moving : Nat} {v_keptMany : Int32} {v_thrown : Int32} {v_buffered : Int32} {v_size : Int32} {v_at : Int32} {v_behind : Int32} {v_kind : Int32} {v_wrong : Int32} {v_wrongAt : Int32} {v_errorAt : Int32} {v_number : Int64} {v_movingMany : Int32} {v_foundIncome : Int32} {v_foundMoves : Int32} {res : Int32} {sz : Nat} {v_a : Nat → Int32} {x1 : Int32} {x2 : Int32} (hf : f_X6_isRoom v_a x1 x2 = some res) : Met l yX6_isRoom zwX6_isRoom rmX6_isRoom (zPc D (zT cI cZ cM) [.ref a_this, .int x1, .int x2] [(a_this, .inr (6, [.ref a_a, .ref a_fresh, .ref a_kept, .int v_keptMany, .int v_thrown, .ref a_buffer, .int v_buffered, .int v_size, .int v_at, .int v_behind, .int v_kind, .int v_wrong, .int v_wrongAt, .int v_errorAt, .long v_number, .ref a_best, .ref a_rentBy, .ref a_bareBy, .ref a_aheadBy, .ref a_isEdge, .ref a_tried, .ref a_stands, .ref a_found, .ref a_foundOn, .ref a_moving, .int v_movingMany, .int v_foundIncome, .int v_foundMoves])), (a_a, .inl (cI, 180, .inl v_a))] sz) (zQi D (zT cI cZ cM) res [(a_this, .inr (6, [.ref a_a, .ref a_fresh, .ref a_kept, .int v_keptMany, .int v_thrown, .ref a_buffer, .int v_buffered, .int v_size, .int v_at, .int v_behind, .int v_kind, .int v_wrong, .int v_wrongAt, .int v_errorAt, .long v_number, .ref a_best, .ref a_rentBy, .ref a_bareBy, .ref a_aheadBy, .ref a_isEdge, .ref a_tried, .ref a_stands, .ref a_found, .ref a_foundOn, .ref a_moving, .int v_movingMany, .int v_foundIncome, .int v_foundMoves])), (a_a, .inl (cI, 180, .inl v_a))] (va_A [(a_this, .inr (6, [.ref a_a, .ref a_fresh, .ref a_kept, .int v_keptMany, .int v_thrown, .ref a_buffer, .int v_buffered, .int v_size, .int v_at, .int v_behind, .int v_kind, .int v_wrong, .int v_wrongAt, .int v_errorAt, .long v_number, .ref a_best, .ref a_rentBy, .ref a_bareBy, .ref a_aheadBy, .ref a_isEdge, .ref a_tried, .ref a_stands, .ref a_found, .ref a_foundOn, .ref a_moving, .int v_movingMany, .int v_foundIncome, .int v_foundMoves])), (a_a, .inl (cI, 180, .inl v_a))] sz)) 0 0 (va_A [(a_this, .inr (6, [.ref a_a, .ref a_fresh, .ref a_kept, .int v_keptMany, .int v_thrown, .ref a_buffer, .int v_buffered, .int v_size, .int v_at, .int v_behind, .int v_kind, .int v_wrong, .int v_wrongAt, .int v_errorAt, .long v_number, .ref a_best, .ref a_rentBy, .ref a_bareBy, .ref a_aheadBy, .ref a_isEdge, .ref a_tried, .ref a_stands, .ref a_found, .ref a_foundOn, .ref a_moving, .int v_movingMany, .int v_foundIncome, .int v_foundMoves])), (a_a, .inl (cI, 180, .inl v_a))] sz) := by
  refine z_met (cc := cX6_isRoom) (maxL := 4) (ret := (some .boolean)) (by decide) rfl (Nat.le_of_ble_eq_true rfl) ?_
  intro p e s m below meth c ls E hsz hw hl
  obtain ⟨⟨hx, hb, hml, hown, hts⟩, hr, hlocks⟩ := id E
  have hl : lv_has ls 4 [(0, .ref a_this), (1, .int x1), (2, .int x2)] := hl
  unfold f_X6_isRoom at hf
  refine lv_iload_n hx hb dX6_isRoom_0 rfl (lv_at hl 2 rfl) ?_
  refine lv_aload_n hx hb dX6_isRoom_1 rfl (lv_at hl 0 rfl) ?_
  refine z_get E.1 hw in_wsX60 0 rfl rfl 0 (z_lt rfl) mw_593 (v := .ref a_a) rfl dX6_isRoom_2 ?_
  refine lv_bipush (v := 83) hx hb dX6_isRoom_5 (by decide) ?_
  refine lv_iload_n hx hb dX6_isRoom_7 rfl (lv_at hl 1 rfl) ?_
  refine lv_iadd hx hb dX6_isRoom_8 ?_
  obtain ⟨h_1, hf⟩ := oA_elim hf
  refine z_iald E.1 hw 1 0 rfl rfl h_1 dX6_isRoom_9 ?_
  refine lv_iadd hx hb dX6_isRoom_10 ?_
  refine lv_iconst (v := 1) hx hb dX6_isRoom_11 (by decide) ?_
  refine lv_isub hx hb dX6_isRoom_12 ?_
  obtain ⟨y_2, e_y_2, hf⟩ := oL_elim hf
  refine z_top e_y_2 ?_
  refine lv_istore_n (lv' := [(3, .int y_2), (0, .ref a_this), (1, .int x1), (2, .int x2)]) hx hb dX6_isRoom_13 rfl hl (z_lt rfl) rfl (fun ls hl => ?_)
  refine lv_iload_n hx hb dX6_isRoom_14 rfl (lv_at hl 0 rfl) ?_
  refine lv_aload_n hx hb dX6_isRoom_15 rfl (lv_at hl 1 rfl) ?_
  refine z_get E.1 hw in_wsX60 0 rfl rfl 0 (z_lt rfl) mw_593 (v := .ref a_a) rfl dX6_isRoom_16 ?_
  refine lv_iconst (v := 1) hx hb dX6_isRoom_19 (by decide) ?_
  obtain ⟨h_3, hf⟩ := oA_elim hf
  refine z_iald E.1 hw 1 0 rfl rfl h_3 dX6_isRoom_20 ?_
  refine lv_icmp_ge (tgt := 49) hx hb dX6_isRoom_21 (by decide) (fun hc => ?_) (fun hc => ?_)
  · have hf := oI_pos hc hf
    refine lv_iconst (v := 0) hx hb dX6_isRoom_49 (by decide) ?_
    cases hf
    exact z_zret E rfl z_n0 hw dX6_isRoom_50
  · have hf := oI_neg hc hf
    refine lv_aload_n hx hb dX6_isRoom_24 rfl (lv_at hl 1 rfl) ?_
    refine z_get E.1 hw in_wsX60 0 rfl rfl 0 (z_lt rfl) mw_593 (v := .ref a_a) rfl dX6_isRoom_25 ?_
    refine lv_bipush (v := 50) hx hb dX6_isRoom_28 (by decide) ?_
    refine lv_iload_n hx hb dX6_isRoom_30 rfl (lv_at hl 0 rfl) ?_
    refine lv_iadd hx hb dX6_isRoom_31 ?_
    obtain ⟨h_4, hf⟩ := oA_elim hf
    refine z_iald E.1 hw 1 0 rfl rfl h_4 dX6_isRoom_32 ?_
    refine lv_aload_n hx hb dX6_isRoom_33 rfl (lv_at hl 1 rfl) ?_
    refine z_get E.1 hw in_wsX60 0 rfl rfl 0 (z_lt rfl) mw_593 (v := .ref a_a) rfl dX6_isRoom_34 ?_
    refine lv_bipush (v := 50) hx hb dX6_isRoom_37 (by decide) ?_
    refine lv_iload_n hx hb dX6_isRoom_39 rfl (lv_at hl 3 rfl) ?_
    refine lv_iadd hx hb dX6_isRoom_40 ?_
    obtain ⟨h_5, hf⟩ := oA_elim hf
    refine z_iald E.1 hw 1 0 rfl rfl h_5 dX6_isRoom_41 ?_
    refine lv_icmp_ne (tgt := 49) hx hb dX6_isRoom_42 (by decide) (fun hc => ?_) (fun hc => ?_)
    · have hf := oI_neg hc hf
      refine lv_iconst (v := 0) hx hb dX6_isRoom_49 (by decide) ?_
      cases hf
      exact z_zret E rfl z_n0 hw dX6_isRoom_50
    · have hf := oI_pos hc hf
      refine lv_iconst (v := 1) hx hb dX6_isRoom_45 (by decide) ?_
      refine lv_goto (tgt := 50) hx hb dX6_isRoom_46 (by decide) ?_
      cases hf
      exact z_zret E rfl z_n1 hw dX6_isRoom_50
end
/-! X6_rentOf -/
section
variable {p : Program} {l : Launch} {e : Env} {s : State} {m : MethodId} {args : Array Value} {below : List Frame} {meth : Method} {c : Code} {D : va_G} {A : Nat → Prop} {cI cZ cM : ClassId} {a_this a_a a_fresh a_kept a_buffer a_best a_rentBy a_bareBy a_aheadBy a_isEdge a_tried a_stands a_found a_foundOn a_moving : Nat} {v_keptMany : Int32} {v_thrown : Int32} {v_buffered : Int32} {v_size : Int32} {v_at : Int32} {v_behind : Int32} {v_kind : Int32} {v_wrong : Int32} {v_wrongAt : Int32} {v_errorAt : Int32} {v_number : Int64} {v_movingMany : Int32} {v_foundIncome : Int32} {v_foundMoves : Int32} {res : Int32}
def rmX6_rentOf : Room := { frames := 0, cells := 0, slots := 0, locals := 0 }
abbrev zwX6_rentOf : List Cond := Cond.code yX6_rentOf cX6_rentOf 5 (some .int) :: wsAll
set_option maxHeartbeats 4000000 in
set_option maxRecDepth 100000 in
theorem w_X6_rentOf_5 {n : Nat} (E : zE p s m args meth c cX6_rentOf 5 (some .int) zwX6_rentOf RX6) : ∀ (fu : Nat), ∀ (x1 : Int32) (x2 : Int32) (x3 : Int32) (x4 : Int32) (v_a : Nat → Int32), f_X6_rentOf_5 n fu x1 x2 x3 x4 v_a = some res → ∀ (H : Heap) (locs : List Loc) (ls : Array Slot), zW D (zT cI cZ cM) A s [(a_this, .inr (6, [.ref a_a, .ref a_fresh, .ref a_kept, .int v_keptMany, .int v_thrown, .ref a_buffer, .int v_buffered, .int v_size, .int v_at, .int v_behind, .int v_kind, .int v_wrong, .int v_wrongAt, .int v_errorAt, .long v_number, .ref a_best, .ref a_rentBy, .ref a_bareBy, .ref a_aheadBy, .ref a_isEdge, .ref a_tried, .ref a_stands, .ref a_found, .ref a_foundOn, .ref a_moving, .int v_movingMany, .int v_foundIncome, .int v_foundMoves])), (a_a, .inl (cI, 180, .inl v_a))] H locs → lv_has ls 5 [(0, .ref a_this), (1, .int x1), (2, .int x2), (3, .int x3), (4, .int x4)] → W p l e rmX6_rentOf s m args below meth c H locs 0 0 (MQ below (zQi D (zT cI cZ cM) res [(a_this, .inr (6, [.ref a_a, .ref a_fresh, .ref a_kept, .int v_keptMany, .int v_thrown, .ref a_buffer, .int v_buffered, .int v_size, .int v_at, .int v_behind, .int v_kind, .int v_wrong, .int v_wrongAt, .int v_errorAt, .long v_number, .ref a_best, .ref a_rentBy, .ref a_bareBy, .ref a_aheadBy, .ref a_isEdge, .ref a_tried, .ref a_stands, .ref a_found, .ref a_foundOn, .ref a_moving, .int v_movingMany, .int v_foundIncome, .int v_foundMoves])), (a_a, .inl (cI, 180, .inl v_a))] A) args s 0 0 A) (F0 m 5 ls []) := by
  obtain ⟨⟨hx, hb, hml, hown, hts⟩, hr, hlocks⟩ := id E
  intro fu
  induction fu with
  | zero => intro x1 x2 x3 x4 v_a hf; rw [f_X6_rentOf_5.eq_1] at hf; cases hf
  | succ fu ih =>
    intro x1 x2 x3 x4 v_a hf H locs ls hw hl
    rw [f_X6_rentOf_5.eq_2] at hf
    refine lv_iload hx hb dX6_rentOf_5 (lv_at hl 4 rfl) ?_
    refine lv_aload_n hx hb dX6_rentOf_7 rfl (lv_at hl 0 rfl) ?_
    refine z_get E.1 hw in_wsX60 0 rfl rfl 0 (z_lt rfl) mw_593 (v := .ref a_a) rfl dX6_rentOf_8 ?_
    refine lv_bipush (v := 83) hx hb dX6_rentOf_11 (by decide) ?_
    refine lv_iload_n hx hb dX6_rentOf_13 rfl (lv_at hl 1 rfl) ?_
    refine lv_iadd hx hb dX6_rentOf_14 ?_
    obtain ⟨h_1, hf⟩ := oA_elim hf
    refine z_iald E.1 hw 1 0 rfl rfl h_1 dX6_rentOf_15 ?_
    refine lv_icmp_ge (tgt := 39) hx hb dX6_rentOf_16 (by decide) (fun hc => ?_) (fun hc => ?_)
    · have hf := oI_pos hc hf
      refine lv_iload_n hx hb dX6_rentOf_39 rfl (lv_at hl 3 rfl) ?_
      cases hf
      exact z_iret E rfl hw dX6_rentOf_40
    · have hf := oI_neg hc hf
      refine lv_iload_n hx hb dX6_rentOf_19 rfl (lv_at hl 3 rfl) ?_
      refine lv_aload_n hx hb dX6_rentOf_20 rfl (lv_at hl 0 rfl) ?_
      refine z_get E.1 hw in_wsX60 0 rfl rfl 0 (z_lt rfl) mw_593 (v := .ref a_a) rfl dX6_rentOf_21 ?_
      refine lv_iconst (v := 2) hx hb dX6_rentOf_24 (by decide) ?_
      refine lv_iload_n hx hb dX6_rentOf_25 rfl (lv_at hl 2 rfl) ?_
      refine lv_iadd hx hb dX6_rentOf_26 ?_
      refine lv_iload hx hb dX6_rentOf_27 (lv_at hl 4 rfl) ?_
      refine lv_iadd hx hb dX6_rentOf_29 ?_
      obtain ⟨h_2, hf⟩ := oA_elim hf
      refine z_iald E.1 hw 1 0 rfl rfl h_2 dX6_rentOf_30 ?_
      refine lv_iadd hx hb dX6_rentOf_31 ?_
      obtain ⟨y_3, e_y_3, hf⟩ := oL_elim hf
      refine z_top e_y_3 ?_
      refine lv_istore_n (lv' := [(3, .int y_3), (0, .ref a_this), (1, .int x1), (2, .int x2), (4, .int x4)]) hx hb dX6_rentOf_32 rfl hl (z_lt rfl) rfl (fun ls hl => ?_)
      refine lv_iinc (v := (x4 + (1 : Int32))) (lv' := [(4, .int (x4 + (1 : Int32))), (3, .int y_3), (0, .ref a_this), (1, .int x1), (2, .int x2)]) hx hb dX6_rentOf_33 hl (k := 4) rfl rfl (z_lt rfl) rfl (fun ls hl => ?_)
      refine lv_goto (tgt := 5) hx hb dX6_rentOf_36 (by decide) ?_
      exact ih _ _ _ _ _ hf _ _ _ hw (lv_sub hl [2, 3, 4, 1, 0] rfl)
set_option maxHeartbeats 4000000 in
set_option maxRecDepth 100000 in
theorem c_X6_rentOf {l : Launch} {D : va_G} {cI cZ cM : ClassId} {a_this a_a a_fresh a_kept a_buffer a_best a_rentBy a_bareBy a_aheadBy a_isEdge a_tried a_stands a_found a_foundOn a_moving : Nat} {v_keptMany : Int32} {v_thrown : Int32} {v_buffered : Int32} {v_size : Int32} {v_at : Int32} {v_behind : Int32} {v_kind : Int32} {v_wrong : Int32} {v_wrongAt : Int32} {v_errorAt : Int32} {v_number : Int64} {v_movingMany : Int32} {v_foundIncome : Int32} {v_foundMoves : Int32} {res : Int32} {sz : Nat} {n : Nat} {v_a : Nat → Int32} {x1 : Int32} {x2 : Int32} (hf : f_X6_rentOf n v_a x1 x2 = some res) : Met l yX6_rentOf zwX6_rentOf rmX6_rentOf (zPc D (zT cI cZ cM) [.ref a_this, .int x1, .int x2] [(a_this, .inr (6, [.ref a_a, .ref a_fresh, .ref a_kept, .int v_keptMany, .int v_thrown, .ref a_buffer, .int v_buffered, .int v_size, .int v_at, .int v_behind, .int v_kind, .int v_wrong, .int v_wrongAt, .int v_errorAt, .long v_number, .ref a_best, .ref a_rentBy, .ref a_bareBy, .ref a_aheadBy, .ref a_isEdge, .ref a_tried, .ref a_stands, .ref a_found, .ref a_foundOn, .ref a_moving, .int v_movingMany, .int v_foundIncome, .int v_foundMoves])), (a_a, .inl (cI, 180, .inl v_a))] sz) (zQi D (zT cI cZ cM) res [(a_this, .inr (6, [.ref a_a, .ref a_fresh, .ref a_kept, .int v_keptMany, .int v_thrown, .ref a_buffer, .int v_buffered, .int v_size, .int v_at, .int v_behind, .int v_kind, .int v_wrong, .int v_wrongAt, .int v_errorAt, .long v_number, .ref a_best, .ref a_rentBy, .ref a_bareBy, .ref a_aheadBy, .ref a_isEdge, .ref a_tried, .ref a_stands, .ref a_found, .ref a_foundOn, .ref a_moving, .int v_movingMany, .int v_foundIncome, .int v_foundMoves])), (a_a, .inl (cI, 180, .inl v_a))] (va_A [(a_this, .inr (6, [.ref a_a, .ref a_fresh, .ref a_kept, .int v_keptMany, .int v_thrown, .ref a_buffer, .int v_buffered, .int v_size, .int v_at, .int v_behind, .int v_kind, .int v_wrong, .int v_wrongAt, .int v_errorAt, .long v_number, .ref a_best, .ref a_rentBy, .ref a_bareBy, .ref a_aheadBy, .ref a_isEdge, .ref a_tried, .ref a_stands, .ref a_found, .ref a_foundOn, .ref a_moving, .int v_movingMany, .int v_foundIncome, .int v_foundMoves])), (a_a, .inl (cI, 180, .inl v_a))] sz)) 0 0 (va_A [(a_this, .inr (6, [.ref a_a, .ref a_fresh, .ref a_kept, .int v_keptMany, .int v_thrown, .ref a_buffer, .int v_buffered, .int v_size, .int v_at, .int v_behind, .int v_kind, .int v_wrong, .int v_wrongAt, .int v_errorAt, .long v_number, .ref a_best, .ref a_rentBy, .ref a_bareBy, .ref a_aheadBy, .ref a_isEdge, .ref a_tried, .ref a_stands, .ref a_found, .ref a_foundOn, .ref a_moving, .int v_movingMany, .int v_foundIncome, .int v_foundMoves])), (a_a, .inl (cI, 180, .inl v_a))] sz) := by
  refine z_met (cc := cX6_rentOf) (maxL := 5) (ret := (some .int)) (by decide) rfl (Nat.le_of_ble_eq_true rfl) ?_
  intro p e s m below meth c ls E hsz hw hl
  obtain ⟨⟨hx, hb, hml, hown, hts⟩, hr, hlocks⟩ := id E
  have hl : lv_has ls 5 [(0, .ref a_this), (1, .int x1), (2, .int x2)] := hl
  unfold f_X6_rentOf at hf
  refine lv_iconst (v := 0) hx hb dX6_rentOf_0 (by decide) ?_
  refine lv_istore_n (lv' := [(3, .int (0 : Int32)), (0, .ref a_this), (1, .int x1), (2, .int x2)]) hx hb dX6_rentOf_1 rfl hl (z_lt rfl) rfl (fun ls hl => ?_)
  refine lv_iconst (v := 0) hx hb dX6_rentOf_2 (by decide) ?_
  refine lv_istore (lv' := [(4, .int (0 : Int32)), (3, .int (0 : Int32)), (0, .ref a_this), (1, .int x1), (2, .int x2)]) hx hb dX6_rentOf_3 hl (z_lt rfl) rfl (fun ls hl => ?_)
  exact w_X6_rentOf_5 E  n _ _ _ _ _ hf _ _ _ hw (lv_sub hl [2, 3, 4, 1, 0] rfl)
end
/-! X6_laysBlocks -/
section
variable {p : Program} {l : Launch} {e : Env} {s : State} {m : MethodId} {args : Array Value} {below : List Frame} {meth : Method} {c : Code} {D : va_G} {A : Nat → Prop} {cI cZ cM : ClassId} {a_this a_a a_fresh a_kept a_buffer a_best a_rentBy a_bareBy a_aheadBy a_isEdge a_tried a_stands a_found a_foundOn a_moving : Nat} {v_keptMany : Int32} {v_thrown : Int32} {v_buffered : Int32} {v_size : Int32} {v_at : Int32} {v_behind : Int32} {v_kind : Int32} {v_wrong : Int32} {v_wrongAt : Int32} {v_errorAt : Int32} {v_number : Int64} {v_movingMany : Int32} {v_foundIncome : Int32} {v_foundMoves : Int32} {res : (Nat → Int32) × (Nat → Int32) × (Nat → Int32)}
def rmX6_laysBlocks : Room := { frames := 1, cells := 0, slots := 0, locals := 24 }
abbrev zwX6_laysBlocks : List Cond := Cond.code yX6_laysBlocks cX6_laysBlocks 4 none :: wsAll
set_option maxHeartbeats 4000000 in
set_option maxRecDepth 100000 in
theorem w_X6_laysBlocks_131 {n : Nat} (E : zE p s m args meth c cX6_laysBlocks 4 none zwX6_laysBlocks RX6) {k2 : Int32 → (Nat → Int32) → (Nat → Int32) → (Nat → Int32) → (Nat → Int32) → Option ((Nat → Int32) × (Nat → Int32) × (Nat → Int32))} (hk2 : ∀ (x1 : Int32) (v_a : Nat → Int32) (v_rentBy : Nat → Int32) (v_bareBy : Nat → Int32) (v_aheadBy : Nat → Int32), k2 x1 v_a v_rentBy v_bareBy v_aheadBy = some res → ∀ (H : Heap) (locs : List Loc) (ls : Array Slot), zW D (zT cI cZ cM) A s [(a_this, .inr (6, [.ref a_a, .ref a_fresh, .ref a_kept, .int v_keptMany, .int v_thrown, .ref a_buffer, .int v_buffered, .int v_size, .int v_at, .int v_behind, .int v_kind, .int v_wrong, .int v_wrongAt, .int v_errorAt, .long v_number, .ref a_best, .ref a_rentBy, .ref a_bareBy, .ref a_aheadBy, .ref a_isEdge, .ref a_tried, .ref a_stands, .ref a_found, .ref a_foundOn, .ref a_moving, .int v_movingMany, .int v_foundIncome, .int v_foundMoves])), (a_a, .inl (cI, 180, .inl v_a)), (a_rentBy, .inl (cI, 192, .inl v_rentBy)), (a_bareBy, .inl (cI, 192, .inl v_bareBy)), (a_aheadBy, .inl (cI, 192, .inl v_aheadBy))] H locs → lv_has ls 4 [(0, .ref a_this), (1, .int x1)] → W p l e rmX6_laysBlocks s m args below meth c H locs 0 0 (MQ below (zQv D (zT cI cZ cM) [(a_this, .inr (6, [.ref a_a, .ref a_fresh, .ref a_kept, .int v_keptMany, .int v_thrown, .ref a_buffer, .int v_buffered, .int v_size, .int v_at, .int v_behind, .int v_kind, .int v_wrong, .int v_wrongAt, .int v_errorAt, .long v_number, .ref a_best, .ref a_rentBy, .ref a_bareBy, .ref a_aheadBy, .ref a_isEdge, .ref a_tried, .ref a_stands, .ref a_found, .ref a_foundOn, .ref a_moving, .int v_movingMany, .int v_foundIncome, .int v_foundMoves])), (a_a, .inl (cI, 180, .inl v_a)), (a_rentBy, .inl (cI, 192, .inl res.1)), (a_bareBy, .inl (cI, 192, .inl res.2.1)), (a_aheadBy, .inl (cI, 192, .inl res.2.2))] A) args s 0 0 A) (F0 m 2 ls [])) {k15 : Int32 → Int32 → (Nat → Int32) → (Nat → Int32) → (Nat → Int32) → (Nat → Int32) → Option ((Nat → Int32) × (Nat → Int32) × (Nat → Int32))} (hk15 : ∀ (x1 : Int32) (x2 : Int32) (v_a : Nat → Int32) (v_rentBy : Nat → Int32) (v_bareBy : Nat → Int32) (v_aheadBy : Nat → Int32), k15 x1 x2 v_a v_rentBy v_bareBy v_aheadBy = some res → ∀ (H : Heap) (locs : List Loc) (ls : Array Slot), zW D (zT cI cZ cM) A s [(a_this, .inr (6, [.ref a_a, .ref a_fresh, .ref a_kept, .int v_keptMany, .int v_thrown, .ref a_buffer, .int v_buffered, .int v_size, .int v_at, .int v_behind, .int v_kind, .int v_wrong, .int v_wrongAt, .int v_errorAt, .long v_number, .ref a_best, .ref a_rentBy, .ref a_bareBy, .ref a_aheadBy, .ref a_isEdge, .ref a_tried, .ref a_stands, .ref a_found, .ref a_foundOn, .ref a_moving, .int v_movingMany, .int v_foundIncome, .int v_foundMoves])), (a_a, .inl (cI, 180, .inl v_a)), (a_rentBy, .inl (cI, 192, .inl v_rentBy)), (a_bareBy, .inl (cI, 192, .inl v_bareBy)), (a_aheadBy, .inl (cI, 192, .inl v_aheadBy))] H locs → lv_has ls 4 [(0, .ref a_this), (1, .int x1), (2, .int x2)] → W p l e rmX6_laysBlocks s m args below meth c H locs 0 0 (MQ below (zQv D (zT cI cZ cM) [(a_this, .inr (6, [.ref a_a, .ref a_fresh, .ref a_kept, .int v_keptMany, .int v_thrown, .ref a_buffer, .int v_buffered, .int v_size, .int v_at, .int v_behind, .int v_kind, .int v_wrong, .int v_wrongAt, .int v_errorAt, .long v_number, .ref a_best, .ref a_rentBy, .ref a_bareBy, .ref a_aheadBy, .ref a_isEdge, .ref a_tried, .ref a_stands, .ref a_found, .ref a_foundOn, .ref a_moving, .int v_movingMany, .int v_foundIncome, .int v_foundMoves])), (a_a, .inl (cI, 180, .inl v_a)), (a_rentBy, .inl (cI, 192, .inl res.1)), (a_bareBy, .inl (cI, 192, .inl res.2.1)), (a_aheadBy, .inl (cI, 192, .inl res.2.2))] A) args s 0 0 A) (F0 m 15 ls [])) : ∀ (x1 : Int32) (x2 : Int32) (v_a : Nat → Int32) (v_rentBy : Nat → Int32) (v_bareBy : Nat → Int32) (v_aheadBy : Nat → Int32), f_X6_laysBlocks_131 n k2 k15 x1 x2 v_a v_rentBy v_bareBy v_aheadBy = some res → ∀ (H : Heap) (locs : List Loc) (ls : Array Slot), zW D (zT cI cZ cM) A s [(a_this, .inr (6, [.ref a_a, .ref a_fresh, .ref a_kept, .int v_keptMany, .int v_thrown, .ref a_buffer, .int v_buffered, .int v_size, .int v_at, .int v_behind, .int v_kind, .int v_wrong, .int v_wrongAt, .int v_errorAt, .long v_number, .ref a_best, .ref a_rentBy, .ref a_bareBy, .ref a_aheadBy, .ref a_isEdge, .ref a_tried, .ref a_stands, .ref a_found, .ref a_foundOn, .ref a_moving, .int v_movingMany, .int v_foundIncome, .int v_foundMoves])), (a_a, .inl (cI, 180, .inl v_a)), (a_rentBy, .inl (cI, 192, .inl v_rentBy)), (a_bareBy, .inl (cI, 192, .inl v_bareBy)), (a_aheadBy, .inl (cI, 192, .inl v_aheadBy))] H locs → lv_has ls 4 [(0, .ref a_this), (1, .int x1), (2, .int x2)] → W p l e rmX6_laysBlocks s m args below meth c H locs 0 0 (MQ below (zQv D (zT cI cZ cM) [(a_this, .inr (6, [.ref a_a, .ref a_fresh, .ref a_kept, .int v_keptMany, .int v_thrown, .ref a_buffer, .int v_buffered, .int v_size, .int v_at, .int v_behind, .int v_kind, .int v_wrong, .int v_wrongAt, .int v_errorAt, .long v_number, .ref a_best, .ref a_rentBy, .ref a_bareBy, .ref a_aheadBy, .ref a_isEdge, .ref a_tried, .ref a_stands, .ref a_found, .ref a_foundOn, .ref a_moving, .int v_movingMany, .int v_foundIncome, .int v_foundMoves])), (a_a, .inl (cI, 180, .inl v_a)), (a_rentBy, .inl (cI, 192, .inl res.1)), (a_bareBy, .inl (cI, 192, .inl res.2.1)), (a_aheadBy, .inl (cI, 192, .inl res.2.2))] A) args s 0 0 A) (F0 m 131 ls []) := by
  obtain ⟨⟨hx, hb, hml, hown, hts⟩, hr, hlocks⟩ := id E
  intro x1 x2 v_a v_rentBy v_bareBy v_aheadBy hf H locs ls hw hl
  unfold f_X6_laysBlocks_131 at hf
  refine lv_iinc (v := (x2 + (1 : Int32))) (lv' := [(2, .int (x2 + (1 : Int32))), (0, .ref a_this), (1, .int x1)]) hx hb dX6_laysBlocks_131 hl (k := 2) rfl rfl (z_lt rfl) rfl (fun ls hl => ?_)
  refine lv_goto (tgt := 15) hx hb dX6_laysBlocks_134 (by decide) ?_
  exact hk15 _ _ _ _ _ _ hf _ _ _ hw (lv_sub hl [1, 2, 0] rfl)
set_option maxHeartbeats 4000000 in
set_option maxRecDepth 100000 in
theorem w_X6_laysBlocks_130 {n : Nat} (E : zE p s m args meth c cX6_laysBlocks 4 none zwX6_laysBlocks RX6) {k2 : Int32 → (Nat → Int32) → (Nat → Int32) → (Nat → Int32) → (Nat → Int32) → Option ((Nat → Int32) × (Nat → Int32) × (Nat → Int32))} (hk2 : ∀ (x1 : Int32) (v_a : Nat → Int32) (v_rentBy : Nat → Int32) (v_bareBy : Nat → Int32) (v_aheadBy : Nat → Int32), k2 x1 v_a v_rentBy v_bareBy v_aheadBy = some res → ∀ (H : Heap) (locs : List Loc) (ls : Array Slot), zW D (zT cI cZ cM) A s [(a_this, .inr (6, [.ref a_a, .ref a_fresh, .ref a_kept, .int v_keptMany, .int v_thrown, .ref a_buffer, .int v_buffered, .int v_size, .int v_at, .int v_behind, .int v_kind, .int v_wrong, .int v_wrongAt, .int v_errorAt, .long v_number, .ref a_best, .ref a_rentBy, .ref a_bareBy, .ref a_aheadBy, .ref a_isEdge, .ref a_tried, .ref a_stands, .ref a_found, .ref a_foundOn, .ref a_moving, .int v_movingMany, .int v_foundIncome, .int v_foundMoves])), (a_a, .inl (cI, 180, .inl v_a)), (a_rentBy, .inl (cI, 192, .inl v_rentBy)), (a_bareBy, .inl (cI, 192, .inl v_bareBy)), (a_aheadBy, .inl (cI, 192, .inl v_aheadBy))] H locs → lv_has ls 4 [(0, .ref a_this), (1, .int x1)] → W p l e rmX6_laysBlocks s m args below meth c H locs 0 0 (MQ below (zQv D (zT cI cZ cM) [(a_this, .inr (6, [.ref a_a, .ref a_fresh, .ref a_kept, .int v_keptMany, .int v_thrown, .ref a_buffer, .int v_buffered, .int v_size, .int v_at, .int v_behind, .int v_kind, .int v_wrong, .int v_wrongAt, .int v_errorAt, .long v_number, .ref a_best, .ref a_rentBy, .ref a_bareBy, .ref a_aheadBy, .ref a_isEdge, .ref a_tried, .ref a_stands, .ref a_found, .ref a_foundOn, .ref a_moving, .int v_movingMany, .int v_foundIncome, .int v_foundMoves])), (a_a, .inl (cI, 180, .inl v_a)), (a_rentBy, .inl (cI, 192, .inl res.1)), (a_bareBy, .inl (cI, 192, .inl res.2.1)), (a_aheadBy, .inl (cI, 192, .inl res.2.2))] A) args s 0 0 A) (F0 m 2 ls [])) {k15 : Int32 → Int32 → (Nat → Int32) → (Nat → Int32) → (Nat → Int32) → (Nat → Int32) → Option ((Nat → Int32) × (Nat → Int32) × (Nat → Int32))} (hk15 : ∀ (x1 : Int32) (x2 : Int32) (v_a : Nat → Int32) (v_rentBy : Nat → Int32) (v_bareBy : Nat → Int32) (v_aheadBy : Nat → Int32), k15 x1 x2 v_a v_rentBy v_bareBy v_aheadBy = some res → ∀ (H : Heap) (locs : List Loc) (ls : Array Slot), zW D (zT cI cZ cM) A s [(a_this, .inr (6, [.ref a_a, .ref a_fresh, .ref a_kept, .int v_keptMany, .int v_thrown, .ref a_buffer, .int v_buffered, .int v_size, .int v_at, .int v_behind, .int v_kind, .int v_wrong, .int v_wrongAt, .int v_errorAt, .long v_number, .ref a_best, .ref a_rentBy, .ref a_bareBy, .ref a_aheadBy, .ref a_isEdge, .ref a_tried, .ref a_stands, .ref a_found, .ref a_foundOn, .ref a_moving, .int v_movingMany, .int v_foundIncome, .int v_foundMoves])), (a_a, .inl (cI, 180, .inl v_a)), (a_rentBy, .inl (cI, 192, .inl v_rentBy)), (a_bareBy, .inl (cI, 192, .inl v_bareBy)), (a_aheadBy, .inl (cI, 192, .inl v_aheadBy))] H locs → lv_has ls 4 [(0, .ref a_this), (1, .int x1), (2, .int x2)] → W p l e rmX6_laysBlocks s m args below meth c H locs 0 0 (MQ below (zQv D (zT cI cZ cM) [(a_this, .inr (6, [.ref a_a, .ref a_fresh, .ref a_kept, .int v_keptMany, .int v_thrown, .ref a_buffer, .int v_buffered, .int v_size, .int v_at, .int v_behind, .int v_kind, .int v_wrong, .int v_wrongAt, .int v_errorAt, .long v_number, .ref a_best, .ref a_rentBy, .ref a_bareBy, .ref a_aheadBy, .ref a_isEdge, .ref a_tried, .ref a_stands, .ref a_found, .ref a_foundOn, .ref a_moving, .int v_movingMany, .int v_foundIncome, .int v_foundMoves])), (a_a, .inl (cI, 180, .inl v_a)), (a_rentBy, .inl (cI, 192, .inl res.1)), (a_bareBy, .inl (cI, 192, .inl res.2.1)), (a_aheadBy, .inl (cI, 192, .inl res.2.2))] A) args s 0 0 A) (F0 m 15 ls [])) : ∀ (t1 : Int32) (t2 : Int32) (x1 : Int32) (x2 : Int32) (v_a : Nat → Int32) (v_rentBy : Nat → Int32) (v_bareBy : Nat → Int32) (v_aheadBy : Nat → Int32), f_X6_laysBlocks_130 n k2 k15 t1 t2 x1 x2 v_a v_rentBy v_bareBy v_aheadBy = some res → ∀ (H : Heap) (locs : List Loc) (ls : Array Slot), zW D (zT cI cZ cM) A s [(a_this, .inr (6, [.ref a_a, .ref a_fresh, .ref a_kept, .int v_keptMany, .int v_thrown, .ref a_buffer, .int v_buffered, .int v_size, .int v_at, .int v_behind, .int v_kind, .int v_wrong, .int v_wrongAt, .int v_errorAt, .long v_number, .ref a_best, .ref a_rentBy, .ref a_bareBy, .ref a_aheadBy, .ref a_isEdge, .ref a_tried, .ref a_stands, .ref a_found, .ref a_foundOn, .ref a_moving, .int v_movingMany, .int v_foundIncome, .int v_foundMoves])), (a_a, .inl (cI, 180, .inl v_a)), (a_rentBy, .inl (cI, 192, .inl v_rentBy)), (a_bareBy, .inl (cI, 192, .inl v_bareBy)), (a_aheadBy, .inl (cI, 192, .inl v_aheadBy))] H locs → lv_has ls 4 [(0, .ref a_this), (1, .int x1), (2, .int x2)] → W p l e rmX6_laysBlocks s m args below meth c H locs 0 0 (MQ below (zQv D (zT cI cZ cM) [(a_this, .inr (6, [.ref a_a, .ref a_fresh, .ref a_kept, .int v_keptMany, .int v_thrown, .ref a_buffer, .int v_buffered, .int v_size, .int v_at, .int v_behind, .int v_kind, .int v_wrong, .int v_wrongAt, .int v_errorAt, .long v_number, .ref a_best, .ref a_rentBy, .ref a_bareBy, .ref a_aheadBy, .ref a_isEdge, .ref a_tried, .ref a_stands, .ref a_found, .ref a_foundOn, .ref a_moving, .int v_movingMany, .int v_foundIncome, .int v_foundMoves])), (a_a, .inl (cI, 180, .inl v_a)), (a_rentBy, .inl (cI, 192, .inl res.1)), (a_bareBy, .inl (cI, 192, .inl res.2.1)), (a_aheadBy, .inl (cI, 192, .inl res.2.2))] A) args s 0 0 A) (F0 m 130 ls [.int t2, .int t1, .ref a_aheadBy]) := by
  obtain ⟨⟨hx, hb, hml, hown, hts⟩, hr, hlocks⟩ := id E
  intro t1 t2 x1 x2 v_a v_rentBy v_bareBy v_aheadBy hf H locs ls hw hl
  unfold f_X6_laysBlocks_130 at hf
  obtain ⟨h_1, hf⟩ := oA_elim hf
  obtain ⟨v_2, e_v_2, hf⟩ := oL_elim hf
  refine z_iast (ws' := [(a_this, .inr (6, [.ref a_a, .ref a_fresh, .ref a_kept, .int v_keptMany, .int v_thrown, .ref a_buffer, .int v_buffered, .int v_size, .int v_at, .int v_behind, .int v_kind, .int v_wrong, .int v_wrongAt, .int v_errorAt, .long v_number, .ref a_best, .ref a_rentBy, .ref a_bareBy, .ref a_aheadBy, .ref a_isEdge, .ref a_tried, .ref a_stands, .ref a_found, .ref a_foundOn, .ref a_moving, .int v_movingMany, .int v_foundIncome, .int v_foundMoves])), (a_a, .inl (cI, 180, .inl v_a)), (a_rentBy, .inl (cI, 192, .inl v_rentBy)), (a_bareBy, .inl (cI, 192, .inl v_bareBy)), (a_aheadBy, .inl (cI, 192, .inl v_2))]) E.1 hw 4 0 rfl rfl h_1 (by subst e_v_2; rfl) dX6_laysBlocks_130 (fun H locs hw => ?_)
  exact w_X6_laysBlocks_131 E hk2 hk15 _ _ _ _ _ _ hf _ _ _ hw (lv_sub hl [0, 1, 2] rfl)
set_option maxHeartbeats 4000000 in
set_option maxRecDepth 100000 in
theorem w_X6_laysBlocks_74 {n : Nat} (E : zE p s m args meth c cX6_laysBlocks 4 none zwX6_laysBlocks RX6) {k2 : Int32 → (Nat → Int32) → (Nat → Int32) → (Nat → Int32) → (Nat → Int32) → Option ((Nat → Int32) × (Nat → Int32) × (Nat → Int32))} (hk2 : ∀ (x1 : Int32) (v_a : Nat → Int32) (v_rentBy : Nat → Int32) (v_bareBy : Nat → Int32) (v_aheadBy : Nat → Int32), k2 x1 v_a v_rentBy v_bareBy v_aheadBy = some res → ∀ (H : Heap) (locs : List Loc) (ls : Array Slot), zW D (zT cI cZ cM) A s [(a_this, .inr (6, [.ref a_a, .ref a_fresh, .ref a_kept, .int v_keptMany, .int v_thrown, .ref a_buffer, .int v_buffered, .int v_size, .int v_at, .int v_behind, .int v_kind, .int v_wrong, .int v_wrongAt, .int v_errorAt, .long v_number, .ref a_best, .ref a_rentBy, .ref a_bareBy, .ref a_aheadBy, .ref a_isEdge, .ref a_tried, .ref a_stands, .ref a_found, .ref a_foundOn, .ref a_moving, .int v_movingMany, .int v_foundIncome, .int v_foundMoves])), (a_a, .inl (cI, 180, .inl v_a)), (a_rentBy, .inl (cI, 192, .inl v_rentBy)), (a_bareBy, .inl (cI, 192, .inl v_bareBy)), (a_aheadBy, .inl (cI, 192, .inl v_aheadBy))] H locs → lv_has ls 4 [(0, .ref a_this), (1, .int x1)] → W p l e rmX6_laysBlocks s m args below meth c H locs 0 0 (MQ below (zQv D (zT cI cZ cM) [(a_this, .inr (6, [.ref a_a, .ref a_fresh, .ref a_kept, .int v_keptMany, .int v_thrown, .ref a_buffer, .int v_buffered, .int v_size, .int v_at, .int v_behind, .int v_kind, .int v_wrong, .int v_wrongAt, .int v_errorAt, .long v_number, .ref a_best, .ref a_rentBy, .ref a_bareBy, .ref a_aheadBy, .ref a_isEdge, .ref a_tried, .ref a_stands, .ref a_found, .ref a_foundOn, .ref a_moving, .int v_movingMany, .int v_foundIncome, .int v_foundMoves])), (a_a, .inl (cI, 180, .inl v_a)), (a_rentBy, .inl (cI, 192, .inl res.1)), (a_bareBy, .inl (cI, 192, .inl res.2.1)), (a_aheadBy, .inl (cI, 192, .inl res.2.2))] A) args s 0 0 A) (F0 m 2 ls [])) {k15 : Int32 → Int32 → (Nat → Int32) → (Nat → Int32) → (Nat → Int32) → (Nat → Int32) → Option ((Nat → Int32) × (Nat → Int32) × (Nat → Int32))} (hk15 : ∀ (x1 : Int32) (x2 : Int32) (v_a : Nat → Int32) (v_rentBy : Nat → Int32) (v_bareBy : Nat → Int32) (v_aheadBy : Nat → Int32), k15 x1 x2 v_a v_rentBy v_bareBy v_aheadBy = some res → ∀ (H : Heap) (locs : List Loc) (ls : Array Slot), zW D (zT cI cZ cM) A s [(a_this, .inr (6, [.ref a_a, .ref a_fresh, .ref a_kept, .int v_keptMany, .int v_thrown, .ref a_buffer, .int v_buffered, .int v_size, .int v_at, .int v_behind, .int v_kind, .int v_wrong, .int v_wrongAt, .int v_errorAt, .long v_number, .ref a_best, .ref a_rentBy, .ref a_bareBy, .ref a_aheadBy, .ref a_isEdge, .ref a_tried, .ref a_stands, .ref a_found, .ref a_foundOn, .ref a_moving, .int v_movingMany, .int v_foundIncome, .int v_foundMoves])), (a_a, .inl (cI, 180, .inl v_a)), (a_rentBy, .inl (cI, 192, .inl v_rentBy)), (a_bareBy, .inl (cI, 192, .inl v_bareBy)), (a_aheadBy, .inl (cI, 192, .inl v_aheadBy))] H locs → lv_has ls 4 [(0, .ref a_this), (1, .int x1), (2, .int x2)] → W p l e rmX6_laysBlocks s m args below meth c H locs 0 0 (MQ below (zQv D (zT cI cZ cM) [(a_this, .inr (6, [.ref a_a, .ref a_fresh, .ref a_kept, .int v_keptMany, .int v_thrown, .ref a_buffer, .int v_buffered, .int v_size, .int v_at, .int v_behind, .int v_kind, .int v_wrong, .int v_wrongAt, .int v_errorAt, .long v_number, .ref a_best, .ref a_rentBy, .ref a_bareBy, .ref a_aheadBy, .ref a_isEdge, .ref a_tried, .ref a_stands, .ref a_found, .ref a_foundOn, .ref a_moving, .int v_movingMany, .int v_foundIncome, .int v_foundMoves])), (a_a, .inl (cI, 180, .inl v_a)), (a_rentBy, .inl (cI, 192, .inl res.1)), (a_bareBy, .inl (cI, 192, .inl res.2.1)), (a_aheadBy, .inl (cI, 192, .inl res.2.2))] A) args s 0 0 A) (F0 m 15 ls [])) : ∀ (t1 : Int32) (t2 : Int32) (x1 : Int32) (x2 : Int32) (x3 : Int32) (v_a : Nat → Int32) (v_rentBy : Nat → Int32) (v_bareBy : Nat → Int32) (v_aheadBy : Nat → Int32), f_X6_laysBlocks_74 n k2 k15 t1 t2 x1 x2 x3 v_a v_rentBy v_bareBy v_aheadBy = some res → ∀ (H : Heap) (locs : List Loc) (ls : Array Slot), zW D (zT cI cZ cM) A s [(a_this, .inr (6, [.ref a_a, .ref a_fresh, .ref a_kept, .int v_keptMany, .int v_thrown, .ref a_buffer, .int v_buffered, .int v_size, .int v_at, .int v_behind, .int v_kind, .int v_wrong, .int v_wrongAt, .int v_errorAt, .long v_number, .ref a_best, .ref a_rentBy, .ref a_bareBy, .ref a_aheadBy, .ref a_isEdge, .ref a_tried, .ref a_stands, .ref a_found, .ref a_foundOn, .ref a_moving, .int v_movingMany, .int v_foundIncome, .int v_foundMoves])), (a_a, .inl (cI, 180, .inl v_a)), (a_rentBy, .inl (cI, 192, .inl v_rentBy)), (a_bareBy, .inl (cI, 192, .inl v_bareBy)), (a_aheadBy, .inl (cI, 192, .inl v_aheadBy))] H locs → lv_has ls 4 [(0, .ref a_this), (1, .int x1), (2, .int x2), (3, .int x3)] → W p l e rmX6_laysBlocks s m args below meth c H locs 0 0 (MQ below (zQv D (zT cI cZ cM) [(a_this, .inr (6, [.ref a_a, .ref a_fresh, .ref a_kept, .int v_keptMany, .int v_thrown, .ref a_buffer, .int v_buffered, .int v_size, .int v_at, .int v_behind, .int v_kind, .int v_wrong, .int v_wrongAt, .int v_errorAt, .long v_number, .ref a_best, .ref a_rentBy, .ref a_bareBy, .ref a_aheadBy, .ref a_isEdge, .ref a_tried, .ref a_stands, .ref a_found, .ref a_foundOn, .ref a_moving, .int v_movingMany, .int v_foundIncome, .int v_foundMoves])), (a_a, .inl (cI, 180, .inl v_a)), (a_rentBy, .inl (cI, 192, .inl res.1)), (a_bareBy, .inl (cI, 192, .inl res.2.1)), (a_aheadBy, .inl (cI, 192, .inl res.2.2))] A) args s 0 0 A) (F0 m 74 ls [.int t2, .int t1, .ref a_rentBy]) := by
  obtain ⟨⟨hx, hb, hml, hown, hts⟩, hr, hlocks⟩ := id E
  intro t1 t2 x1 x2 x3 v_a v_rentBy v_bareBy v_aheadBy hf H locs ls hw hl
  unfold f_X6_laysBlocks_74 at hf
  obtain ⟨h_3, hf⟩ := oA_elim hf
  obtain ⟨v_4, e_v_4, hf⟩ := oL_elim hf
  refine z_iast (ws' := [(a_this, .inr (6, [.ref a_a, .ref a_fresh, .ref a_kept, .int v_keptMany, .int v_thrown, .ref a_buffer, .int v_buffered, .int v_size, .int v_at, .int v_behind, .int v_kind, .int v_wrong, .int v_wrongAt, .int v_errorAt, .long v_number, .ref a_best, .ref a_rentBy, .ref a_bareBy, .ref a_aheadBy, .ref a_isEdge, .ref a_tried, .ref a_stands, .ref a_found, .ref a_foundOn, .ref a_moving, .int v_movingMany, .int v_foundIncome, .int v_foundMoves])), (a_a, .inl (cI, 180, .inl v_a)), (a_rentBy, .inl (cI, 192, .inl v_4)), (a_bareBy, .inl (cI, 192, .inl v_bareBy)), (a_aheadBy, .inl (cI, 192, .inl v_aheadBy))]) E.1 hw 2 0 rfl rfl h_3 (by subst e_v_4; rfl) dX6_laysBlocks_74 (fun H locs hw => ?_)
  refine lv_aload_n hx hb dX6_laysBlocks_75 rfl (lv_at hl 0 rfl) ?_
  refine z_get E.1 hw in_wsX60 0 rfl rfl 16 (z_lt rfl) mw_621 (v := .ref a_rentBy) rfl dX6_laysBlocks_76 ?_
  refine lv_iload_n hx hb dX6_laysBlocks_79 rfl (lv_at hl 3 rfl) ?_
  obtain ⟨h_5, hf⟩ := oA_elim hf
  refine z_iald E.1 hw 2 0 rfl rfl h_5 dX6_laysBlocks_80 ?_
  refine lv_iconst (v := -1) hx hb dX6_laysBlocks_81 (by decide) ?_
  refine lv_icmp_ne (tgt := 88) hx hb dX6_laysBlocks_82 (by decide) (fun hc => ?_) (fun hc => ?_)
  · have hf := oI_neg hc hf
    refine lv_aload_n hx hb dX6_laysBlocks_88 rfl (lv_at hl 0 rfl) ?_
    refine z_get E.1 hw in_wsX60 0 rfl rfl 17 (z_lt rfl) mw_622 (v := .ref a_bareBy) rfl dX6_laysBlocks_89 ?_
    refine lv_iload_n hx hb dX6_laysBlocks_92 rfl (lv_at hl 3 rfl) ?_
    refine lv_aload_n hx hb dX6_laysBlocks_93 rfl (lv_at hl 0 rfl) ?_
    refine lv_iload_n hx hb dX6_laysBlocks_94 rfl (lv_at hl 1 rfl) ?_
    refine lv_iload_n hx hb dX6_laysBlocks_95 rfl (lv_at hl 2 rfl) ?_
    obtain ⟨r_6, h_7, hf⟩ := oB_elim hf
    refine z_callVi (ws' := [(a_this, .inr (6, [.ref a_a, .ref a_fresh, .ref a_kept, .int v_keptMany, .int v_thrown, .ref a_buffer, .int v_buffered, .int v_size, .int v_at, .int v_behind, .int v_kind, .int v_wrong, .int v_wrongAt, .int v_errorAt, .long v_number, .ref a_best, .ref a_rentBy, .ref a_bareBy, .ref a_aheadBy, .ref a_isEdge, .ref a_tried, .ref a_stands, .ref a_found, .ref a_foundOn, .ref a_moving, .int v_movingMany, .int v_foundIncome, .int v_foundMoves])), (a_a, .inl (cI, 180, .inl v_a)), (a_rentBy, .inl (cI, 192, .inl v_4)), (a_bareBy, .inl (cI, 192, .inl v_bareBy)), (a_aheadBy, .inl (cI, 192, .inl v_aheadBy))]) (wr := [(a_rentBy, .inl (cI, 192, .inl v_4)), (a_bareBy, .inl (cI, 192, .inl v_bareBy)), (a_aheadBy, .inl (cI, 192, .inl v_aheadBy))]) (As := [.int x1, .int x2]) (rest := [.int x3, .ref a_bareBy]) E.1 hl hw (c_X6_bare h_7) (cwV 2 hts (z_gV mw_648 mw_649 mw_650 mw_597 mw_619) rfl rfl rfl (by decide +kernel) ⟨(Nat.le_of_ble_eq_true rfl), (Nat.le_of_ble_eq_true rfl)⟩) 5 [(0, 2)] [(2, 3)] rfl rfl rfl rfl rfl rfl (by decide +kernel) rfl (q0 := 0) rfl rfl rfl (Nat.le_of_ble_eq_true rfl) dX6_laysBlocks_96 ⟨Nat.le_of_ble_eq_true rfl, Nat.le_of_ble_eq_true rfl⟩ (fun H locs hw => ?_)
    obtain ⟨h_8, hf⟩ := oA_elim hf
    obtain ⟨v_9, e_v_9, hf⟩ := oL_elim hf
    refine z_iast (ws' := [(a_this, .inr (6, [.ref a_a, .ref a_fresh, .ref a_kept, .int v_keptMany, .int v_thrown, .ref a_buffer, .int v_buffered, .int v_size, .int v_at, .int v_behind, .int v_kind, .int v_wrong, .int v_wrongAt, .int v_errorAt, .long v_number, .ref a_best, .ref a_rentBy, .ref a_bareBy, .ref a_aheadBy, .ref a_isEdge, .ref a_tried, .ref a_stands, .ref a_found, .ref a_foundOn, .ref a_moving, .int v_movingMany, .int v_foundIncome, .int v_foundMoves])), (a_a, .inl (cI, 180, .inl v_a)), (a_rentBy, .inl (cI, 192, .inl v_4)), (a_bareBy, .inl (cI, 192, .inl v_9)), (a_aheadBy, .inl (cI, 192, .inl v_aheadBy))]) E.1 hw 3 0 rfl rfl h_8 (by subst e_v_9; rfl) dX6_laysBlocks_99 (fun H locs hw => ?_)
    refine lv_aload_n hx hb dX6_laysBlocks_100 rfl (lv_at hl 0 rfl) ?_
    refine z_get E.1 hw in_wsX60 0 rfl rfl 18 (z_lt rfl) mw_624 (v := .ref a_aheadBy) rfl dX6_laysBlocks_101 ?_
    refine lv_iload_n hx hb dX6_laysBlocks_104 rfl (lv_at hl 3 rfl) ?_
    refine lv_aload_n hx hb dX6_laysBlocks_105 rfl (lv_at hl 0 rfl) ?_
    refine lv_iload_n hx hb dX6_laysBlocks_106 rfl (lv_at hl 2 rfl) ?_
    refine lv_iload_n hx hb dX6_laysBlocks_107 rfl (lv_at hl 2 rfl) ?_
    refine lv_aload_n hx hb dX6_laysBlocks_108 rfl (lv_at hl 0 rfl) ?_
    refine z_get E.1 hw in_wsX60 0 rfl rfl 0 (z_lt rfl) mw_593 (v := .ref a_a) rfl dX6_laysBlocks_109 ?_
    refine lv_bipush (v := 83) hx hb dX6_laysBlocks_112 (by decide) ?_
    refine lv_iload_n hx hb dX6_laysBlocks_114 rfl (lv_at hl 1 rfl) ?_
    refine lv_iadd hx hb dX6_laysBlocks_115 ?_
    obtain ⟨h_10, hf⟩ := oA_elim hf
    refine z_iald E.1 hw 1 0 rfl rfl h_10 dX6_laysBlocks_116 ?_
    refine lv_iadd hx hb dX6_laysBlocks_117 ?_
    obtain ⟨r_11, h_12, hf⟩ := oB_elim hf
    refine z_callVi (ws' := [(a_this, .inr (6, [.ref a_a, .ref a_fresh, .ref a_kept, .int v_keptMany, .int v_thrown, .ref a_buffer, .int v_buffered, .int v_size, .int v_at, .int v_behind, .int v_kind, .int v_wrong, .int v_wrongAt, .int v_errorAt, .long v_number, .ref a_best, .ref a_rentBy, .ref a_bareBy, .ref a_aheadBy, .ref a_isEdge, .ref a_tried, .ref a_stands, .ref a_found, .ref a_foundOn, .ref a_moving, .int v_movingMany, .int v_foundIncome, .int v_foundMoves])), (a_a, .inl (cI, 180, .inl v_a)), (a_rentBy, .inl (cI, 192, .inl v_4)), (a_bareBy, .inl (cI, 192, .inl v_9)), (a_aheadBy, .inl (cI, 192, .inl v_aheadBy))]) (wr := [(a_rentBy, .inl (cI, 192, .inl v_4)), (a_bareBy, .inl (cI, 192, .inl v_9)), (a_aheadBy, .inl (cI, 192, .inl v_aheadBy))]) (As := [.int x2, .int (x2 + (v_a (((83 : Int32) + x1)).toNatClampNeg))]) (rest := [.int x3, .ref a_aheadBy]) E.1 hl hw (c_X6_isSameRow h_12) (cwV 2 hts (z_gV mw_651 mw_652 mw_653 mw_597 mw_654) rfl rfl rfl (by decide +kernel) ⟨(Nat.le_of_ble_eq_true rfl), (Nat.le_of_ble_eq_true rfl)⟩) 5 [(0, 2)] [(2, 3)] rfl rfl rfl rfl rfl rfl (by decide +kernel) rfl (q0 := 0) rfl rfl rfl (Nat.le_of_ble_eq_true rfl) dX6_laysBlocks_118 ⟨Nat.le_of_ble_eq_true rfl, Nat.le_of_ble_eq_true rfl⟩ (fun H locs hw => ?_)
    refine lv_if_eq (tgt := 128) hx hb dX6_laysBlocks_121 (by decide) (fun hc => ?_) (fun hc => ?_)
    · have hf := oI_pos hc hf
      refine lv_bipush (v := 8) hx hb dX6_laysBlocks_128 (by decide) ?_
      exact w_X6_laysBlocks_130 E hk2 hk15 _ _ _ _ _ _ _ _ hf _ _ _ hw (lv_sub hl [0, 1, 2] rfl)
    · have hf := oI_neg hc hf
      refine lv_iload_n hx hb dX6_laysBlocks_124 rfl (lv_at hl 1 rfl) ?_
      refine lv_goto (tgt := 130) hx hb dX6_laysBlocks_125 (by decide) ?_
      exact w_X6_laysBlocks_130 E hk2 hk15 _ _ _ _ _ _ _ _ hf _ _ _ hw (lv_sub hl [0, 1, 2] rfl)
  · have hf := oI_pos hc hf
    refine lv_goto (tgt := 131) hx hb dX6_laysBlocks_85 (by decide) ?_
    exact w_X6_laysBlocks_131 E hk2 hk15 _ _ _ _ _ _ hf _ _ _ hw (lv_sub hl [0, 1, 2] rfl)
set_option maxHeartbeats 4000000 in
set_option maxRecDepth 100000 in
theorem w_X6_laysBlocks_73 {n : Nat} (E : zE p s m args meth c cX6_laysBlocks 4 none zwX6_laysBlocks RX6) {k2 : Int32 → (Nat → Int32) → (Nat → Int32) → (Nat → Int32) → (Nat → Int32) → Option ((Nat → Int32) × (Nat → Int32) × (Nat → Int32))} (hk2 : ∀ (x1 : Int32) (v_a : Nat → Int32) (v_rentBy : Nat → Int32) (v_bareBy : Nat → Int32) (v_aheadBy : Nat → Int32), k2 x1 v_a v_rentBy v_bareBy v_aheadBy = some res → ∀ (H : Heap) (locs : List Loc) (ls : Array Slot), zW D (zT cI cZ cM) A s [(a_this, .inr (6, [.ref a_a, .ref a_fresh, .ref a_kept, .int v_keptMany, .int v_thrown, .ref a_buffer, .int v_buffered, .int v_size, .int v_at, .int v_behind, .int v_kind, .int v_wrong, .int v_wrongAt, .int v_errorAt, .long v_number, .ref a_best, .ref a_rentBy, .ref a_bareBy, .ref a_aheadBy, .ref a_isEdge, .ref a_tried, .ref a_stands, .ref a_found, .ref a_foundOn, .ref a_moving, .int v_movingMany, .int v_foundIncome, .int v_foundMoves])), (a_a, .inl (cI, 180, .inl v_a)), (a_rentBy, .inl (cI, 192, .inl v_rentBy)), (a_bareBy, .inl (cI, 192, .inl v_bareBy)), (a_aheadBy, .inl (cI, 192, .inl v_aheadBy))] H locs → lv_has ls 4 [(0, .ref a_this), (1, .int x1)] → W p l e rmX6_laysBlocks s m args below meth c H locs 0 0 (MQ below (zQv D (zT cI cZ cM) [(a_this, .inr (6, [.ref a_a, .ref a_fresh, .ref a_kept, .int v_keptMany, .int v_thrown, .ref a_buffer, .int v_buffered, .int v_size, .int v_at, .int v_behind, .int v_kind, .int v_wrong, .int v_wrongAt, .int v_errorAt, .long v_number, .ref a_best, .ref a_rentBy, .ref a_bareBy, .ref a_aheadBy, .ref a_isEdge, .ref a_tried, .ref a_stands, .ref a_found, .ref a_foundOn, .ref a_moving, .int v_movingMany, .int v_foundIncome, .int v_foundMoves])), (a_a, .inl (cI, 180, .inl v_a)), (a_rentBy, .inl (cI, 192, .inl res.1)), (a_bareBy, .inl (cI, 192, .inl res.2.1)), (a_aheadBy, .inl (cI, 192, .inl res.2.2))] A) args s 0 0 A) (F0 m 2 ls [])) {k15 : Int32 → Int32 → (Nat → Int32) → (Nat → Int32) → (Nat → Int32) → (Nat → Int32) → Option ((Nat → Int32) × (Nat → Int32) × (Nat → Int32))} (hk15 : ∀ (x1 : Int32) (x2 : Int32) (v_a : Nat → Int32) (v_rentBy : Nat → Int32) (v_bareBy : Nat → Int32) (v_aheadBy : Nat → Int32), k15 x1 x2 v_a v_rentBy v_bareBy v_aheadBy = some res → ∀ (H : Heap) (locs : List Loc) (ls : Array Slot), zW D (zT cI cZ cM) A s [(a_this, .inr (6, [.ref a_a, .ref a_fresh, .ref a_kept, .int v_keptMany, .int v_thrown, .ref a_buffer, .int v_buffered, .int v_size, .int v_at, .int v_behind, .int v_kind, .int v_wrong, .int v_wrongAt, .int v_errorAt, .long v_number, .ref a_best, .ref a_rentBy, .ref a_bareBy, .ref a_aheadBy, .ref a_isEdge, .ref a_tried, .ref a_stands, .ref a_found, .ref a_foundOn, .ref a_moving, .int v_movingMany, .int v_foundIncome, .int v_foundMoves])), (a_a, .inl (cI, 180, .inl v_a)), (a_rentBy, .inl (cI, 192, .inl v_rentBy)), (a_bareBy, .inl (cI, 192, .inl v_bareBy)), (a_aheadBy, .inl (cI, 192, .inl v_aheadBy))] H locs → lv_has ls 4 [(0, .ref a_this), (1, .int x1), (2, .int x2)] → W p l e rmX6_laysBlocks s m args below meth c H locs 0 0 (MQ below (zQv D (zT cI cZ cM) [(a_this, .inr (6, [.ref a_a, .ref a_fresh, .ref a_kept, .int v_keptMany, .int v_thrown, .ref a_buffer, .int v_buffered, .int v_size, .int v_at, .int v_behind, .int v_kind, .int v_wrong, .int v_wrongAt, .int v_errorAt, .long v_number, .ref a_best, .ref a_rentBy, .ref a_bareBy, .ref a_aheadBy, .ref a_isEdge, .ref a_tried, .ref a_stands, .ref a_found, .ref a_foundOn, .ref a_moving, .int v_movingMany, .int v_foundIncome, .int v_foundMoves])), (a_a, .inl (cI, 180, .inl v_a)), (a_rentBy, .inl (cI, 192, .inl res.1)), (a_bareBy, .inl (cI, 192, .inl res.2.1)), (a_aheadBy, .inl (cI, 192, .inl res.2.2))] A) args s 0 0 A) (F0 m 15 ls [])) : ∀ (t1 : Int32) (x1 : Int32) (x2 : Int32) (x3 : Int32) (v_a : Nat → Int32) (v_rentBy : Nat → Int32) (v_bareBy : Nat → Int32) (v_aheadBy : Nat → Int32), f_X6_laysBlocks_73 n k2 k15 t1 x1 x2 x3 v_a v_rentBy v_bareBy v_aheadBy = some res → ∀ (H : Heap) (locs : List Loc) (ls : Array Slot), zW D (zT cI cZ cM) A s [(a_this, .inr (6, [.ref a_a, .ref a_fresh, .ref a_kept, .int v_keptMany, .int v_thrown, .ref a_buffer, .int v_buffered, .int v_size, .int v_at, .int v_behind, .int v_kind, .int v_wrong, .int v_wrongAt, .int v_errorAt, .long v_number, .ref a_best, .ref a_rentBy, .ref a_bareBy, .ref a_aheadBy, .ref a_isEdge, .ref a_tried, .ref a_stands, .ref a_found, .ref a_foundOn, .ref a_moving, .int v_movingMany, .int v_foundIncome, .int v_foundMoves])), (a_a, .inl (cI, 180, .inl v_a)), (a_rentBy, .inl (cI, 192, .inl v_rentBy)), (a_bareBy, .inl (cI, 192, .inl v_bareBy)), (a_aheadBy, .inl (cI, 192, .inl v_aheadBy))] H locs → lv_has ls 4 [(0, .ref a_this), (1, .int x1), (2, .int x2), (3, .int x3)] → W p l e rmX6_laysBlocks s m args below meth c H locs 0 0 (MQ below (zQv D (zT cI cZ cM) [(a_this, .inr (6, [.ref a_a, .ref a_fresh, .ref a_kept, .int v_keptMany, .int v_thrown, .ref a_buffer, .int v_buffered, .int v_size, .int v_at, .int v_behind, .int v_kind, .int v_wrong, .int v_wrongAt, .int v_errorAt, .long v_number, .ref a_best, .ref a_rentBy, .ref a_bareBy, .ref a_aheadBy, .ref a_isEdge, .ref a_tried, .ref a_stands, .ref a_found, .ref a_foundOn, .ref a_moving, .int v_movingMany, .int v_foundIncome, .int v_foundMoves])), (a_a, .inl (cI, 180, .inl v_a)), (a_rentBy, .inl (cI, 192, .inl res.1)), (a_bareBy, .inl (cI, 192, .inl res.2.1)), (a_aheadBy, .inl (cI, 192, .inl res.2.2))] A) args s 0 0 A) (F0 m 73 ls [.int t1, .ref a_rentBy]) := by
  obtain ⟨⟨hx, hb, hml, hown, hts⟩, hr, hlocks⟩ := id E
  intro t1 x1 x2 x3 v_a v_rentBy v_bareBy v_aheadBy hf H locs ls hw hl
  unfold f_X6_laysBlocks_73 at hf
  refine lv_iconst (v := -1) hx hb dX6_laysBlocks_73 (by decide) ?_
  exact w_X6_laysBlocks_74 E hk2 hk15 _ _ _ _ _ _ _ _ _ hf _ _ _ hw (lv_sub hl [0, 1, 2, 3] rfl)
set_option maxHeartbeats 4000000 in
set_option maxRecDepth 100000 in
theorem w_X6_laysBlocks_15 {n : Nat} (E : zE p s m args meth c cX6_laysBlocks 4 none zwX6_laysBlocks RX6) {k2 : Int32 → (Nat → Int32) → (Nat → Int32) → (Nat → Int32) → (Nat → Int32) → Option ((Nat → Int32) × (Nat → Int32) × (Nat → Int32))} (hk2 : ∀ (x1 : Int32) (v_a : Nat → Int32) (v_rentBy : Nat → Int32) (v_bareBy : Nat → Int32) (v_aheadBy : Nat → Int32), k2 x1 v_a v_rentBy v_bareBy v_aheadBy = some res → ∀ (H : Heap) (locs : List Loc) (ls : Array Slot), zW D (zT cI cZ cM) A s [(a_this, .inr (6, [.ref a_a, .ref a_fresh, .ref a_kept, .int v_keptMany, .int v_thrown, .ref a_buffer, .int v_buffered, .int v_size, .int v_at, .int v_behind, .int v_kind, .int v_wrong, .int v_wrongAt, .int v_errorAt, .long v_number, .ref a_best, .ref a_rentBy, .ref a_bareBy, .ref a_aheadBy, .ref a_isEdge, .ref a_tried, .ref a_stands, .ref a_found, .ref a_foundOn, .ref a_moving, .int v_movingMany, .int v_foundIncome, .int v_foundMoves])), (a_a, .inl (cI, 180, .inl v_a)), (a_rentBy, .inl (cI, 192, .inl v_rentBy)), (a_bareBy, .inl (cI, 192, .inl v_bareBy)), (a_aheadBy, .inl (cI, 192, .inl v_aheadBy))] H locs → lv_has ls 4 [(0, .ref a_this), (1, .int x1)] → W p l e rmX6_laysBlocks s m args below meth c H locs 0 0 (MQ below (zQv D (zT cI cZ cM) [(a_this, .inr (6, [.ref a_a, .ref a_fresh, .ref a_kept, .int v_keptMany, .int v_thrown, .ref a_buffer, .int v_buffered, .int v_size, .int v_at, .int v_behind, .int v_kind, .int v_wrong, .int v_wrongAt, .int v_errorAt, .long v_number, .ref a_best, .ref a_rentBy, .ref a_bareBy, .ref a_aheadBy, .ref a_isEdge, .ref a_tried, .ref a_stands, .ref a_found, .ref a_foundOn, .ref a_moving, .int v_movingMany, .int v_foundIncome, .int v_foundMoves])), (a_a, .inl (cI, 180, .inl v_a)), (a_rentBy, .inl (cI, 192, .inl res.1)), (a_bareBy, .inl (cI, 192, .inl res.2.1)), (a_aheadBy, .inl (cI, 192, .inl res.2.2))] A) args s 0 0 A) (F0 m 2 ls [])) : ∀ (fu : Nat), ∀ (x1 : Int32) (x2 : Int32) (v_a : Nat → Int32) (v_rentBy : Nat → Int32) (v_bareBy : Nat → Int32) (v_aheadBy : Nat → Int32), f_X6_laysBlocks_15 n k2 fu x1 x2 v_a v_rentBy v_bareBy v_aheadBy = some res → ∀ (H : Heap) (locs : List Loc) (ls : Array Slot), zW D (zT cI cZ cM) A s [(a_this, .inr (6, [.ref a_a, .ref a_fresh, .ref a_kept, .int v_keptMany, .int v_thrown, .ref a_buffer, .int v_buffered, .int v_size, .int v_at, .int v_behind, .int v_kind, .int v_wrong, .int v_wrongAt, .int v_errorAt, .long v_number, .ref a_best, .ref a_rentBy, .ref a_bareBy, .ref a_aheadBy, .ref a_isEdge, .ref a_tried, .ref a_stands, .ref a_found, .ref a_foundOn, .ref a_moving, .int v_movingMany, .int v_foundIncome, .int v_foundMoves])), (a_a, .inl (cI, 180, .inl v_a)), (a_rentBy, .inl (cI, 192, .inl v_rentBy)), (a_bareBy, .inl (cI, 192, .inl v_bareBy)), (a_aheadBy, .inl (cI, 192, .inl v_aheadBy))] H locs → lv_has ls 4 [(0, .ref a_this), (1, .int x1), (2, .int x2)] → W p l e rmX6_laysBlocks s m args below meth c H locs 0 0 (MQ below (zQv D (zT cI cZ cM) [(a_this, .inr (6, [.ref a_a, .ref a_fresh, .ref a_kept, .int v_keptMany, .int v_thrown, .ref a_buffer, .int v_buffered, .int v_size, .int v_at, .int v_behind, .int v_kind, .int v_wrong, .int v_wrongAt, .int v_errorAt, .long v_number, .ref a_best, .ref a_rentBy, .ref a_bareBy, .ref a_aheadBy, .ref a_isEdge, .ref a_tried, .ref a_stands, .ref a_found, .ref a_foundOn, .ref a_moving, .int v_movingMany, .int v_foundIncome, .int v_foundMoves])), (a_a, .inl (cI, 180, .inl v_a)), (a_rentBy, .inl (cI, 192, .inl res.1)), (a_bareBy, .inl (cI, 192, .inl res.2.1)), (a_aheadBy, .inl (cI, 192, .inl res.2.2))] A) args s 0 0 A) (F0 m 15 ls []) := by
  obtain ⟨⟨hx, hb, hml, hown, hts⟩, hr, hlocks⟩ := id E
  intro fu
  induction fu with
  | zero => intro x1 x2 v_a v_rentBy v_bareBy v_aheadBy hf; rw [f_X6_laysBlocks_15.eq_1] at hf; cases hf
  | succ fu ih =>
    intro x1 x2 v_a v_rentBy v_bareBy v_aheadBy hf H locs ls hw hl
    rw [f_X6_laysBlocks_15.eq_2] at hf
    refine lv_iload_n hx hb dX6_laysBlocks_15 rfl (lv_at hl 2 rfl) ?_
    refine lv_aload_n hx hb dX6_laysBlocks_16 rfl (lv_at hl 0 rfl) ?_
    refine z_get E.1 hw in_wsX60 0 rfl rfl 0 (z_lt rfl) mw_593 (v := .ref a_a) rfl dX6_laysBlocks_17 ?_
    refine lv_iconst (v := 1) hx hb dX6_laysBlocks_20 (by decide) ?_
    obtain ⟨h_13, hf⟩ := oA_elim hf
    refine z_iald E.1 hw 1 0 rfl rfl h_13 dX6_laysBlocks_21 ?_
    refine lv_icmp_ge (tgt := 137) hx hb dX6_laysBlocks_22 (by decide) (fun hc => ?_) (fun hc => ?_)
    · have hf := oI_pos hc hf
      refine lv_iinc (v := (x1 + (1 : Int32))) (lv' := [(1, .int (x1 + (1 : Int32))), (0, .ref a_this), (2, .int x2)]) hx hb dX6_laysBlocks_137 hl (k := 1) rfl rfl (z_lt rfl) rfl (fun ls hl => ?_)
      refine lv_goto (tgt := 2) hx hb dX6_laysBlocks_140 (by decide) ?_
      exact hk2 _ _ _ _ _ hf _ _ _ hw (lv_sub hl [1, 0] rfl)
    · have hf := oI_neg hc hf
      refine lv_bipush (v := 24) hx hb dX6_laysBlocks_25 (by decide) ?_
      refine lv_iload_n hx hb dX6_laysBlocks_27 rfl (lv_at hl 1 rfl) ?_
      refine lv_imul hx hb dX6_laysBlocks_28 ?_
      refine lv_iload_n hx hb dX6_laysBlocks_29 rfl (lv_at hl 2 rfl) ?_
      refine lv_iadd hx hb dX6_laysBlocks_30 ?_
      obtain ⟨y_14, e_y_14, hf⟩ := oL_elim hf
      refine z_top e_y_14 ?_
      refine lv_istore_n (lv' := [(3, .int y_14), (0, .ref a_this), (1, .int x1), (2, .int x2)]) hx hb dX6_laysBlocks_31 rfl hl (z_lt rfl) rfl (fun ls hl => ?_)
      refine lv_aload_n hx hb dX6_laysBlocks_32 rfl (lv_at hl 1 rfl) ?_
      refine z_get E.1 hw in_wsX60 0 rfl rfl 16 (z_lt rfl) mw_621 (v := .ref a_rentBy) rfl dX6_laysBlocks_33 ?_
      refine lv_iload_n hx hb dX6_laysBlocks_36 rfl (lv_at hl 0 rfl) ?_
      refine lv_aload_n hx hb dX6_laysBlocks_37 rfl (lv_at hl 1 rfl) ?_
      refine lv_iload_n hx hb dX6_laysBlocks_38 rfl (lv_at hl 2 rfl) ?_
      refine lv_iload_n hx hb dX6_laysBlocks_39 rfl (lv_at hl 3 rfl) ?_
      obtain ⟨r_15, h_16, hf⟩ := oB_elim hf
      refine z_callVi (ws' := [(a_this, .inr (6, [.ref a_a, .ref a_fresh, .ref a_kept, .int v_keptMany, .int v_thrown, .ref a_buffer, .int v_buffered, .int v_size, .int v_at, .int v_behind, .int v_kind, .int v_wrong, .int v_wrongAt, .int v_errorAt, .long v_number, .ref a_best, .ref a_rentBy, .ref a_bareBy, .ref a_aheadBy, .ref a_isEdge, .ref a_tried, .ref a_stands, .ref a_found, .ref a_foundOn, .ref a_moving, .int v_movingMany, .int v_foundIncome, .int v_foundMoves])), (a_a, .inl (cI, 180, .inl v_a)), (a_rentBy, .inl (cI, 192, .inl v_rentBy)), (a_bareBy, .inl (cI, 192, .inl v_bareBy)), (a_aheadBy, .inl (cI, 192, .inl v_aheadBy))]) (wr := [(a_rentBy, .inl (cI, 192, .inl v_rentBy)), (a_bareBy, .inl (cI, 192, .inl v_bareBy)), (a_aheadBy, .inl (cI, 192, .inl v_aheadBy))]) (As := [.int x1, .int x2]) (rest := [.int y_14, .ref a_rentBy]) E.1 hl hw (c_X6_isRoom h_16) (cwV 2 hts (z_gV mw_640 mw_641 mw_642 mw_597 mw_643) rfl rfl rfl (by decide +kernel) ⟨(Nat.le_of_ble_eq_true rfl), (Nat.le_of_ble_eq_true rfl)⟩) 5 [(0, 2)] [(2, 3)] rfl rfl rfl rfl rfl rfl (by decide +kernel) rfl (q0 := 0) rfl rfl rfl (Nat.le_of_ble_eq_true rfl) dX6_laysBlocks_40 ⟨Nat.le_of_ble_eq_true rfl, Nat.le_of_ble_eq_true rfl⟩ (fun H locs hw => ?_)
      refine lv_if_eq (tgt := 73) hx hb dX6_laysBlocks_43 (by decide) (fun hc => ?_) (fun hc => ?_)
      · have hf := oI_pos hc hf
        exact w_X6_laysBlocks_73 E hk2 ih _ _ _ _ _ _ _ _ hf _ _ _ hw (lv_sub hl [1, 2, 3, 0] rfl)
      · have hf := oI_neg hc hf
        refine lv_aload_n hx hb dX6_laysBlocks_46 rfl (lv_at hl 1 rfl) ?_
        refine lv_iload_n hx hb dX6_laysBlocks_47 rfl (lv_at hl 2 rfl) ?_
        refine lv_iload_n hx hb dX6_laysBlocks_48 rfl (lv_at hl 3 rfl) ?_
        obtain ⟨r_17, h_18, hf⟩ := oB_elim hf
        refine z_callVi (ws' := [(a_this, .inr (6, [.ref a_a, .ref a_fresh, .ref a_kept, .int v_keptMany, .int v_thrown, .ref a_buffer, .int v_buffered, .int v_size, .int v_at, .int v_behind, .int v_kind, .int v_wrong, .int v_wrongAt, .int v_errorAt, .long v_number, .ref a_best, .ref a_rentBy, .ref a_bareBy, .ref a_aheadBy, .ref a_isEdge, .ref a_tried, .ref a_stands, .ref a_found, .ref a_foundOn, .ref a_moving, .int v_movingMany, .int v_foundIncome, .int v_foundMoves])), (a_a, .inl (cI, 180, .inl v_a)), (a_rentBy, .inl (cI, 192, .inl v_rentBy)), (a_bareBy, .inl (cI, 192, .inl v_bareBy)), (a_aheadBy, .inl (cI, 192, .inl v_aheadBy))]) (wr := [(a_rentBy, .inl (cI, 192, .inl v_rentBy)), (a_bareBy, .inl (cI, 192, .inl v_bareBy)), (a_aheadBy, .inl (cI, 192, .inl v_aheadBy))]) (As := [.int x1, .int x2]) (rest := [.int y_14, .ref a_rentBy]) E.1 hl hw (c_X6_rentOf h_18) (cwV 2 hts (z_gV mw_644 mw_645 mw_646 mw_597 mw_647) rfl rfl rfl (by decide +kernel) ⟨(Nat.le_of_ble_eq_true rfl), (Nat.le_of_ble_eq_true rfl)⟩) 5 [(0, 2)] [(2, 3)] rfl rfl rfl rfl rfl rfl (by decide +kernel) rfl (q0 := 0) rfl rfl rfl (Nat.le_of_ble_eq_true rfl) dX6_laysBlocks_49 ⟨Nat.le_of_ble_eq_true rfl, Nat.le_of_ble_eq_true rfl⟩ (fun H locs hw => ?_)
        refine lv_aload_n hx hb dX6_laysBlocks_52 rfl (lv_at hl 1 rfl) ?_
        refine z_get E.1 hw in_wsX60 0 rfl rfl 0 (z_lt rfl) mw_593 (v := .ref a_a) rfl dX6_laysBlocks_53 ?_
        refine lv_bipush (v := 91) hx hb dX6_laysBlocks_56 (by decide) ?_
        refine lv_iload_n hx hb dX6_laysBlocks_58 rfl (lv_at hl 2 rfl) ?_
        refine lv_iadd hx hb dX6_laysBlocks_59 ?_
        obtain ⟨h_19, hf⟩ := oA_elim hf
        refine z_iald E.1 hw 1 0 rfl rfl h_19 dX6_laysBlocks_60 ?_
        refine lv_icmp_gt (tgt := 73) hx hb dX6_laysBlocks_61 (by decide) (fun hc => ?_) (fun hc => ?_)
        · have hf := oI_pos hc hf
          exact w_X6_laysBlocks_73 E hk2 ih _ _ _ _ _ _ _ _ hf _ _ _ hw (lv_sub hl [1, 2, 3, 0] rfl)
        · have hf := oI_neg hc hf
          refine lv_aload_n hx hb dX6_laysBlocks_64 rfl (lv_at hl 1 rfl) ?_
          refine lv_iload_n hx hb dX6_laysBlocks_65 rfl (lv_at hl 2 rfl) ?_
          refine lv_iload_n hx hb dX6_laysBlocks_66 rfl (lv_at hl 3 rfl) ?_
          obtain ⟨r_20, h_21, hf⟩ := oB_elim hf
          refine z_callVi (ws' := [(a_this, .inr (6, [.ref a_a, .ref a_fresh, .ref a_kept, .int v_keptMany, .int v_thrown, .ref a_buffer, .int v_buffered, .int v_size, .int v_at, .int v_behind, .int v_kind, .int v_wrong, .int v_wrongAt, .int v_errorAt, .long v_number, .ref a_best, .ref a_rentBy, .ref a_bareBy, .ref a_aheadBy, .ref a_isEdge, .ref a_tried, .ref a_stands, .ref a_found, .ref a_foundOn, .ref a_moving, .int v_movingMany, .int v_foundIncome, .int v_foundMoves])), (a_a, .inl (cI, 180, .inl v_a)), (a_rentBy, .inl (cI, 192, .inl v_rentBy)), (a_bareBy, .inl (cI, 192, .inl v_bareBy)), (a_aheadBy, .inl (cI, 192, .inl v_aheadBy))]) (wr := [(a_rentBy, .inl (cI, 192, .inl v_rentBy)), (a_bareBy, .inl (cI, 192, .inl v_bareBy)), (a_aheadBy, .inl (cI, 192, .inl v_aheadBy))]) (As := [.int x1, .int x2]) (rest := [.int y_14, .ref a_rentBy]) E.1 hl hw (c_X6_rentOf h_21) (cwV 2 hts (z_gV mw_644 mw_645 mw_646 mw_597 mw_647) rfl rfl rfl (by decide +kernel) ⟨(Nat.le_of_ble_eq_true rfl), (Nat.le_of_ble_eq_true rfl)⟩) 5 [(0, 2)] [(2, 3)] rfl rfl rfl rfl rfl rfl (by decide +kernel) rfl (q0 := 0) rfl rfl rfl (Nat.le_of_ble_eq_true rfl) dX6_laysBlocks_67 ⟨Nat.le_of_ble_eq_true rfl, Nat.le_of_ble_eq_true rfl⟩ (fun H locs hw => ?_)
          refine lv_goto (tgt := 74) hx hb dX6_laysBlocks_70 (by decide) ?_
          exact w_X6_laysBlocks_74 E hk2 ih _ _ _ _ _ _ _ _ _ hf _ _ _ hw (lv_sub hl [1, 2, 3, 0] rfl)
set_option maxHeartbeats 4000000 in
set_option maxRecDepth 100000 in
theorem w_X6_laysBlocks_2 {n : Nat} (E : zE p s m args meth c cX6_laysBlocks 4 none zwX6_laysBlocks RX6) : ∀ (fu : Nat), ∀ (x1 : Int32) (v_a : Nat → Int32) (v_rentBy : Nat → Int32) (v_bareBy : Nat → Int32) (v_aheadBy : Nat → Int32), f_X6_laysBlocks_2 n fu x1 v_a v_rentBy v_bareBy v_aheadBy = some res → ∀ (H : Heap) (locs : List Loc) (ls : Array Slot), zW D (zT cI cZ cM) A s [(a_this, .inr (6, [.ref a_a, .ref a_fresh, .ref a_kept, .int v_keptMany, .int v_thrown, .ref a_buffer, .int v_buffered, .int v_size, .int v_at, .int v_behind, .int v_kind, .int v_wrong, .int v_wrongAt, .int v_errorAt, .long v_number, .ref a_best, .ref a_rentBy, .ref a_bareBy, .ref a_aheadBy, .ref a_isEdge, .ref a_tried, .ref a_stands, .ref a_found, .ref a_foundOn, .ref a_moving, .int v_movingMany, .int v_foundIncome, .int v_foundMoves])), (a_a, .inl (cI, 180, .inl v_a)), (a_rentBy, .inl (cI, 192, .inl v_rentBy)), (a_bareBy, .inl (cI, 192, .inl v_bareBy)), (a_aheadBy, .inl (cI, 192, .inl v_aheadBy))] H locs → lv_has ls 4 [(0, .ref a_this), (1, .int x1)] → W p l e rmX6_laysBlocks s m args below meth c H locs 0 0 (MQ below (zQv D (zT cI cZ cM) [(a_this, .inr (6, [.ref a_a, .ref a_fresh, .ref a_kept, .int v_keptMany, .int v_thrown, .ref a_buffer, .int v_buffered, .int v_size, .int v_at, .int v_behind, .int v_kind, .int v_wrong, .int v_wrongAt, .int v_errorAt, .long v_number, .ref a_best, .ref a_rentBy, .ref a_bareBy, .ref a_aheadBy, .ref a_isEdge, .ref a_tried, .ref a_stands, .ref a_found, .ref a_foundOn, .ref a_moving, .int v_movingMany, .int v_foundIncome, .int v_foundMoves])), (a_a, .inl (cI, 180, .inl v_a)), (a_rentBy, .inl (cI, 192, .inl res.1)), (a_bareBy, .inl (cI, 192, .inl res.2.1)), (a_aheadBy, .inl (cI, 192, .inl res.2.2))] A) args s 0 0 A) (F0 m 2 ls []) := by
  obtain ⟨⟨hx, hb, hml, hown, hts⟩, hr, hlocks⟩ := id E
  intro fu
  induction fu with
  | zero => intro x1 v_a v_rentBy v_bareBy v_aheadBy hf; rw [f_X6_laysBlocks_2.eq_1] at hf; cases hf
  | succ fu ih =>
    intro x1 v_a v_rentBy v_bareBy v_aheadBy hf H locs ls hw hl
    rw [f_X6_laysBlocks_2.eq_2] at hf
    refine lv_iload_n hx hb dX6_laysBlocks_2 rfl (lv_at hl 1 rfl) ?_
    refine lv_aload_n hx hb dX6_laysBlocks_3 rfl (lv_at hl 0 rfl) ?_
    refine z_get E.1 hw in_wsX60 0 rfl rfl 0 (z_lt rfl) mw_593 (v := .ref a_a) rfl dX6_laysBlocks_4 ?_
    refine lv_bipush (v := 74) hx hb dX6_laysBlocks_7 (by decide) ?_
    obtain ⟨h_22, hf⟩ := oA_elim hf
    refine z_iald E.1 hw 1 0 rfl rfl h_22 dX6_laysBlocks_9 ?_
    refine lv_icmp_ge (tgt := 143) hx hb dX6_laysBlocks_10 (by decide) (fun hc => ?_) (fun hc => ?_)
    · have hf := oI_pos hc hf
      cases hf
      exact z_vret E rfl hw dX6_laysBlocks_143
    · have hf := oI_neg hc hf
      refine lv_iconst (v := 0) hx hb dX6_laysBlocks_13 (by decide) ?_
      refine lv_istore_n (lv' := [(2, .int (0 : Int32)), (0, .ref a_this), (1, .int x1)]) hx hb dX6_laysBlocks_14 rfl hl (z_lt rfl) rfl (fun ls hl => ?_)
      exact w_X6_laysBlocks_15 E ih n _ _ _ _ _ _ hf _ _ _ hw (lv_sub hl [1, 2, 0] rfl)
set_option maxHeartbeats 4000000 in
set_option maxRecDepth 100000 in
theorem c_X6_laysBlocks {l : Launch} {D : va_G} {cI cZ cM : ClassId} {a_this a_a a_fresh a_kept a_buffer a_best a_rentBy a_bareBy a_aheadBy a_isEdge a_tried a_stands a_found a_foundOn a_moving : Nat} {v_keptMany : Int32} {v_thrown : Int32} {v_buffered : Int32} {v_size : Int32} {v_at : Int32} {v_behind : Int32} {v_kind : Int32} {v_wrong : Int32} {v_wrongAt : Int32} {v_errorAt : Int32} {v_number : Int64} {v_movingMany : Int32} {v_foundIncome : Int32} {v_foundMoves : Int32} {res : (Nat → Int32) × (Nat → Int32) × (Nat → Int32)} {sz : Nat} {n : Nat} {v_a : Nat → Int32} {v_rentBy : Nat → Int32} {v_bareBy : Nat → Int32} {v_aheadBy : Nat → Int32} (hf : f_X6_laysBlocks n v_a v_rentBy v_bareBy v_aheadBy = some res) : Met l yX6_laysBlocks zwX6_laysBlocks rmX6_laysBlocks (zPc D (zT cI cZ cM) [.ref a_this] [(a_this, .inr (6, [.ref a_a, .ref a_fresh, .ref a_kept, .int v_keptMany, .int v_thrown, .ref a_buffer, .int v_buffered, .int v_size, .int v_at, .int v_behind, .int v_kind, .int v_wrong, .int v_wrongAt, .int v_errorAt, .long v_number, .ref a_best, .ref a_rentBy, .ref a_bareBy, .ref a_aheadBy, .ref a_isEdge, .ref a_tried, .ref a_stands, .ref a_found, .ref a_foundOn, .ref a_moving, .int v_movingMany, .int v_foundIncome, .int v_foundMoves])), (a_a, .inl (cI, 180, .inl v_a)), (a_rentBy, .inl (cI, 192, .inl v_rentBy)), (a_bareBy, .inl (cI, 192, .inl v_bareBy)), (a_aheadBy, .inl (cI, 192, .inl v_aheadBy))] sz) (zQv D (zT cI cZ cM) [(a_this, .inr (6, [.ref a_a, .ref a_fresh, .ref a_kept, .int v_keptMany, .int v_thrown, .ref a_buffer, .int v_buffered, .int v_size, .int v_at, .int v_behind, .int v_kind, .int v_wrong, .int v_wrongAt, .int v_errorAt, .long v_number, .ref a_best, .ref a_rentBy, .ref a_bareBy, .ref a_aheadBy, .ref a_isEdge, .ref a_tried, .ref a_stands, .ref a_found, .ref a_foundOn, .ref a_moving, .int v_movingMany, .int v_foundIncome, .int v_foundMoves])), (a_a, .inl (cI, 180, .inl v_a)), (a_rentBy, .inl (cI, 192, .inl res.1)), (a_bareBy, .inl (cI, 192, .inl res.2.1)), (a_aheadBy, .inl (cI, 192, .inl res.2.2))] (va_A [(a_this, .inr (6, [.ref a_a, .ref a_fresh, .ref a_kept, .int v_keptMany, .int v_thrown, .ref a_buffer, .int v_buffered, .int v_size, .int v_at, .int v_behind, .int v_kind, .int v_wrong, .int v_wrongAt, .int v_errorAt, .long v_number, .ref a_best, .ref a_rentBy, .ref a_bareBy, .ref a_aheadBy, .ref a_isEdge, .ref a_tried, .ref a_stands, .ref a_found, .ref a_foundOn, .ref a_moving, .int v_movingMany, .int v_foundIncome, .int v_foundMoves])), (a_a, .inl (cI, 180, .inl v_a)), (a_rentBy, .inl (cI, 192, .inl v_rentBy)), (a_bareBy, .inl (cI, 192, .inl v_bareBy)), (a_aheadBy, .inl (cI, 192, .inl v_aheadBy))] sz)) 0 0 (va_A [(a_this, .inr (6, [.ref a_a, .ref a_fresh, .ref a_kept, .int v_keptMany, .int v_thrown, .ref a_buffer, .int v_buffered, .int v_size, .int v_at, .int v_behind, .int v_kind, .int v_wrong, .int v_wrongAt, .int v_errorAt, .long v_number, .ref a_best, .ref a_rentBy, .ref a_bareBy, .ref a_aheadBy, .ref a_isEdge, .ref a_tried, .ref a_stands, .ref a_found, .ref a_foundOn, .ref a_moving, .int v_movingMany, .int v_foundIncome, .int v_foundMoves])), (a_a, .inl (cI, 180, .inl v_a)), (a_rentBy, .inl (cI, 192, .inl v_rentBy)), (a_bareBy, .inl (cI, 192, .inl v_bareBy)), (a_aheadBy, .inl (cI, 192, .inl v_aheadBy))] sz) := by
  refine z_met (cc := cX6_laysBlocks) (maxL := 4) (ret := none) (by decide) rfl (Nat.le_of_ble_eq_true rfl) ?_
  intro p e s m below meth c ls E hsz hw hl
  obtain ⟨⟨hx, hb, hml, hown, hts⟩, hr, hlocks⟩ := id E
  have hl : lv_has ls 4 [(0, .ref a_this)] := hl
  unfold f_X6_laysBlocks at hf
  refine lv_iconst (v := 0) hx hb dX6_laysBlocks_0 (by decide) ?_
  refine lv_istore_n (lv' := [(1, .int (0 : Int32)), (0, .ref a_this)]) hx hb dX6_laysBlocks_1 rfl hl (z_lt rfl) rfl (fun ls hl => ?_)
  exact w_X6_laysBlocks_2 E  n _ _ _ _ _ hf _ _ _ hw (lv_sub hl [1, 0] rfl)
end
