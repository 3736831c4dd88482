/-! X6_isDigit -/
section
variable {p : Program} {l : Launch} {e : Env} {s : State} {m : MethodId} {args : Array Value} {below : List Frame} {meth : Method} {c : Code} {D : va_G} {A : Nat → Prop} {cI cZ cM : ClassId} {res : Int32}
def rmX6_isDigit : Room := { frames := 1, cells := 0, slots := 0, locals := 25 }
abbrev zwX6_isDigit : List Cond := Cond.code yX6_isDigit cX6_isDigit 1 (some .boolean) :: wsAll
set_option maxHeartbeats 4000000 in
set_option maxRecDepth 100000 in
theorem c_X6_isDigit {l : Launch} {D : va_G} {cI cZ cM : ClassId} {res : Int32} {sz : Nat} {x0 : Int32} (hf : f_X6_isDigit x0 = some res) : Met l yX6_isDigit zwX6_isDigit rmX6_isDigit (zPc D (zT cI cZ cM) [.int x0] [] sz) (zQi D (zT cI cZ cM) res [] (va_A [] sz)) 0 0 (va_A [] sz) := by
  refine z_met (cc := cX6_isDigit) (maxL := 1) (ret := (some .boolean)) (by decide) rfl (Nat.le_of_ble_eq_true rfl) ?_
  intro p e s m below meth c ls E hsz hw hl
  obtain ⟨⟨hx, hb, hml, hown, hts⟩, hr, hlocks⟩ := id E
  have hl : lv_has ls 1 [(0, .int x0)] := hl
  unfold f_X6_isDigit at hf
  refine lv_iload_n hx hb dX6_isDigit_0 rfl (lv_at hl 0 rfl) ?_
  refine lv_i2l hx hb dX6_isDigit_1 rfl ?_
  refine lv_ldc2 (v := 48) hx hb hown (hts _ mw_741) dX6_isDigit_2 ?_
  refine lv_ldc2 (v := 57) hx hb hown (hts _ mw_760) dX6_isDigit_5 ?_
  obtain ⟨r_1, h_2, hf⟩ := oB_elim hf
  refine z_callSi (ws' := []) (wr := []) (As := [.long ((x0).toInt64), .long (48 : Int64), .long (57 : Int64)]) (rest := []) E.1 hl hw (c_X6_isIn h_2) (va_cwS 3 hts (z_gS mw_595 mw_596 mw_597 mw_598) rfl rfl rfl (by decide +kernel) ⟨(Nat.le_of_ble_eq_true rfl), (Nat.le_of_ble_eq_true rfl)⟩) 0 [] [] rfl rfl rfl rfl rfl rfl (by decide +kernel) rfl rfl (Nat.le_of_ble_eq_true rfl) dX6_isDigit_8 ⟨Nat.le_of_ble_eq_true rfl, Nat.le_of_ble_eq_true rfl⟩ (fun H locs hw => ?_)
  obtain ⟨h_3, hf⟩ := oG_elim hf
  cases hf
  exact z_zret E rfl (z_nar h_3) hw dX6_isDigit_11
end
/-! X6_isSmall -/
section
variable {p : Program} {l : Launch} {e : Env} {s : State} {m : MethodId} {args : Array Value} {below : List Frame} {meth : Method} {c : Code} {D : va_G} {A : Nat → Prop} {cI cZ cM : ClassId} {res : Int32}
def rmX6_isSmall : Room := { frames := 1, cells := 0, slots := 0, locals := 25 }
abbrev zwX6_isSmall : List Cond := Cond.code yX6_isSmall cX6_isSmall 1 (some .boolean) :: wsAll
set_option maxHeartbeats 4000000 in
set_option maxRecDepth 100000 in
theorem c_X6_isSmall {l : Launch} {D : va_G} {cI cZ cM : ClassId} {res : Int32} {sz : Nat} {x0 : Int32} (hf : f_X6_isSmall x0 = some res) : Met l yX6_isSmall zwX6_isSmall rmX6_isSmall (zPc D (zT cI cZ cM) [.int x0] [] sz) (zQi D (zT cI cZ cM) res [] (va_A [] sz)) 0 0 (va_A [] sz) := by
  refine z_met (cc := cX6_isSmall) (maxL := 1) (ret := (some .boolean)) (by decide) rfl (Nat.le_of_ble_eq_true rfl) ?_
  intro p e s m below meth c ls E hsz hw hl
  obtain ⟨⟨hx, hb, hml, hown, hts⟩, hr, hlocks⟩ := id E
  have hl : lv_has ls 1 [(0, .int x0)] := hl
  unfold f_X6_isSmall at hf
  refine lv_iload_n hx hb dX6_isSmall_0 rfl (lv_at hl 0 rfl) ?_
  refine lv_i2l hx hb dX6_isSmall_1 rfl ?_
  refine lv_ldc2 (v := 97) hx hb hown (hts _ mw_749) dX6_isSmall_2 ?_
  refine lv_ldc2 (v := 122) hx hb hown (hts _ mw_750) dX6_isSmall_5 ?_
  obtain ⟨r_1, h_2, hf⟩ := oB_elim hf
  refine z_callSi (ws' := []) (wr := []) (As := [.long ((x0).toInt64), .long (97 : Int64), .long (122 : Int64)]) (rest := []) E.1 hl hw (c_X6_isIn h_2) (va_cwS 3 hts (z_gS mw_595 mw_596 mw_597 mw_598) rfl rfl rfl (by decide +kernel) ⟨(Nat.le_of_ble_eq_true rfl), (Nat.le_of_ble_eq_true rfl)⟩) 0 [] [] rfl rfl rfl rfl rfl rfl (by decide +kernel) rfl rfl (Nat.le_of_ble_eq_true rfl) dX6_isSmall_8 ⟨Nat.le_of_ble_eq_true rfl, Nat.le_of_ble_eq_true rfl⟩ (fun H locs hw => ?_)
  obtain ⟨h_3, hf⟩ := oG_elim hf
  cases hf
  exact z_zret E rfl (z_nar h_3) hw dX6_isSmall_11
end
/-! X6_keyAt -/
section
variable {p : Program} {l : Launch} {e : Env} {s : State} {m : MethodId} {args : Array Value} {below : List Frame} {meth : Method} {c : Code} {D : va_G} {A : Nat → Prop} {cI cZ cM : ClassId} {a_this a_a a_fresh a_kept a_buffer a_best a_rentBy a_bareBy a_aheadBy a_isEdge a_tried a_stands a_found a_foundOn a_moving : Nat} {v_keptMany : Int32} {v_thrown : Int32} {v_buffered : Int32} {v_size : Int32} {v_kind : Int32} {v_wrong : Int32} {v_wrongAt : Int32} {v_errorAt : Int32} {v_number : Int64} {v_movingMany : Int32} {v_foundIncome : Int32} {v_foundMoves : Int32} {res : Int32} {adK adV : Nat → Nat}
def rmX6_keyAt : Room := { frames := 4, cells := 0, slots := 0, locals := 111 }
abbrev zwX6_keyAt : List Cond := Cond.code yX6_keyAt cX6_keyAt 4 (some .int) :: wsAll
set_option maxHeartbeats 4000000 in
set_option maxRecDepth 100000 in
theorem w_X6_keyAt_97 {n : Nat} (E : zE p s m args meth c cX6_keyAt 4 (some .int) zwX6_keyAt RX6) (hT : zTn s) (hLt : zLt adK s) (hG : zSg adK adV A s s.heap) {k4 : Int32 → Int32 → (Nat → Int32) → Int32 → Int32 → Option (Int32)} (hk4 : ∀ (x1 : Int32) (x2 : Int32) (v_buffer : Nat → Int32) (v_at : Int32) (v_behind : Int32), k4 x1 x2 v_buffer v_at v_behind = some res → ∀ (H : Heap) (locs : List Loc) (ls : Array Slot), zW D (zT cI cZ cM) A s [(a_this, .inr (6, [.ref a_a, .ref a_fresh, .ref a_kept, .int v_keptMany, .int v_thrown, .ref a_buffer, .int v_buffered, .int v_size, .int v_at, .int v_behind, .int v_kind, .int v_wrong, .int v_wrongAt, .int v_errorAt, .long v_number, .ref a_best, .ref a_rentBy, .ref a_bareBy, .ref a_aheadBy, .ref a_isEdge, .ref a_tried, .ref a_stands, .ref a_found, .ref a_foundOn, .ref a_moving, .int v_movingMany, .int v_foundIncome, .int v_foundMoves])), (a_buffer, .inl (cI, 600, .inl v_buffer))] H locs → lv_has ls 4 [(0, .ref a_this), (1, .int x1), (2, .int x2)] → W p l e rmX6_keyAt s m args below meth c H locs 0 0 (MQ below (zQi D (zT cI cZ cM) res [(a_this, .inr (6, [.ref a_a, .ref a_fresh, .ref a_kept, .int v_keptMany, .int v_thrown, .ref a_buffer, .int v_buffered, .int v_size, .int v_at, .int v_behind, .int v_kind, .int v_wrong, .int v_wrongAt, .int v_errorAt, .long v_number, .ref a_best, .ref a_rentBy, .ref a_bareBy, .ref a_aheadBy, .ref a_isEdge, .ref a_tried, .ref a_stands, .ref a_found, .ref a_foundOn, .ref a_moving, .int v_movingMany, .int v_foundIncome, .int v_foundMoves])), (a_buffer, .inl (cI, 600, .inl v_buffer))] A) args s 0 0 A) (F0 m 4 ls [])) : ∀ (fu : Nat), ∀ (x1 : Int32) (x2 : Int32) (v_buffer : Nat → Int32) (v_at : Int32) (v_behind : Int32), f_X6_keyAt_97 n k4 fu x1 x2 v_buffer v_at v_behind = some res → ∀ (H : Heap) (locs : List Loc) (ls : Array Slot), zW D (zT cI cZ cM) A s [(a_this, .inr (6, [.ref a_a, .ref a_fresh, .ref a_kept, .int v_keptMany, .int v_thrown, .ref a_buffer, .int v_buffered, .int v_size, .int v_at, .int v_behind, .int v_kind, .int v_wrong, .int v_wrongAt, .int v_errorAt, .long v_number, .ref a_best, .ref a_rentBy, .ref a_bareBy, .ref a_aheadBy, .ref a_isEdge, .ref a_tried, .ref a_stands, .ref a_found, .ref a_foundOn, .ref a_moving, .int v_movingMany, .int v_foundIncome, .int v_foundMoves])), (a_buffer, .inl (cI, 600, .inl v_buffer))] H locs → lv_has ls 4 [(0, .ref a_this), (1, .int x1), (2, .int x2)] → W p l e rmX6_keyAt s m args below meth c H locs 0 0 (MQ below (zQi D (zT cI cZ cM) res [(a_this, .inr (6, [.ref a_a, .ref a_fresh, .ref a_kept, .int v_keptMany, .int v_thrown, .ref a_buffer, .int v_buffered, .int v_size, .int v_at, .int v_behind, .int v_kind, .int v_wrong, .int v_wrongAt, .int v_errorAt, .long v_number, .ref a_best, .ref a_rentBy, .ref a_bareBy, .ref a_aheadBy, .ref a_isEdge, .ref a_tried, .ref a_stands, .ref a_found, .ref a_foundOn, .ref a_moving, .int v_movingMany, .int v_foundIncome, .int v_foundMoves])), (a_buffer, .inl (cI, 600, .inl v_buffer))] A) args s 0 0 A) (F0 m 97 ls []) := by
  obtain ⟨⟨hx, hb, hml, hown, hts⟩, hr, hlocks⟩ := id E
  intro fu
  induction fu with
  | zero => intro x1 x2 v_buffer v_at v_behind hf; rw [f_X6_keyAt_97.eq_1] at hf; cases hf
  | succ fu ih =>
    intro x1 x2 v_buffer v_at v_behind hf H locs ls hw hl
    rw [f_X6_keyAt_97.eq_2] at hf
    refine va_ldcS hx hb hown (hLt.2.2.2.2.2.2.2.2) dX6_keyAt_97 ?_
    refine lv_iload_n hx hb dX6_keyAt_99 rfl (lv_at hl 2 rfl) ?_
    obtain ⟨h_1, hf⟩ := oG_elim hf
    obtain ⟨h_2, hf⟩ := oA_elim hf
    obtain ⟨j_5, h_3, h_4⟩ := vp_in_of h_2 (js_small _ h_1)
    refine z_top h_4.symm ?_
    refine z_callJV (i := 8) (As := [.int (nI j_5)]) (rest := []) E.1 hl hT hLt hG hw h_1 (c_J0_charAt_5068e h_1 h_3) (cwV 1 hts (z_gV mw_756 mw_321 mw_322 mw_308 mw_323) rfl rfl rfl (by decide +kernel) ⟨Nat.le_of_ble_eq_true rfl, Nat.le_of_ble_eq_true rfl⟩) rfl rfl (Nat.le_of_ble_eq_true rfl) dX6_keyAt_100 ⟨Nat.le_of_ble_eq_true rfl, Nat.le_of_ble_eq_true rfl⟩ (fun H locs hw => ?_)
    refine z_top (y := (jsCh 8 (x2).toNatClampNeg)) (by rw [h_4, nI_clamp (Nat.lt_trans h_3 (js_small _ h_1))]) ?_
    refine lv_bipush (v := 32) hx hb dX6_keyAt_103 (by decide) ?_
    refine lv_icmp_eq (tgt := 114) hx hb dX6_keyAt_105 (by decide) (fun hc => ?_) (fun hc => ?_)
    · have hf := oI_pos hc hf
      refine lv_iinc (v := (x2 + (1 : Int32))) (lv' := [(2, .int (x2 + (1 : Int32))), (0, .ref a_this), (1, .int x1)]) hx hb dX6_keyAt_114 hl (k := 2) rfl rfl (z_lt rfl) rfl (fun ls hl => ?_)
      refine lv_iinc (v := (x1 + (1 : Int32))) (lv' := [(1, .int (x1 + (1 : Int32))), (2, .int (x2 + (1 : Int32))), (0, .ref a_this)]) hx hb dX6_keyAt_117 hl (k := 2) rfl rfl (z_lt rfl) rfl (fun ls hl => ?_)
      refine lv_goto (tgt := 4) hx hb dX6_keyAt_120 (by decide) ?_
      exact hk4 _ _ _ _ _ hf _ _ _ hw (lv_sub hl [2, 0, 1] rfl)
    · have hf := oI_neg hc hf
      refine lv_iinc (v := (x2 + (1 : Int32))) (lv' := [(2, .int (x2 + (1 : Int32))), (0, .ref a_this), (1, .int x1)]) hx hb dX6_keyAt_108 hl (k := 2) rfl rfl (z_lt rfl) rfl (fun ls hl => ?_)
      refine lv_goto (tgt := 97) hx hb dX6_keyAt_111 (by decide) ?_
      exact ih _ _ _ _ _ hf _ _ _ hw (lv_sub hl [1, 2, 0] rfl)
set_option maxHeartbeats 4000000 in
set_option maxRecDepth 100000 in
theorem w_X6_keyAt_69 {n : Nat} (E : zE p s m args meth c cX6_keyAt 4 (some .int) zwX6_keyAt RX6) (hT : zTn s) (hLt : zLt adK s) (hG : zSg adK adV A s s.heap) {k4 : Int32 → Int32 → (Nat → Int32) → Int32 → Int32 → Option (Int32)} (hk4 : ∀ (x1 : Int32) (x2 : Int32) (v_buffer : Nat → Int32) (v_at : Int32) (v_behind : Int32), k4 x1 x2 v_buffer v_at v_behind = some res → ∀ (H : Heap) (locs : List Loc) (ls : Array Slot), zW D (zT cI cZ cM) A s [(a_this, .inr (6, [.ref a_a, .ref a_fresh, .ref a_kept, .int v_keptMany, .int v_thrown, .ref a_buffer, .int v_buffered, .int v_size, .int v_at, .int v_behind, .int v_kind, .int v_wrong, .int v_wrongAt, .int v_errorAt, .long v_number, .ref a_best, .ref a_rentBy, .ref a_bareBy, .ref a_aheadBy, .ref a_isEdge, .ref a_tried, .ref a_stands, .ref a_found, .ref a_foundOn, .ref a_moving, .int v_movingMany, .int v_foundIncome, .int v_foundMoves])), (a_buffer, .inl (cI, 600, .inl v_buffer))] H locs → lv_has ls 4 [(0, .ref a_this), (1, .int x1), (2, .int x2)] → W p l e rmX6_keyAt s m args below meth c H locs 0 0 (MQ below (zQi D (zT cI cZ cM) res [(a_this, .inr (6, [.ref a_a, .ref a_fresh, .ref a_kept, .int v_keptMany, .int v_thrown, .ref a_buffer, .int v_buffered, .int v_size, .int v_at, .int v_behind, .int v_kind, .int v_wrong, .int v_wrongAt, .int v_errorAt, .long v_number, .ref a_best, .ref a_rentBy, .ref a_bareBy, .ref a_aheadBy, .ref a_isEdge, .ref a_tried, .ref a_stands, .ref a_found, .ref a_foundOn, .ref a_moving, .int v_movingMany, .int v_foundIncome, .int v_foundMoves])), (a_buffer, .inl (cI, 600, .inl v_buffer))] A) args s 0 0 A) (F0 m 4 ls [])) : ∀ (x1 : Int32) (x2 : Int32) (x3 : Int32) (v_buffer : Nat → Int32) (v_at : Int32) (v_behind : Int32), f_X6_keyAt_69 n k4 x1 x2 x3 v_buffer v_at v_behind = some res → ∀ (H : Heap) (locs : List Loc) (ls : Array Slot), zW D (zT cI cZ cM) A s [(a_this, .inr (6, [.ref a_a, .ref a_fresh, .ref a_kept, .int v_keptMany, .int v_thrown, .ref a_buffer, .int v_buffered, .int v_size, .int v_at, .int v_behind, .int v_kind, .int v_wrong, .int v_wrongAt, .int v_errorAt, .long v_number, .ref a_best, .ref a_rentBy, .ref a_bareBy, .ref a_aheadBy, .ref a_isEdge, .ref a_tried, .ref a_stands, .ref a_found, .ref a_foundOn, .ref a_moving, .int v_movingMany, .int v_foundIncome, .int v_foundMoves])), (a_buffer, .inl (cI, 600, .inl v_buffer))] H locs → lv_has ls 4 [(0, .ref a_this), (1, .int x1), (2, .int x2), (3, .int x3)] → W p l e rmX6_keyAt s m args below meth c H locs 0 0 (MQ below (zQi D (zT cI cZ cM) res [(a_this, .inr (6, [.ref a_a, .ref a_fresh, .ref a_kept, .int v_keptMany, .int v_thrown, .ref a_buffer, .int v_buffered, .int v_size, .int v_at, .int v_behind, .int v_kind, .int v_wrong, .int v_wrongAt, .int v_errorAt, .long v_number, .ref a_best, .ref a_rentBy, .ref a_bareBy, .ref a_aheadBy, .ref a_isEdge, .ref a_tried, .ref a_stands, .ref a_found, .ref a_foundOn, .ref a_moving, .int v_movingMany, .int v_foundIncome, .int v_foundMoves])), (a_buffer, .inl (cI, 600, .inl v_buffer))] A) args s 0 0 A) (F0 m 69 ls []) := by
  obtain ⟨⟨hx, hb, hml, hown, hts⟩, hr, hlocks⟩ := id E
  intro x1 x2 x3 v_buffer v_at v_behind hf H locs ls hw hl
  unfold f_X6_keyAt_69 at hf
  refine va_ldcS hx hb hown (hLt.2.2.2.2.2.2.2.2) dX6_keyAt_69 ?_
  refine lv_iload_n hx hb dX6_keyAt_71 rfl (lv_at hl 2 rfl) ?_
  refine lv_iload_n hx hb dX6_keyAt_72 rfl (lv_at hl 3 rfl) ?_
  refine lv_iadd hx hb dX6_keyAt_73 ?_
  obtain ⟨h_6, hf⟩ := oG_elim hf
  obtain ⟨h_7, hf⟩ := oA_elim hf
  obtain ⟨j_10, h_8, h_9⟩ := vp_in_of h_7 (js_small _ h_6)
  refine z_top h_9.symm ?_
  refine z_callJV (i := 8) (As := [.int (nI j_10)]) (rest := []) E.1 hl hT hLt hG hw h_6 (c_J0_charAt_5068e h_6 h_8) (cwV 1 hts (z_gV mw_756 mw_321 mw_322 mw_308 mw_323) rfl rfl rfl (by decide +kernel) ⟨Nat.le_of_ble_eq_true rfl, Nat.le_of_ble_eq_true rfl⟩) rfl rfl (Nat.le_of_ble_eq_true rfl) dX6_keyAt_74 ⟨Nat.le_of_ble_eq_true rfl, Nat.le_of_ble_eq_true rfl⟩ (fun H locs hw => ?_)
  refine z_top (y := (jsCh 8 ((x2 + x3)).toNatClampNeg)) (by rw [h_9, nI_clamp (Nat.lt_trans h_8 (js_small _ h_6))]) ?_
  refine lv_bipush (v := 32) hx hb dX6_keyAt_77 (by decide) ?_
  refine lv_icmp_ne (tgt := 97) hx hb dX6_keyAt_79 (by decide) (fun hc => ?_) (fun hc => ?_)
  · have hf := oI_neg hc hf
    exact w_X6_keyAt_97 E hT hLt hG hk4 n _ _ _ _ _ hf _ _ _ hw (lv_sub hl [0, 1, 2] rfl)
  · have hf := oI_pos hc hf
    refine lv_aload_n hx hb dX6_keyAt_82 rfl (lv_at hl 0 rfl) ?_
    refine z_get E.1 hw in_wsX60 0 rfl rfl 8 (z_lt rfl) mw_736 (v := .int v_at) rfl dX6_keyAt_83 ?_
    refine lv_iload_n hx hb dX6_keyAt_86 rfl (lv_at hl 3 rfl) ?_
    refine lv_iadd hx hb dX6_keyAt_87 ?_
    refine lv_aload_n hx hb dX6_keyAt_88 rfl (lv_at hl 0 rfl) ?_
    refine z_get E.1 hw in_wsX60 0 rfl rfl 9 (z_lt rfl) mw_735 (v := .int v_behind) rfl dX6_keyAt_89 ?_
    refine lv_icmp_ne (tgt := 97) hx hb dX6_keyAt_92 (by decide) (fun hc => ?_) (fun hc => ?_)
    · have hf := oI_neg hc hf
      exact w_X6_keyAt_97 E hT hLt hG hk4 n _ _ _ _ _ hf _ _ _ hw (lv_sub hl [0, 1, 2] rfl)
    · have hf := oI_pos hc hf
      refine lv_iload_n hx hb dX6_keyAt_95 rfl (lv_at hl 1 rfl) ?_
      cases hf
      exact z_iret E rfl hw dX6_keyAt_96
set_option maxHeartbeats 4000000 in
set_option maxRecDepth 100000 in
theorem w_X6_keyAt_15 {n : Nat} (E : zE p s m args meth c cX6_keyAt 4 (some .int) zwX6_keyAt RX6) (hT : zTn s) (hLt : zLt adK s) (hG : zSg adK adV A s s.heap) {k4 : Int32 → Int32 → (Nat → Int32) → Int32 → Int32 → Option (Int32)} (hk4 : ∀ (x1 : Int32) (x2 : Int32) (v_buffer : Nat → Int32) (v_at : Int32) (v_behind : Int32), k4 x1 x2 v_buffer v_at v_behind = some res → ∀ (H : Heap) (locs : List Loc) (ls : Array Slot), zW D (zT cI cZ cM) A s [(a_this, .inr (6, [.ref a_a, .ref a_fresh, .ref a_kept, .int v_keptMany, .int v_thrown, .ref a_buffer, .int v_buffered, .int v_size, .int v_at, .int v_behind, .int v_kind, .int v_wrong, .int v_wrongAt, .int v_errorAt, .long v_number, .ref a_best, .ref a_rentBy, .ref a_bareBy, .ref a_aheadBy, .ref a_isEdge, .ref a_tried, .ref a_stands, .ref a_found, .ref a_foundOn, .ref a_moving, .int v_movingMany, .int v_foundIncome, .int v_foundMoves])), (a_buffer, .inl (cI, 600, .inl v_buffer))] H locs → lv_has ls 4 [(0, .ref a_this), (1, .int x1), (2, .int x2)] → W p l e rmX6_keyAt s m args below meth c H locs 0 0 (MQ below (zQi D (zT cI cZ cM) res [(a_this, .inr (6, [.ref a_a, .ref a_fresh, .ref a_kept, .int v_keptMany, .int v_thrown, .ref a_buffer, .int v_buffered, .int v_size, .int v_at, .int v_behind, .int v_kind, .int v_wrong, .int v_wrongAt, .int v_errorAt, .long v_number, .ref a_best, .ref a_rentBy, .ref a_bareBy, .ref a_aheadBy, .ref a_isEdge, .ref a_tried, .ref a_stands, .ref a_found, .ref a_foundOn, .ref a_moving, .int v_movingMany, .int v_foundIncome, .int v_foundMoves])), (a_buffer, .inl (cI, 600, .inl v_buffer))] A) args s 0 0 A) (F0 m 4 ls [])) : ∀ (fu : Nat), ∀ (x1 : Int32) (x2 : Int32) (x3 : Int32) (v_buffer : Nat → Int32) (v_at : Int32) (v_behind : Int32), f_X6_keyAt_15 n k4 fu x1 x2 x3 v_buffer v_at v_behind = some res → ∀ (H : Heap) (locs : List Loc) (ls : Array Slot), zW D (zT cI cZ cM) A s [(a_this, .inr (6, [.ref a_a, .ref a_fresh, .ref a_kept, .int v_keptMany, .int v_thrown, .ref a_buffer, .int v_buffered, .int v_size, .int v_at, .int v_behind, .int v_kind, .int v_wrong, .int v_wrongAt, .int v_errorAt, .long v_number, .ref a_best, .ref a_rentBy, .ref a_bareBy, .ref a_aheadBy, .ref a_isEdge, .ref a_tried, .ref a_stands, .ref a_found, .ref a_foundOn, .ref a_moving, .int v_movingMany, .int v_foundIncome, .int v_foundMoves])), (a_buffer, .inl (cI, 600, .inl v_buffer))] H locs → lv_has ls 4 [(0, .ref a_this), (1, .int x1), (2, .int x2), (3, .int x3)] → W p l e rmX6_keyAt s m args below meth c H locs 0 0 (MQ below (zQi D (zT cI cZ cM) res [(a_this, .inr (6, [.ref a_a, .ref a_fresh, .ref a_kept, .int v_keptMany, .int v_thrown, .ref a_buffer, .int v_buffered, .int v_size, .int v_at, .int v_behind, .int v_kind, .int v_wrong, .int v_wrongAt, .int v_errorAt, .long v_number, .ref a_best, .ref a_rentBy, .ref a_bareBy, .ref a_aheadBy, .ref a_isEdge, .ref a_tried, .ref a_stands, .ref a_found, .ref a_foundOn, .ref a_moving, .int v_movingMany, .int v_foundIncome, .int v_foundMoves])), (a_buffer, .inl (cI, 600, .inl v_buffer))] A) args s 0 0 A) (F0 m 15 ls []) := by
  obtain ⟨⟨hx, hb, hml, hown, hts⟩, hr, hlocks⟩ := id E
  intro fu
  induction fu with
  | zero => intro x1 x2 x3 v_buffer v_at v_behind hf; rw [f_X6_keyAt_15.eq_1] at hf; cases hf
  | succ fu ih =>
    intro x1 x2 x3 v_buffer v_at v_behind hf H locs ls hw hl
    rw [f_X6_keyAt_15.eq_2] at hf
    refine va_ldcS hx hb hown (hLt.2.2.2.2.2.2.2.2) dX6_keyAt_15 ?_
    refine lv_iload_n hx hb dX6_keyAt_17 rfl (lv_at hl 2 rfl) ?_
    refine lv_iload_n hx hb dX6_keyAt_18 rfl (lv_at hl 3 rfl) ?_
    refine lv_iadd hx hb dX6_keyAt_19 ?_
    obtain ⟨h_11, hf⟩ := oG_elim hf
    obtain ⟨h_12, hf⟩ := oA_elim hf
    obtain ⟨j_15, h_13, h_14⟩ := vp_in_of h_12 (js_small _ h_11)
    refine z_top h_14.symm ?_
    refine z_callJV (i := 8) (As := [.int (nI j_15)]) (rest := []) E.1 hl hT hLt hG hw h_11 (c_J0_charAt_5068e h_11 h_13) (cwV 1 hts (z_gV mw_756 mw_321 mw_322 mw_308 mw_323) rfl rfl rfl (by decide +kernel) ⟨Nat.le_of_ble_eq_true rfl, Nat.le_of_ble_eq_true rfl⟩) rfl rfl (Nat.le_of_ble_eq_true rfl) dX6_keyAt_20 ⟨Nat.le_of_ble_eq_true rfl, Nat.le_of_ble_eq_true rfl⟩ (fun H locs hw => ?_)
    refine z_top (y := (jsCh 8 ((x2 + x3)).toNatClampNeg)) (by rw [h_14, nI_clamp (Nat.lt_trans h_13 (js_small _ h_11))]) ?_
    refine lv_bipush (v := 32) hx hb dX6_keyAt_23 (by decide) ?_
    refine lv_icmp_eq (tgt := 69) hx hb dX6_keyAt_25 (by decide) (fun hc => ?_) (fun hc => ?_)
    · have hf := oI_pos hc hf
      exact w_X6_keyAt_69 E hT hLt hG hk4 _ _ _ _ _ _ hf _ _ _ hw (lv_sub hl [0, 1, 2, 3] rfl)
    · have hf := oI_neg hc hf
      refine lv_aload_n hx hb dX6_keyAt_28 rfl (lv_at hl 0 rfl) ?_
      refine z_get E.1 hw in_wsX60 0 rfl rfl 8 (z_lt rfl) mw_736 (v := .int v_at) rfl dX6_keyAt_29 ?_
      refine lv_iload_n hx hb dX6_keyAt_32 rfl (lv_at hl 3 rfl) ?_
      refine lv_iadd hx hb dX6_keyAt_33 ?_
      refine lv_aload_n hx hb dX6_keyAt_34 rfl (lv_at hl 0 rfl) ?_
      refine z_get E.1 hw in_wsX60 0 rfl rfl 9 (z_lt rfl) mw_735 (v := .int v_behind) rfl dX6_keyAt_35 ?_
      refine lv_icmp_ge (tgt := 69) hx hb dX6_keyAt_38 (by decide) (fun hc => ?_) (fun hc => ?_)
      · have hf := oI_pos hc hf
        exact w_X6_keyAt_69 E hT hLt hG hk4 _ _ _ _ _ _ hf _ _ _ hw (lv_sub hl [0, 1, 2, 3] rfl)
      · have hf := oI_neg hc hf
        refine lv_aload_n hx hb dX6_keyAt_41 rfl (lv_at hl 0 rfl) ?_
        refine z_get E.1 hw in_wsX60 0 rfl rfl 5 (z_lt rfl) mw_607 (v := .ref a_buffer) rfl dX6_keyAt_42 ?_
        refine lv_aload_n hx hb dX6_keyAt_45 rfl (lv_at hl 0 rfl) ?_
        refine z_get E.1 hw in_wsX60 0 rfl rfl 8 (z_lt rfl) mw_736 (v := .int v_at) rfl dX6_keyAt_46 ?_
        refine lv_iload_n hx hb dX6_keyAt_49 rfl (lv_at hl 3 rfl) ?_
        refine lv_iadd hx hb dX6_keyAt_50 ?_
        obtain ⟨h_16, hf⟩ := oA_elim hf
        refine z_iald E.1 hw 1 0 rfl rfl h_16 dX6_keyAt_51 ?_
        refine va_ldcS hx hb hown (hLt.2.2.2.2.2.2.2.2) dX6_keyAt_52 ?_
        refine lv_iload_n hx hb dX6_keyAt_54 rfl (lv_at hl 2 rfl) ?_
        refine lv_iload_n hx hb dX6_keyAt_55 rfl (lv_at hl 3 rfl) ?_
        refine lv_iadd hx hb dX6_keyAt_56 ?_
        obtain ⟨h_17, hf⟩ := oG_elim hf
        obtain ⟨h_18, hf⟩ := oA_elim hf
        obtain ⟨j_21, h_19, h_20⟩ := vp_in_of h_18 (js_small _ h_17)
        refine z_top h_20.symm ?_
        refine z_callJV (i := 8) (As := [.int (nI j_21)]) (rest := [.int (v_buffer ((v_at + x3)).toNatClampNeg)]) E.1 hl hT hLt hG hw h_17 (c_J0_charAt_5068e h_17 h_19) (cwV 1 hts (z_gV mw_756 mw_321 mw_322 mw_308 mw_323) rfl rfl rfl (by decide +kernel) ⟨Nat.le_of_ble_eq_true rfl, Nat.le_of_ble_eq_true rfl⟩) rfl rfl (Nat.le_of_ble_eq_true rfl) dX6_keyAt_57 ⟨Nat.le_of_ble_eq_true rfl, Nat.le_of_ble_eq_true rfl⟩ (fun H locs hw => ?_)
        refine z_top (y := (jsCh 8 ((x2 + x3)).toNatClampNeg)) (by rw [h_20, nI_clamp (Nat.lt_trans h_19 (js_small _ h_17))]) ?_
        refine lv_icmp_ne (tgt := 69) hx hb dX6_keyAt_60 (by decide) (fun hc => ?_) (fun hc => ?_)
        · have hf := oI_neg hc hf
          exact w_X6_keyAt_69 E hT hLt hG hk4 _ _ _ _ _ _ hf _ _ _ hw (lv_sub hl [0, 1, 2, 3] rfl)
        · have hf := oI_pos hc hf
          refine lv_iinc (v := (x3 + (1 : Int32))) (lv' := [(3, .int (x3 + (1 : Int32))), (0, .ref a_this), (1, .int x1), (2, .int x2)]) hx hb dX6_keyAt_63 hl (k := 3) rfl rfl (z_lt rfl) rfl (fun ls hl => ?_)
          refine lv_goto (tgt := 15) hx hb dX6_keyAt_66 (by decide) ?_
          exact ih _ _ _ _ _ _ hf _ _ _ hw (lv_sub hl [1, 2, 3, 0] rfl)
set_option maxHeartbeats 4000000 in
set_option maxRecDepth 100000 in
theorem w_X6_keyAt_4 {n : Nat} (E : zE p s m args meth c cX6_keyAt 4 (some .int) zwX6_keyAt RX6) (hT : zTn s) (hLt : zLt adK s) (hG : zSg adK adV A s s.heap) : ∀ (fu : Nat), ∀ (x1 : Int32) (x2 : Int32) (v_buffer : Nat → Int32) (v_at : Int32) (v_behind : Int32), f_X6_keyAt_4 n fu x1 x2 v_buffer v_at v_behind = some res → ∀ (H : Heap) (locs : List Loc) (ls : Array Slot), zW D (zT cI cZ cM) A s [(a_this, .inr (6, [.ref a_a, .ref a_fresh, .ref a_kept, .int v_keptMany, .int v_thrown, .ref a_buffer, .int v_buffered, .int v_size, .int v_at, .int v_behind, .int v_kind, .int v_wrong, .int v_wrongAt, .int v_errorAt, .long v_number, .ref a_best, .ref a_rentBy, .ref a_bareBy, .ref a_aheadBy, .ref a_isEdge, .ref a_tried, .ref a_stands, .ref a_found, .ref a_foundOn, .ref a_moving, .int v_movingMany, .int v_foundIncome, .int v_foundMoves])), (a_buffer, .inl (cI, 600, .inl v_buffer))] H locs → lv_has ls 4 [(0, .ref a_this), (1, .int x1), (2, .int x2)] → W p l e rmX6_keyAt s m args below meth c H locs 0 0 (MQ below (zQi D (zT cI cZ cM) res [(a_this, .inr (6, [.ref a_a, .ref a_fresh, .ref a_kept, .int v_keptMany, .int v_thrown, .ref a_buffer, .int v_buffered, .int v_size, .int v_at, .int v_behind, .int v_kind, .int v_wrong, .int v_wrongAt, .int v_errorAt, .long v_number, .ref a_best, .ref a_rentBy, .ref a_bareBy, .ref a_aheadBy, .ref a_isEdge, .ref a_tried, .ref a_stands, .ref a_found, .ref a_foundOn, .ref a_moving, .int v_movingMany, .int v_foundIncome, .int v_foundMoves])), (a_buffer, .inl (cI, 600, .inl v_buffer))] A) args s 0 0 A) (F0 m 4 ls []) := by
  obtain ⟨⟨hx, hb, hml, hown, hts⟩, hr, hlocks⟩ := id E
  intro fu
  induction fu with
  | zero => intro x1 x2 v_buffer v_at v_behind hf; rw [f_X6_keyAt_4.eq_1] at hf; cases hf
  | succ fu ih =>
    intro x1 x2 v_buffer v_at v_behind hf H locs ls hw hl
    rw [f_X6_keyAt_4.eq_2] at hf
    refine lv_iload_n hx hb dX6_keyAt_4 rfl (lv_at hl 2 rfl) ?_
    refine va_ldcS hx hb hown (hLt.2.2.2.2.2.2.2.2) dX6_keyAt_5 ?_
    obtain ⟨h_22, hf⟩ := oG_elim hf
    refine z_callJV (i := 8) (As := []) (rest := [.int x2]) E.1 hl hT hLt hG hw h_22 (c_J0_length_8abf5 h_22) (cwV 0 hts (z_gV mw_755 mw_306 mw_307 mw_308 mw_309) rfl rfl rfl (by decide +kernel) ⟨Nat.le_of_ble_eq_true rfl, Nat.le_of_ble_eq_true rfl⟩) rfl rfl (Nat.le_of_ble_eq_true rfl) dX6_keyAt_7 ⟨Nat.le_of_ble_eq_true rfl, Nat.le_of_ble_eq_true rfl⟩ (fun H locs hw => ?_)
    refine lv_icmp_ge (tgt := 123) hx hb dX6_keyAt_10 (by decide) (fun hc => ?_) (fun hc => ?_)
    · have hf := oI_pos hc hf
      refine lv_bipush (v := 8) hx hb dX6_keyAt_123 (by decide) ?_
      cases hf
      exact z_iret E rfl hw dX6_keyAt_125
    · have hf := oI_neg hc hf
      refine lv_iconst (v := 0) hx hb dX6_keyAt_13 (by decide) ?_
      refine lv_istore_n (lv' := [(3, .int (0 : Int32)), (0, .ref a_this), (1, .int x1), (2, .int x2)]) hx hb dX6_keyAt_14 rfl hl (z_lt rfl) rfl (fun ls hl => ?_)
      exact w_X6_keyAt_15 E hT hLt hG ih n _ _ _ _ _ _ hf _ _ _ hw (lv_sub hl [1, 2, 3, 0] rfl)
set_option maxHeartbeats 4000000 in
set_option maxRecDepth 100000 in
theorem c_X6_keyAt {l : Launch} {D : va_G} {cI cZ cM : ClassId} {adK adV : Nat → Nat} {a_this a_a a_fresh a_kept a_buffer a_best a_rentBy a_bareBy a_aheadBy a_isEdge a_tried a_stands a_found a_foundOn a_moving : Nat} {v_keptMany : Int32} {v_thrown : Int32} {v_buffered : Int32} {v_size : Int32} {v_kind : Int32} {v_wrong : Int32} {v_wrongAt : Int32} {v_errorAt : Int32} {v_number : Int64} {v_movingMany : Int32} {v_foundIncome : Int32} {v_foundMoves : Int32} {res : Int32} {sz : Nat} {n : Nat} {v_buffer : Nat → Int32} {v_at : Int32} {v_behind : Int32} (hf : f_X6_keyAt n v_buffer v_at v_behind = some res) : Met l yX6_keyAt zwX6_keyAt rmX6_keyAt (zPcG D (zT cI cZ cM) [.ref a_this] [(a_this, .inr (6, [.ref a_a, .ref a_fresh, .ref a_kept, .int v_keptMany, .int v_thrown, .ref a_buffer, .int v_buffered, .int v_size, .int v_at, .int v_behind, .int v_kind, .int v_wrong, .int v_wrongAt, .int v_errorAt, .long v_number, .ref a_best, .ref a_rentBy, .ref a_bareBy, .ref a_aheadBy, .ref a_isEdge, .ref a_tried, .ref a_stands, .ref a_found, .ref a_foundOn, .ref a_moving, .int v_movingMany, .int v_foundIncome, .int v_foundMoves])), (a_buffer, .inl (cI, 600, .inl v_buffer))] sz adK adV) (zQi D (zT cI cZ cM) res [(a_this, .inr (6, [.ref a_a, .ref a_fresh, .ref a_kept, .int v_keptMany, .int v_thrown, .ref a_buffer, .int v_buffered, .int v_size, .int v_at, .int v_behind, .int v_kind, .int v_wrong, .int v_wrongAt, .int v_errorAt, .long v_number, .ref a_best, .ref a_rentBy, .ref a_bareBy, .ref a_aheadBy, .ref a_isEdge, .ref a_tried, .ref a_stands, .ref a_found, .ref a_foundOn, .ref a_moving, .int v_movingMany, .int v_foundIncome, .int v_foundMoves])), (a_buffer, .inl (cI, 600, .inl v_buffer))] (va_A [(a_this, .inr (6, [.ref a_a, .ref a_fresh, .ref a_kept, .int v_keptMany, .int v_thrown, .ref a_buffer, .int v_buffered, .int v_size, .int v_at, .int v_behind, .int v_kind, .int v_wrong, .int v_wrongAt, .int v_errorAt, .long v_number, .ref a_best, .ref a_rentBy, .ref a_bareBy, .ref a_aheadBy, .ref a_isEdge, .ref a_tried, .ref a_stands, .ref a_found, .ref a_foundOn, .ref a_moving, .int v_movingMany, .int v_foundIncome, .int v_foundMoves])), (a_buffer, .inl (cI, 600, .inl v_buffer))] sz)) 0 0 (va_A [(a_this, .inr (6, [.ref a_a, .ref a_fresh, .ref a_kept, .int v_keptMany, .int v_thrown, .ref a_buffer, .int v_buffered, .int v_size, .int v_at, .int v_behind, .int v_kind, .int v_wrong, .int v_wrongAt, .int v_errorAt, .long v_number, .ref a_best, .ref a_rentBy, .ref a_bareBy, .ref a_aheadBy, .ref a_isEdge, .ref a_tried, .ref a_stands, .ref a_found, .ref a_foundOn, .ref a_moving, .int v_movingMany, .int v_foundIncome, .int v_foundMoves])), (a_buffer, .inl (cI, 600, .inl v_buffer))] sz) := by
  refine z_metG (cc := cX6_keyAt) (maxL := 4) (ret := (some .int)) (by decide) rfl (Nat.le_of_ble_eq_true rfl) ?_
  intro p e s m below meth c ls E hT hLt hG hsz hw hl
  obtain ⟨⟨hx, hb, hml, hown, hts⟩, hr, hlocks⟩ := id E
  have hl : lv_has ls 4 [(0, .ref a_this)] := hl
  unfold f_X6_keyAt at hf
  refine lv_iconst (v := 0) hx hb dX6_keyAt_0 (by decide) ?_
  refine lv_istore_n (lv' := [(1, .int (0 : Int32)), (0, .ref a_this)]) hx hb dX6_keyAt_1 rfl hl (z_lt rfl) rfl (fun ls hl => ?_)
  refine lv_iconst (v := 1) hx hb dX6_keyAt_2 (by decide) ?_
  refine lv_istore_n (lv' := [(2, .int (1 : Int32)), (1, .int (0 : Int32)), (0, .ref a_this)]) hx hb dX6_keyAt_3 rfl hl (z_lt rfl) rfl (fun ls hl => ?_)
  exact w_X6_keyAt_4 E hT hLt hG  n _ _ _ _ _ hf _ _ _ hw (lv_sub hl [2, 1, 0] rfl)
end
/-! X6_next -/
section
variable {p : Program} {l : Launch} {e : Env} {s : State} {m : MethodId} {args : Array Value} {below : List Frame} {meth : Method} {c : Code} {D : va_G} {A : Nat → Prop} {cI cZ cM : ClassId} {a_this a_a a_fresh a_kept a_buffer a_best a_rentBy a_bareBy a_aheadBy a_isEdge a_tried a_stands a_found a_foundOn a_moving : Nat} {v_keptMany : Int32} {v_thrown : Int32} {v_buffered : Int32} {v_wrong : Int32} {v_wrongAt : Int32} {v_errorAt : Int32} {v_movingMany : Int32} {v_foundIncome : Int32} {v_foundMoves : Int32} {res : Int32 × Int32 × Int32 × Int64} {adK adV : Nat → Nat}
def rmX6_next : Room := { frames := 5, cells := 0, slots := 0, locals := 134 }
abbrev zwX6_next : List Cond := Cond.code yX6_next cX6_next 1 none :: wsAll
set_option maxHeartbeats 4000000 in
set_option maxRecDepth 100000 in
theorem w_X6_next_237 {n : Nat} {v_buffer : Nat → Int32} {v_size : Int32} (E : zE p s m args meth c cX6_next 1 none zwX6_next RX6) (hT : zTn s) (hLt : zLt adK s) (hG : zSg adK adV A s s.heap) : ∀ (t1 : Int32) (v_at : Int32) (v_behind : Int32) (v_kind : Int32) (v_number : Int64), f_X6_next_237 n t1 v_at v_behind v_kind v_number = some res → ∀ (H : Heap) (locs : List Loc) (ls : Array Slot), zW D (zT cI cZ cM) A s [(a_this, .inr (6, [.ref a_a, .ref a_fresh, .ref a_kept, .int v_keptMany, .int v_thrown, .ref a_buffer, .int v_buffered, .int v_size, .int v_at, .int v_behind, .int v_kind, .int v_wrong, .int v_wrongAt, .int v_errorAt, .long v_number, .ref a_best, .ref a_rentBy, .ref a_bareBy, .ref a_aheadBy, .ref a_isEdge, .ref a_tried, .ref a_stands, .ref a_found, .ref a_foundOn, .ref a_moving, .int v_movingMany, .int v_foundIncome, .int v_foundMoves])), (a_buffer, .inl (cI, 600, .inl v_buffer))] H locs → lv_has ls 1 [] → W p l e rmX6_next s m args below meth c H locs 0 0 (MQ below (zQv D (zT cI cZ cM) [(a_this, .inr (6, [.ref a_a, .ref a_fresh, .ref a_kept, .int v_keptMany, .int v_thrown, .ref a_buffer, .int v_buffered, .int v_size, .int res.1, .int res.2.1, .int res.2.2.1, .int v_wrong, .int v_wrongAt, .int v_errorAt, .long res.2.2.2, .ref a_best, .ref a_rentBy, .ref a_bareBy, .ref a_aheadBy, .ref a_isEdge, .ref a_tried, .ref a_stands, .ref a_found, .ref a_foundOn, .ref a_moving, .int v_movingMany, .int v_foundIncome, .int v_foundMoves])), (a_buffer, .inl (cI, 600, .inl v_buffer))] A) args s 0 0 A) (F0 m 237 ls [.int t1, .ref a_this]) := by
  obtain ⟨⟨hx, hb, hml, hown, hts⟩, hr, hlocks⟩ := id E
  intro t1 v_at v_behind v_kind v_number hf H locs ls hw hl
  unfold f_X6_next_237 at hf
  refine z_put (ws' := [(a_this, .inr (6, [.ref a_a, .ref a_fresh, .ref a_kept, .int v_keptMany, .int v_thrown, .ref a_buffer, .int v_buffered, .int v_size, .int v_at, .int v_behind, .int t1, .int v_wrong, .int v_wrongAt, .int v_errorAt, .long v_number, .ref a_best, .ref a_rentBy, .ref a_bareBy, .ref a_aheadBy, .ref a_isEdge, .ref a_tried, .ref a_stands, .ref a_found, .ref a_foundOn, .ref a_moving, .int v_movingMany, .int v_foundIncome, .int v_foundMoves])), (a_buffer, .inl (cI, 600, .inl v_buffer))]) E.1 hw in_wsX60 tyX6 tyX6_ok nmX6 0 rfl rfl 10 (z_lt rfl) mw_730 rfl rfl rfl (z_lt rfl) rfl dX6_next_237 (fun H locs hw => ?_)
  cases hf
  exact z_vret E rfl hw dX6_next_240
set_option maxHeartbeats 4000000 in
set_option maxRecDepth 100000 in
theorem w_X6_next_184 {n : Nat} (E : zE p s m args meth c cX6_next 1 none zwX6_next RX6) (hT : zTn s) (hLt : zLt adK s) (hG : zSg adK adV A s s.heap) {k133 : (Nat → Int32) → Int32 → Int32 → Int32 → Int32 → Int64 → Option (Int32 × Int32 × Int32 × Int64)} (hk133 : ∀ (v_buffer : Nat → Int32) (v_size : Int32) (v_at : Int32) (v_behind : Int32) (v_kind : Int32) (v_number : Int64), k133 v_buffer v_size v_at v_behind v_kind v_number = some res → ∀ (H : Heap) (locs : List Loc) (ls : Array Slot), zW D (zT cI cZ cM) A s [(a_this, .inr (6, [.ref a_a, .ref a_fresh, .ref a_kept, .int v_keptMany, .int v_thrown, .ref a_buffer, .int v_buffered, .int v_size, .int v_at, .int v_behind, .int v_kind, .int v_wrong, .int v_wrongAt, .int v_errorAt, .long v_number, .ref a_best, .ref a_rentBy, .ref a_bareBy, .ref a_aheadBy, .ref a_isEdge, .ref a_tried, .ref a_stands, .ref a_found, .ref a_foundOn, .ref a_moving, .int v_movingMany, .int v_foundIncome, .int v_foundMoves])), (a_buffer, .inl (cI, 600, .inl v_buffer))] H locs → lv_has ls 1 [(0, .ref a_this)] → W p l e rmX6_next s m args below meth c H locs 0 0 (MQ below (zQv D (zT cI cZ cM) [(a_this, .inr (6, [.ref a_a, .ref a_fresh, .ref a_kept, .int v_keptMany, .int v_thrown, .ref a_buffer, .int v_buffered, .int v_size, .int res.1, .int res.2.1, .int res.2.2.1, .int v_wrong, .int v_wrongAt, .int v_errorAt, .long res.2.2.2, .ref a_best, .ref a_rentBy, .ref a_bareBy, .ref a_aheadBy, .ref a_isEdge, .ref a_tried, .ref a_stands, .ref a_found, .ref a_foundOn, .ref a_moving, .int v_movingMany, .int v_foundIncome, .int v_foundMoves])), (a_buffer, .inl (cI, 600, .inl v_buffer))] A) args s 0 0 A) (F0 m 133 ls [])) : ∀ (v_buffer : Nat → Int32) (v_size : Int32) (v_at : Int32) (v_behind : Int32) (v_kind : Int32) (v_number : Int64), f_X6_next_184 n k133 v_buffer v_size v_at v_behind v_kind v_number = some res → ∀ (H : Heap) (locs : List Loc) (ls : Array Slot), zW D (zT cI cZ cM) A s [(a_this, .inr (6, [.ref a_a, .ref a_fresh, .ref a_kept, .int v_keptMany, .int v_thrown, .ref a_buffer, .int v_buffered, .int v_size, .int v_at, .int v_behind, .int v_kind, .int v_wrong, .int v_wrongAt, .int v_errorAt, .long v_number, .ref a_best, .ref a_rentBy, .ref a_bareBy, .ref a_aheadBy, .ref a_isEdge, .ref a_tried, .ref a_stands, .ref a_found, .ref a_foundOn, .ref a_moving, .int v_movingMany, .int v_foundIncome, .int v_foundMoves])), (a_buffer, .inl (cI, 600, .inl v_buffer))] H locs → lv_has ls 1 [(0, .ref a_this)] → W p l e rmX6_next s m args below meth c H locs 0 0 (MQ below (zQv D (zT cI cZ cM) [(a_this, .inr (6, [.ref a_a, .ref a_fresh, .ref a_kept, .int v_keptMany, .int v_thrown, .ref a_buffer, .int v_buffered, .int v_size, .int res.1, .int res.2.1, .int res.2.2.1, .int v_wrong, .int v_wrongAt, .int v_errorAt, .long res.2.2.2, .ref a_best, .ref a_rentBy, .ref a_bareBy, .ref a_aheadBy, .ref a_isEdge, .ref a_tried, .ref a_stands, .ref a_found, .ref a_foundOn, .ref a_moving, .int v_movingMany, .int v_foundIncome, .int v_foundMoves])), (a_buffer, .inl (cI, 600, .inl v_buffer))] A) args s 0 0 A) (F0 m 184 ls []) := by
  obtain ⟨⟨hx, hb, hml, hown, hts⟩, hr, hlocks⟩ := id E
  intro v_buffer v_size v_at v_behind v_kind v_number hf H locs ls hw hl
  unfold f_X6_next_184 at hf
  refine lv_aload_n hx hb dX6_next_184 rfl (lv_at hl 0 rfl) ?_
  refine lv_dup hx hb dX6_next_185 rfl ?_
  refine z_get E.1 hw in_wsX60 0 rfl rfl 9 (z_lt rfl) mw_735 (v := .int v_behind) rfl dX6_next_186 ?_
  refine lv_iconst (v := 1) hx hb dX6_next_189 (by decide) ?_
  refine lv_iadd hx hb dX6_next_190 ?_
  obtain ⟨y_1, e_y_1, hf⟩ := oL_elim hf
  refine z_top e_y_1 ?_
  refine z_put (ws' := [(a_this, .inr (6, [.ref a_a, .ref a_fresh, .ref a_kept, .int v_keptMany, .int v_thrown, .ref a_buffer, .int v_buffered, .int v_size, .int v_at, .int y_1, .int v_kind, .int v_wrong, .int v_wrongAt, .int v_errorAt, .long v_number, .ref a_best, .ref a_rentBy, .ref a_bareBy, .ref a_aheadBy, .ref a_isEdge, .ref a_tried, .ref a_stands, .ref a_found, .ref a_foundOn, .ref a_moving, .int v_movingMany, .int v_foundIncome, .int v_foundMoves])), (a_buffer, .inl (cI, 600, .inl v_buffer))]) E.1 hw in_wsX60 tyX6 tyX6_ok nmX6 0 rfl rfl 9 (z_lt rfl) mw_735 rfl rfl rfl (z_lt rfl) rfl dX6_next_191 (fun H locs hw => ?_)
  refine lv_goto (tgt := 133) hx hb dX6_next_194 (by decide) ?_
  exact hk133 _ _ _ _ _ _ hf _ _ _ hw (lv_sub hl [0] rfl)
set_option maxHeartbeats 4000000 in
set_option maxRecDepth 100000 in
theorem w_X6_next_133 {n : Nat} (E : zE p s m args meth c cX6_next 1 none zwX6_next RX6) (hT : zTn s) (hLt : zLt adK s) (hG : zSg adK adV A s s.heap) : ∀ (fu : Nat), ∀ (v_buffer : Nat → Int32) (v_size : Int32) (v_at : Int32) (v_behind : Int32) (v_kind : Int32) (v_number : Int64), f_X6_next_133 n fu v_buffer v_size v_at v_behind v_kind v_number = some res → ∀ (H : Heap) (locs : List Loc) (ls : Array Slot), zW D (zT cI cZ cM) A s [(a_this, .inr (6, [.ref a_a, .ref a_fresh, .ref a_kept, .int v_keptMany, .int v_thrown, .ref a_buffer, .int v_buffered, .int v_size, .int v_at, .int v_behind, .int v_kind, .int v_wrong, .int v_wrongAt, .int v_errorAt, .long v_number, .ref a_best, .ref a_rentBy, .ref a_bareBy, .ref a_aheadBy, .ref a_isEdge, .ref a_tried, .ref a_stands, .ref a_found, .ref a_foundOn, .ref a_moving, .int v_movingMany, .int v_foundIncome, .int v_foundMoves])), (a_buffer, .inl (cI, 600, .inl v_buffer))] H locs → lv_has ls 1 [(0, .ref a_this)] → W p l e rmX6_next s m args below meth c H locs 0 0 (MQ below (zQv D (zT cI cZ cM) [(a_this, .inr (6, [.ref a_a, .ref a_fresh, .ref a_kept, .int v_keptMany, .int v_thrown, .ref a_buffer, .int v_buffered, .int v_size, .int res.1, .int res.2.1, .int res.2.2.1, .int v_wrong, .int v_wrongAt, .int v_errorAt, .long res.2.2.2, .ref a_best, .ref a_rentBy, .ref a_bareBy, .ref a_aheadBy, .ref a_isEdge, .ref a_tried, .ref a_stands, .ref a_found, .ref a_foundOn, .ref a_moving, .int v_movingMany, .int v_foundIncome, .int v_foundMoves])), (a_buffer, .inl (cI, 600, .inl v_buffer))] A) args s 0 0 A) (F0 m 133 ls []) := by
  obtain ⟨⟨hx, hb, hml, hown, hts⟩, hr, hlocks⟩ := id E
  intro fu
  induction fu with
  | zero => intro v_buffer v_size v_at v_behind v_kind v_number hf; rw [f_X6_next_133.eq_1] at hf; cases hf
  | succ fu ih =>
    intro v_buffer v_size v_at v_behind v_kind v_number hf H locs ls hw hl
    rw [f_X6_next_133.eq_2] at hf
    refine lv_aload_n hx hb dX6_next_133 rfl (lv_at hl 0 rfl) ?_
    refine lv_aload_n hx hb dX6_next_134 rfl (lv_at hl 0 rfl) ?_
    refine z_get E.1 hw in_wsX60 0 rfl rfl 9 (z_lt rfl) mw_735 (v := .int v_behind) rfl dX6_next_135 ?_
    obtain ⟨r_2, h_3, hf⟩ := oB_elim hf
    refine z_callVi (ws' := [(a_this, .inr (6, [.ref a_a, .ref a_fresh, .ref a_kept, .int v_keptMany, .int v_thrown, .ref a_buffer, .int v_buffered, .int v_size, .int v_at, .int v_behind, .int v_kind, .int v_wrong, .int v_wrongAt, .int v_errorAt, .long v_number, .ref a_best, .ref a_rentBy, .ref a_bareBy, .ref a_aheadBy, .ref a_isEdge, .ref a_tried, .ref a_stands, .ref a_found, .ref a_foundOn, .ref a_moving, .int v_movingMany, .int v_foundIncome, .int v_foundMoves])), (a_buffer, .inl (cI, 600, .inl v_buffer))]) (wr := []) (As := [.int v_behind]) (rest := []) E.1 hl hw (c_X6_see h_3) (cwV 1 hts (z_gV mw_742 mw_743 mw_744 mw_597 mw_745) rfl rfl rfl (by decide +kernel) ⟨(Nat.le_of_ble_eq_true rfl), (Nat.le_of_ble_eq_true rfl)⟩) 2 [(0, 2)] [] rfl rfl rfl rfl rfl rfl (by decide +kernel) rfl (q0 := 0) rfl rfl rfl (Nat.le_of_ble_eq_true rfl) dX6_next_138 ⟨Nat.le_of_ble_eq_true rfl, Nat.le_of_ble_eq_true rfl⟩ (fun H locs hw => ?_)
    obtain ⟨r_4, h_5, hf⟩ := oB_elim hf
    refine z_callSi (ws' := [(a_this, .inr (6, [.ref a_a, .ref a_fresh, .ref a_kept, .int v_keptMany, .int v_thrown, .ref a_buffer, .int v_buffered, .int v_size, .int v_at, .int v_behind, .int v_kind, .int v_wrong, .int v_wrongAt, .int v_errorAt, .long v_number, .ref a_best, .ref a_rentBy, .ref a_bareBy, .ref a_aheadBy, .ref a_isEdge, .ref a_tried, .ref a_stands, .ref a_found, .ref a_foundOn, .ref a_moving, .int v_movingMany, .int v_foundIncome, .int v_foundMoves])), (a_buffer, .inl (cI, 600, .inl v_buffer))]) (wr := [(a_this, .inr (6, [.ref a_a, .ref a_fresh, .ref a_kept, .int v_keptMany, .int v_thrown, .ref a_buffer, .int v_buffered, .int v_size, .int v_at, .int v_behind, .int v_kind, .int v_wrong, .int v_wrongAt, .int v_errorAt, .long v_number, .ref a_best, .ref a_rentBy, .ref a_bareBy, .ref a_aheadBy, .ref a_isEdge, .ref a_tried, .ref a_stands, .ref a_found, .ref a_foundOn, .ref a_moving, .int v_movingMany, .int v_foundIncome, .int v_foundMoves])), (a_buffer, .inl (cI, 600, .inl v_buffer))]) (As := [.int r_2]) (rest := []) E.1 hl hw (c_X6_isDigit h_5) (va_cwS 1 hts (z_gS mw_757 mw_758 mw_597 mw_759) rfl rfl rfl (by decide +kernel) ⟨(Nat.le_of_ble_eq_true rfl), (Nat.le_of_ble_eq_true rfl)⟩) 2 [] [(0, 2)] rfl rfl rfl rfl rfl rfl (by decide +kernel) rfl rfl (Nat.le_of_ble_eq_true rfl) dX6_next_141 ⟨Nat.le_of_ble_eq_true rfl, Nat.le_of_ble_eq_true rfl⟩ (fun H locs hw => ?_)
    refine lv_if_eq (tgt := 197) hx hb dX6_next_144 (by decide) (fun hc => ?_) (fun hc => ?_)
    · have hf := oI_pos hc hf
      refine lv_aload_n hx hb dX6_next_197 rfl (lv_at hl 0 rfl) ?_
      refine lv_bipush (v := 9) hx hb dX6_next_198 (by decide) ?_
      refine z_put (ws' := [(a_this, .inr (6, [.ref a_a, .ref a_fresh, .ref a_kept, .int v_keptMany, .int v_thrown, .ref a_buffer, .int v_buffered, .int v_size, .int v_at, .int v_behind, .int (9 : Int32), .int v_wrong, .int v_wrongAt, .int v_errorAt, .long v_number, .ref a_best, .ref a_rentBy, .ref a_bareBy, .ref a_aheadBy, .ref a_isEdge, .ref a_tried, .ref a_stands, .ref a_found, .ref a_foundOn, .ref a_moving, .int v_movingMany, .int v_foundIncome, .int v_foundMoves])), (a_buffer, .inl (cI, 600, .inl v_buffer))]) E.1 hw in_wsX60 tyX6 tyX6_ok nmX6 0 rfl rfl 10 (z_lt rfl) mw_730 rfl rfl rfl (z_lt rfl) rfl dX6_next_200 (fun H locs hw => ?_)
      refine lv_goto (tgt := 240) hx hb dX6_next_203 (by decide) ?_
      cases hf
      exact z_vret E rfl hw dX6_next_240
    · have hf := oI_neg hc hf
      refine lv_aload_n hx hb dX6_next_147 rfl (lv_at hl 0 rfl) ?_
      refine z_get E.1 hw in_wsX60 0 rfl rfl 14 (z_lt rfl) mw_738 (v := .long v_number) rfl dX6_next_148 ?_
      refine lv_ldc2 (v := 100000) hx hb hown (hts _ mw_739) dX6_next_151 ?_
      refine W.lcmp hx hb dX6_next_154 ?_
      refine lv_if_ge (tgt := 184) hx hb dX6_next_155 (by decide) (fun hc => ?_) (fun hc => ?_)
      · have hf := oI_pos hc hf
        exact w_X6_next_184 E hT hLt hG ih _ _ _ _ _ _ hf _ _ _ hw (lv_sub hl [0] rfl)
      · have hf := oI_neg hc hf
        refine lv_aload_n hx hb dX6_next_158 rfl (lv_at hl 0 rfl) ?_
        refine lv_ldc2 (v := 10) hx hb hown (hts _ mw_740) dX6_next_159 ?_
        refine lv_aload_n hx hb dX6_next_162 rfl (lv_at hl 0 rfl) ?_
        refine z_get E.1 hw in_wsX60 0 rfl rfl 14 (z_lt rfl) mw_738 (v := .long v_number) rfl dX6_next_163 ?_
        refine lv_lmul hx hb dX6_next_166 ?_
        refine lv_aload_n hx hb dX6_next_167 rfl (lv_at hl 0 rfl) ?_
        refine lv_aload_n hx hb dX6_next_168 rfl (lv_at hl 0 rfl) ?_
        refine z_get E.1 hw in_wsX60 0 rfl rfl 9 (z_lt rfl) mw_735 (v := .int v_behind) rfl dX6_next_169 ?_
        obtain ⟨r_6, h_7, hf⟩ := oB_elim hf
        refine z_callVi (ws' := [(a_this, .inr (6, [.ref a_a, .ref a_fresh, .ref a_kept, .int v_keptMany, .int v_thrown, .ref a_buffer, .int v_buffered, .int v_size, .int v_at, .int v_behind, .int v_kind, .int v_wrong, .int v_wrongAt, .int v_errorAt, .long v_number, .ref a_best, .ref a_rentBy, .ref a_bareBy, .ref a_aheadBy, .ref a_isEdge, .ref a_tried, .ref a_stands, .ref a_found, .ref a_foundOn, .ref a_moving, .int v_movingMany, .int v_foundIncome, .int v_foundMoves])), (a_buffer, .inl (cI, 600, .inl v_buffer))]) (wr := []) (As := [.int v_behind]) (rest := [.long ((10 : Int64) * v_number), .ref a_this]) E.1 hl hw (c_X6_see h_7) (cwV 1 hts (z_gV mw_742 mw_743 mw_744 mw_597 mw_745) rfl rfl rfl (by decide +kernel) ⟨(Nat.le_of_ble_eq_true rfl), (Nat.le_of_ble_eq_true rfl)⟩) 2 [(0, 2)] [] rfl rfl rfl rfl rfl rfl (by decide +kernel) rfl (q0 := 0) rfl rfl rfl (Nat.le_of_ble_eq_true rfl) dX6_next_172 ⟨Nat.le_of_ble_eq_true rfl, Nat.le_of_ble_eq_true rfl⟩ (fun H locs hw => ?_)
        refine lv_i2l hx hb dX6_next_175 rfl ?_
        refine lv_ladd hx hb dX6_next_176 ?_
        refine lv_ldc2 (v := 48) hx hb hown (hts _ mw_741) dX6_next_177 ?_
        refine lv_lsub hx hb dX6_next_180 ?_
        obtain ⟨y_8, e_y_8, hf⟩ := oL_elim hf
        refine z_topl e_y_8 ?_
        refine z_put (ws' := [(a_this, .inr (6, [.ref a_a, .ref a_fresh, .ref a_kept, .int v_keptMany, .int v_thrown, .ref a_buffer, .int v_buffered, .int v_size, .int v_at, .int v_behind, .int v_kind, .int v_wrong, .int v_wrongAt, .int v_errorAt, .long y_8, .ref a_best, .ref a_rentBy, .ref a_bareBy, .ref a_aheadBy, .ref a_isEdge, .ref a_tried, .ref a_stands, .ref a_found, .ref a_foundOn, .ref a_moving, .int v_movingMany, .int v_foundIncome, .int v_foundMoves])), (a_buffer, .inl (cI, 600, .inl v_buffer))]) E.1 hw in_wsX60 tyX6 tyX6_ok nmX6 0 rfl rfl 14 (z_lt rfl) mw_738 rfl rfl rfl (z_lt rfl) rfl dX6_next_181 (fun H locs hw => ?_)
        exact w_X6_next_184 E hT hLt hG ih _ _ _ _ _ _ hf _ _ _ hw (lv_sub hl [0] rfl)
set_option maxHeartbeats 4000000 in
set_option maxRecDepth 100000 in
theorem w_X6_next_76 {n : Nat} (E : zE p s m args meth c cX6_next 1 none zwX6_next RX6) (hT : zTn s) (hLt : zLt adK s) (hG : zSg adK adV A s s.heap) : ∀ (fu : Nat), ∀ (v_buffer : Nat → Int32) (v_size : Int32) (v_at : Int32) (v_behind : Int32) (v_kind : Int32) (v_number : Int64), f_X6_next_76 n fu v_buffer v_size v_at v_behind v_kind v_number = some res → ∀ (H : Heap) (locs : List Loc) (ls : Array Slot), zW D (zT cI cZ cM) A s [(a_this, .inr (6, [.ref a_a, .ref a_fresh, .ref a_kept, .int v_keptMany, .int v_thrown, .ref a_buffer, .int v_buffered, .int v_size, .int v_at, .int v_behind, .int v_kind, .int v_wrong, .int v_wrongAt, .int v_errorAt, .long v_number, .ref a_best, .ref a_rentBy, .ref a_bareBy, .ref a_aheadBy, .ref a_isEdge, .ref a_tried, .ref a_stands, .ref a_found, .ref a_foundOn, .ref a_moving, .int v_movingMany, .int v_foundIncome, .int v_foundMoves])), (a_buffer, .inl (cI, 600, .inl v_buffer))] H locs → lv_has ls 1 [(0, .ref a_this)] → W p l e rmX6_next s m args below meth c H locs 0 0 (MQ below (zQv D (zT cI cZ cM) [(a_this, .inr (6, [.ref a_a, .ref a_fresh, .ref a_kept, .int v_keptMany, .int v_thrown, .ref a_buffer, .int v_buffered, .int v_size, .int res.1, .int res.2.1, .int res.2.2.1, .int v_wrong, .int v_wrongAt, .int v_errorAt, .long res.2.2.2, .ref a_best, .ref a_rentBy, .ref a_bareBy, .ref a_aheadBy, .ref a_isEdge, .ref a_tried, .ref a_stands, .ref a_found, .ref a_foundOn, .ref a_moving, .int v_movingMany, .int v_foundIncome, .int v_foundMoves])), (a_buffer, .inl (cI, 600, .inl v_buffer))] A) args s 0 0 A) (F0 m 76 ls []) := by
  obtain ⟨⟨hx, hb, hml, hown, hts⟩, hr, hlocks⟩ := id E
  intro fu
  induction fu with
  | zero => intro v_buffer v_size v_at v_behind v_kind v_number hf; rw [f_X6_next_76.eq_1] at hf; cases hf
  | succ fu ih =>
    intro v_buffer v_size v_at v_behind v_kind v_number hf H locs ls hw hl
    rw [f_X6_next_76.eq_2] at hf
    refine lv_aload_n hx hb dX6_next_76 rfl (lv_at hl 0 rfl) ?_
    refine lv_aload_n hx hb dX6_next_77 rfl (lv_at hl 0 rfl) ?_
    refine z_get E.1 hw in_wsX60 0 rfl rfl 9 (z_lt rfl) mw_735 (v := .int v_behind) rfl dX6_next_78 ?_
    obtain ⟨r_9, h_10, hf⟩ := oB_elim hf
    refine z_callVi (ws' := [(a_this, .inr (6, [.ref a_a, .ref a_fresh, .ref a_kept, .int v_keptMany, .int v_thrown, .ref a_buffer, .int v_buffered, .int v_size, .int v_at, .int v_behind, .int v_kind, .int v_wrong, .int v_wrongAt, .int v_errorAt, .long v_number, .ref a_best, .ref a_rentBy, .ref a_bareBy, .ref a_aheadBy, .ref a_isEdge, .ref a_tried, .ref a_stands, .ref a_found, .ref a_foundOn, .ref a_moving, .int v_movingMany, .int v_foundIncome, .int v_foundMoves])), (a_buffer, .inl (cI, 600, .inl v_buffer))]) (wr := []) (As := [.int v_behind]) (rest := []) E.1 hl hw (c_X6_see h_10) (cwV 1 hts (z_gV mw_742 mw_743 mw_744 mw_597 mw_745) rfl rfl rfl (by decide +kernel) ⟨(Nat.le_of_ble_eq_true rfl), (Nat.le_of_ble_eq_true rfl)⟩) 2 [(0, 2)] [] rfl rfl rfl rfl rfl rfl (by decide +kernel) rfl (q0 := 0) rfl rfl rfl (Nat.le_of_ble_eq_true rfl) dX6_next_81 ⟨Nat.le_of_ble_eq_true rfl, Nat.le_of_ble_eq_true rfl⟩ (fun H locs hw => ?_)
    obtain ⟨r_11, h_12, hf⟩ := oB_elim hf
    refine z_callSi (ws' := [(a_this, .inr (6, [.ref a_a, .ref a_fresh, .ref a_kept, .int v_keptMany, .int v_thrown, .ref a_buffer, .int v_buffered, .int v_size, .int v_at, .int v_behind, .int v_kind, .int v_wrong, .int v_wrongAt, .int v_errorAt, .long v_number, .ref a_best, .ref a_rentBy, .ref a_bareBy, .ref a_aheadBy, .ref a_isEdge, .ref a_tried, .ref a_stands, .ref a_found, .ref a_foundOn, .ref a_moving, .int v_movingMany, .int v_foundIncome, .int v_foundMoves])), (a_buffer, .inl (cI, 600, .inl v_buffer))]) (wr := [(a_this, .inr (6, [.ref a_a, .ref a_fresh, .ref a_kept, .int v_keptMany, .int v_thrown, .ref a_buffer, .int v_buffered, .int v_size, .int v_at, .int v_behind, .int v_kind, .int v_wrong, .int v_wrongAt, .int v_errorAt, .long v_number, .ref a_best, .ref a_rentBy, .ref a_bareBy, .ref a_aheadBy, .ref a_isEdge, .ref a_tried, .ref a_stands, .ref a_found, .ref a_foundOn, .ref a_moving, .int v_movingMany, .int v_foundIncome, .int v_foundMoves])), (a_buffer, .inl (cI, 600, .inl v_buffer))]) (As := [.int r_9]) (rest := []) E.1 hl hw (c_X6_isSmall h_12) (va_cwS 1 hts (z_gS mw_746 mw_747 mw_597 mw_748) rfl rfl rfl (by decide +kernel) ⟨(Nat.le_of_ble_eq_true rfl), (Nat.le_of_ble_eq_true rfl)⟩) 2 [] [(0, 2)] rfl rfl rfl rfl rfl rfl (by decide +kernel) rfl rfl (Nat.le_of_ble_eq_true rfl) dX6_next_84 ⟨Nat.le_of_ble_eq_true rfl, Nat.le_of_ble_eq_true rfl⟩ (fun H locs hw => ?_)
    refine lv_if_eq (tgt := 103) hx hb dX6_next_87 (by decide) (fun hc => ?_) (fun hc => ?_)
    · have hf := oI_pos hc hf
      refine lv_aload_n hx hb dX6_next_103 rfl (lv_at hl 0 rfl) ?_
      refine lv_aload_n hx hb dX6_next_104 rfl (lv_at hl 0 rfl) ?_
      obtain ⟨r_13, h_14, hf⟩ := oB_elim hf
      refine z_callGVi (ws' := [(a_this, .inr (6, [.ref a_a, .ref a_fresh, .ref a_kept, .int v_keptMany, .int v_thrown, .ref a_buffer, .int v_buffered, .int v_size, .int v_at, .int v_behind, .int v_kind, .int v_wrong, .int v_wrongAt, .int v_errorAt, .long v_number, .ref a_best, .ref a_rentBy, .ref a_bareBy, .ref a_aheadBy, .ref a_isEdge, .ref a_tried, .ref a_stands, .ref a_found, .ref a_foundOn, .ref a_moving, .int v_movingMany, .int v_foundIncome, .int v_foundMoves])), (a_buffer, .inl (cI, 600, .inl v_buffer))]) (wr := []) (As := []) (rest := [.ref a_this]) E.1 hl hT hLt hG hw (c_X6_keyAt h_14) (cwV 0 hts (z_gV mw_751 mw_752 mw_753 mw_597 mw_754) rfl rfl rfl (by decide +kernel) ⟨(Nat.le_of_ble_eq_true rfl), (Nat.le_of_ble_eq_true rfl)⟩) 2 [(0, 2)] [] rfl rfl rfl rfl rfl rfl (by decide +kernel) rfl (q0 := 0) rfl rfl rfl (Nat.le_of_ble_eq_true rfl) dX6_next_105 ⟨Nat.le_of_ble_eq_true rfl, Nat.le_of_ble_eq_true rfl⟩ (fun H locs hw => ?_)
      refine z_put (ws' := [(a_this, .inr (6, [.ref a_a, .ref a_fresh, .ref a_kept, .int v_keptMany, .int v_thrown, .ref a_buffer, .int v_buffered, .int v_size, .int v_at, .int v_behind, .int r_13, .int v_wrong, .int v_wrongAt, .int v_errorAt, .long v_number, .ref a_best, .ref a_rentBy, .ref a_bareBy, .ref a_aheadBy, .ref a_isEdge, .ref a_tried, .ref a_stands, .ref a_found, .ref a_foundOn, .ref a_moving, .int v_movingMany, .int v_foundIncome, .int v_foundMoves])), (a_buffer, .inl (cI, 600, .inl v_buffer))]) E.1 hw in_wsX60 tyX6 tyX6_ok nmX6 0 rfl rfl 10 (z_lt rfl) mw_730 rfl rfl rfl (z_lt rfl) rfl dX6_next_108 (fun H locs hw => ?_)
      refine lv_goto (tgt := 240) hx hb dX6_next_111 (by decide) ?_
      cases hf
      exact z_vret E rfl hw dX6_next_240
    · have hf := oI_neg hc hf
      refine lv_aload_n hx hb dX6_next_90 rfl (lv_at hl 0 rfl) ?_
      refine lv_dup hx hb dX6_next_91 rfl ?_
      refine z_get E.1 hw in_wsX60 0 rfl rfl 9 (z_lt rfl) mw_735 (v := .int v_behind) rfl dX6_next_92 ?_
      refine lv_iconst (v := 1) hx hb dX6_next_95 (by decide) ?_
      refine lv_iadd hx hb dX6_next_96 ?_
      obtain ⟨y_15, e_y_15, hf⟩ := oL_elim hf
      refine z_top e_y_15 ?_
      refine z_put (ws' := [(a_this, .inr (6, [.ref a_a, .ref a_fresh, .ref a_kept, .int v_keptMany, .int v_thrown, .ref a_buffer, .int v_buffered, .int v_size, .int v_at, .int y_15, .int v_kind, .int v_wrong, .int v_wrongAt, .int v_errorAt, .long v_number, .ref a_best, .ref a_rentBy, .ref a_bareBy, .ref a_aheadBy, .ref a_isEdge, .ref a_tried, .ref a_stands, .ref a_found, .ref a_foundOn, .ref a_moving, .int v_movingMany, .int v_foundIncome, .int v_foundMoves])), (a_buffer, .inl (cI, 600, .inl v_buffer))]) E.1 hw in_wsX60 tyX6 tyX6_ok nmX6 0 rfl rfl 9 (z_lt rfl) mw_735 rfl rfl rfl (z_lt rfl) rfl dX6_next_97 (fun H locs hw => ?_)
      refine lv_goto (tgt := 76) hx hb dX6_next_100 (by decide) ?_
      exact ih _ _ _ _ _ _ hf _ _ _ hw (lv_sub hl [0] rfl)
set_option maxHeartbeats 4000000 in
set_option maxRecDepth 100000 in
theorem w_X6_next_8 {n : Nat} (E : zE p s m args meth c cX6_next 1 none zwX6_next RX6) (hT : zTn s) (hLt : zLt adK s) (hG : zSg adK adV A s s.heap) : ∀ (fu : Nat), ∀ (v_buffer : Nat → Int32) (v_size : Int32) (v_at : Int32) (v_behind : Int32) (v_kind : Int32) (v_number : Int64), f_X6_next_8 n fu v_buffer v_size v_at v_behind v_kind v_number = some res → ∀ (H : Heap) (locs : List Loc) (ls : Array Slot), zW D (zT cI cZ cM) A s [(a_this, .inr (6, [.ref a_a, .ref a_fresh, .ref a_kept, .int v_keptMany, .int v_thrown, .ref a_buffer, .int v_buffered, .int v_size, .int v_at, .int v_behind, .int v_kind, .int v_wrong, .int v_wrongAt, .int v_errorAt, .long v_number, .ref a_best, .ref a_rentBy, .ref a_bareBy, .ref a_aheadBy, .ref a_isEdge, .ref a_tried, .ref a_stands, .ref a_found, .ref a_foundOn, .ref a_moving, .int v_movingMany, .int v_foundIncome, .int v_foundMoves])), (a_buffer, .inl (cI, 600, .inl v_buffer))] H locs → lv_has ls 1 [(0, .ref a_this)] → W p l e rmX6_next s m args below meth c H locs 0 0 (MQ below (zQv D (zT cI cZ cM) [(a_this, .inr (6, [.ref a_a, .ref a_fresh, .ref a_kept, .int v_keptMany, .int v_thrown, .ref a_buffer, .int v_buffered, .int v_size, .int res.1, .int res.2.1, .int res.2.2.1, .int v_wrong, .int v_wrongAt, .int v_errorAt, .long res.2.2.2, .ref a_best, .ref a_rentBy, .ref a_bareBy, .ref a_aheadBy, .ref a_isEdge, .ref a_tried, .ref a_stands, .ref a_found, .ref a_foundOn, .ref a_moving, .int v_movingMany, .int v_foundIncome, .int v_foundMoves])), (a_buffer, .inl (cI, 600, .inl v_buffer))] A) args s 0 0 A) (F0 m 8 ls []) := by
  obtain ⟨⟨hx, hb, hml, hown, hts⟩, hr, hlocks⟩ := id E
  intro fu
  induction fu with
  | zero => intro v_buffer v_size v_at v_behind v_kind v_number hf; rw [f_X6_next_8.eq_1] at hf; cases hf
  | succ fu ih =>
    intro v_buffer v_size v_at v_behind v_kind v_number hf H locs ls hw hl
    rw [f_X6_next_8.eq_2] at hf
    refine lv_aload_n hx hb dX6_next_8 rfl (lv_at hl 0 rfl) ?_
    refine lv_aload_n hx hb dX6_next_9 rfl (lv_at hl 0 rfl) ?_
    refine z_get E.1 hw in_wsX60 0 rfl rfl 8 (z_lt rfl) mw_736 (v := .int v_at) rfl dX6_next_10 ?_
    obtain ⟨r_16, h_17, hf⟩ := oB_elim hf
    refine z_callVi (ws' := [(a_this, .inr (6, [.ref a_a, .ref a_fresh, .ref a_kept, .int v_keptMany, .int v_thrown, .ref a_buffer, .int v_buffered, .int v_size, .int v_at, .int v_behind, .int v_kind, .int v_wrong, .int v_wrongAt, .int v_errorAt, .long v_number, .ref a_best, .ref a_rentBy, .ref a_bareBy, .ref a_aheadBy, .ref a_isEdge, .ref a_tried, .ref a_stands, .ref a_found, .ref a_foundOn, .ref a_moving, .int v_movingMany, .int v_foundIncome, .int v_foundMoves])), (a_buffer, .inl (cI, 600, .inl v_buffer))]) (wr := []) (As := [.int v_at]) (rest := []) E.1 hl hw (c_X6_see h_17) (cwV 1 hts (z_gV mw_742 mw_743 mw_744 mw_597 mw_745) rfl rfl rfl (by decide +kernel) ⟨(Nat.le_of_ble_eq_true rfl), (Nat.le_of_ble_eq_true rfl)⟩) 2 [(0, 2)] [] rfl rfl rfl rfl rfl rfl (by decide +kernel) rfl (q0 := 0) rfl rfl rfl (Nat.le_of_ble_eq_true rfl) dX6_next_13 ⟨Nat.le_of_ble_eq_true rfl, Nat.le_of_ble_eq_true rfl⟩ (fun H locs hw => ?_)
    refine lv_bipush (v := 32) hx hb dX6_next_16 (by decide) ?_
    refine lv_icmp_ne (tgt := 34) hx hb dX6_next_18 (by decide) (fun hc => ?_) (fun hc => ?_)
    · have hf := oI_neg hc hf
      refine lv_aload_n hx hb dX6_next_34 rfl (lv_at hl 0 rfl) ?_
      refine lv_aload_n hx hb dX6_next_35 rfl (lv_at hl 0 rfl) ?_
      refine z_get E.1 hw in_wsX60 0 rfl rfl 8 (z_lt rfl) mw_736 (v := .int v_at) rfl dX6_next_36 ?_
      refine z_put (ws' := [(a_this, .inr (6, [.ref a_a, .ref a_fresh, .ref a_kept, .int v_keptMany, .int v_thrown, .ref a_buffer, .int v_buffered, .int v_size, .int v_at, .int v_at, .int v_kind, .int v_wrong, .int v_wrongAt, .int v_errorAt, .long v_number, .ref a_best, .ref a_rentBy, .ref a_bareBy, .ref a_aheadBy, .ref a_isEdge, .ref a_tried, .ref a_stands, .ref a_found, .ref a_foundOn, .ref a_moving, .int v_movingMany, .int v_foundIncome, .int v_foundMoves])), (a_buffer, .inl (cI, 600, .inl v_buffer))]) E.1 hw in_wsX60 tyX6 tyX6_ok nmX6 0 rfl rfl 9 (z_lt rfl) mw_735 rfl rfl rfl (z_lt rfl) rfl dX6_next_39 (fun H locs hw => ?_)
      refine lv_aload_n hx hb dX6_next_42 rfl (lv_at hl 0 rfl) ?_
      refine z_get E.1 hw in_wsX60 0 rfl rfl 8 (z_lt rfl) mw_736 (v := .int v_at) rfl dX6_next_43 ?_
      refine lv_aload_n hx hb dX6_next_46 rfl (lv_at hl 0 rfl) ?_
      refine z_get E.1 hw in_wsX60 0 rfl rfl 7 (z_lt rfl) mw_737 (v := .int v_size) rfl dX6_next_47 ?_
      refine lv_icmp_lt (tgt := 62) hx hb dX6_next_50 (by decide) (fun hc => ?_) (fun hc => ?_)
      · have hf := oI_pos hc hf
        refine lv_aload_n hx hb dX6_next_62 rfl (lv_at hl 0 rfl) ?_
        refine lv_aload_n hx hb dX6_next_63 rfl (lv_at hl 0 rfl) ?_
        refine z_get E.1 hw in_wsX60 0 rfl rfl 8 (z_lt rfl) mw_736 (v := .int v_at) rfl dX6_next_64 ?_
        obtain ⟨r_18, h_19, hf⟩ := oB_elim hf
        refine z_callVi (ws' := [(a_this, .inr (6, [.ref a_a, .ref a_fresh, .ref a_kept, .int v_keptMany, .int v_thrown, .ref a_buffer, .int v_buffered, .int v_size, .int v_at, .int v_at, .int v_kind, .int v_wrong, .int v_wrongAt, .int v_errorAt, .long v_number, .ref a_best, .ref a_rentBy, .ref a_bareBy, .ref a_aheadBy, .ref a_isEdge, .ref a_tried, .ref a_stands, .ref a_found, .ref a_foundOn, .ref a_moving, .int v_movingMany, .int v_foundIncome, .int v_foundMoves])), (a_buffer, .inl (cI, 600, .inl v_buffer))]) (wr := []) (As := [.int v_at]) (rest := []) E.1 hl hw (c_X6_see h_19) (cwV 1 hts (z_gV mw_742 mw_743 mw_744 mw_597 mw_745) rfl rfl rfl (by decide +kernel) ⟨(Nat.le_of_ble_eq_true rfl), (Nat.le_of_ble_eq_true rfl)⟩) 2 [(0, 2)] [] rfl rfl rfl rfl rfl rfl (by decide +kernel) rfl (q0 := 0) rfl rfl rfl (Nat.le_of_ble_eq_true rfl) dX6_next_67 ⟨Nat.le_of_ble_eq_true rfl, Nat.le_of_ble_eq_true rfl⟩ (fun H locs hw => ?_)
        obtain ⟨r_20, h_21, hf⟩ := oB_elim hf
        refine z_callSi (ws' := [(a_this, .inr (6, [.ref a_a, .ref a_fresh, .ref a_kept, .int v_keptMany, .int v_thrown, .ref a_buffer, .int v_buffered, .int v_size, .int v_at, .int v_at, .int v_kind, .int v_wrong, .int v_wrongAt, .int v_errorAt, .long v_number, .ref a_best, .ref a_rentBy, .ref a_bareBy, .ref a_aheadBy, .ref a_isEdge, .ref a_tried, .ref a_stands, .ref a_found, .ref a_foundOn, .ref a_moving, .int v_movingMany, .int v_foundIncome, .int v_foundMoves])), (a_buffer, .inl (cI, 600, .inl v_buffer))]) (wr := [(a_this, .inr (6, [.ref a_a, .ref a_fresh, .ref a_kept, .int v_keptMany, .int v_thrown, .ref a_buffer, .int v_buffered, .int v_size, .int v_at, .int v_at, .int v_kind, .int v_wrong, .int v_wrongAt, .int v_errorAt, .long v_number, .ref a_best, .ref a_rentBy, .ref a_bareBy, .ref a_aheadBy, .ref a_isEdge, .ref a_tried, .ref a_stands, .ref a_found, .ref a_foundOn, .ref a_moving, .int v_movingMany, .int v_foundIncome, .int v_foundMoves])), (a_buffer, .inl (cI, 600, .inl v_buffer))]) (As := [.int r_18]) (rest := []) E.1 hl hw (c_X6_isSmall h_21) (va_cwS 1 hts (z_gS mw_746 mw_747 mw_597 mw_748) rfl rfl rfl (by decide +kernel) ⟨(Nat.le_of_ble_eq_true rfl), (Nat.le_of_ble_eq_true rfl)⟩) 2 [] [(0, 2)] rfl rfl rfl rfl rfl rfl (by decide +kernel) rfl rfl (Nat.le_of_ble_eq_true rfl) dX6_next_70 ⟨Nat.le_of_ble_eq_true rfl, Nat.le_of_ble_eq_true rfl⟩ (fun H locs hw => ?_)
        refine lv_if_eq (tgt := 114) hx hb dX6_next_73 (by decide) (fun hc => ?_) (fun hc => ?_)
        · have hf := oI_pos hc hf
          refine lv_aload_n hx hb dX6_next_114 rfl (lv_at hl 0 rfl) ?_
          refine lv_aload_n hx hb dX6_next_115 rfl (lv_at hl 0 rfl) ?_
          refine z_get E.1 hw in_wsX60 0 rfl rfl 8 (z_lt rfl) mw_736 (v := .int v_at) rfl dX6_next_116 ?_
          obtain ⟨r_22, h_23, hf⟩ := oB_elim hf
          refine z_callVi (ws' := [(a_this, .inr (6, [.ref a_a, .ref a_fresh, .ref a_kept, .int v_keptMany, .int v_thrown, .ref a_buffer, .int v_buffered, .int v_size, .int v_at, .int v_at, .int v_kind, .int v_wrong, .int v_wrongAt, .int v_errorAt, .long v_number, .ref a_best, .ref a_rentBy, .ref a_bareBy, .ref a_aheadBy, .ref a_isEdge, .ref a_tried, .ref a_stands, .ref a_found, .ref a_foundOn, .ref a_moving, .int v_movingMany, .int v_foundIncome, .int v_foundMoves])), (a_buffer, .inl (cI, 600, .inl v_buffer))]) (wr := []) (As := [.int v_at]) (rest := []) E.1 hl hw (c_X6_see h_23) (cwV 1 hts (z_gV mw_742 mw_743 mw_744 mw_597 mw_745) rfl rfl rfl (by decide +kernel) ⟨(Nat.le_of_ble_eq_true rfl), (Nat.le_of_ble_eq_true rfl)⟩) 2 [(0, 2)] [] rfl rfl rfl rfl rfl rfl (by decide +kernel) rfl (q0 := 0) rfl rfl rfl (Nat.le_of_ble_eq_true rfl) dX6_next_119 ⟨Nat.le_of_ble_eq_true rfl, Nat.le_of_ble_eq_true rfl⟩ (fun H locs hw => ?_)
          obtain ⟨r_24, h_25, hf⟩ := oB_elim hf
          refine z_callSi (ws' := [(a_this, .inr (6, [.ref a_a, .ref a_fresh, .ref a_kept, .int v_keptMany, .int v_thrown, .ref a_buffer, .int v_buffered, .int v_size, .int v_at, .int v_at, .int v_kind, .int v_wrong, .int v_wrongAt, .int v_errorAt, .long v_number, .ref a_best, .ref a_rentBy, .ref a_bareBy, .ref a_aheadBy, .ref a_isEdge, .ref a_tried, .ref a_stands, .ref a_found, .ref a_foundOn, .ref a_moving, .int v_movingMany, .int v_foundIncome, .int v_foundMoves])), (a_buffer, .inl (cI, 600, .inl v_buffer))]) (wr := [(a_this, .inr (6, [.ref a_a, .ref a_fresh, .ref a_kept, .int v_keptMany, .int v_thrown, .ref a_buffer, .int v_buffered, .int v_size, .int v_at, .int v_at, .int v_kind, .int v_wrong, .int v_wrongAt, .int v_errorAt, .long v_number, .ref a_best, .ref a_rentBy, .ref a_bareBy, .ref a_aheadBy, .ref a_isEdge, .ref a_tried, .ref a_stands, .ref a_found, .ref a_foundOn, .ref a_moving, .int v_movingMany, .int v_foundIncome, .int v_foundMoves])), (a_buffer, .inl (cI, 600, .inl v_buffer))]) (As := [.int r_22]) (rest := []) E.1 hl hw (c_X6_isDigit h_25) (va_cwS 1 hts (z_gS mw_757 mw_758 mw_597 mw_759) rfl rfl rfl (by decide +kernel) ⟨(Nat.le_of_ble_eq_true rfl), (Nat.le_of_ble_eq_true rfl)⟩) 2 [] [(0, 2)] rfl rfl rfl rfl rfl rfl (by decide +kernel) rfl rfl (Nat.le_of_ble_eq_true rfl) dX6_next_122 ⟨Nat.le_of_ble_eq_true rfl, Nat.le_of_ble_eq_true rfl⟩ (fun H locs hw => ?_)
          refine lv_if_eq (tgt := 206) hx hb dX6_next_125 (by decide) (fun hc => ?_) (fun hc => ?_)
          · have hf := oI_pos hc hf
            refine lv_aload_n hx hb dX6_next_206 rfl (lv_at hl 0 rfl) ?_
            refine lv_dup hx hb dX6_next_207 rfl ?_
            refine z_get E.1 hw in_wsX60 0 rfl rfl 9 (z_lt rfl) mw_735 (v := .int v_at) rfl dX6_next_208 ?_
            refine lv_iconst (v := 1) hx hb dX6_next_211 (by decide) ?_
            refine lv_iadd hx hb dX6_next_212 ?_
            obtain ⟨y_26, e_y_26, hf⟩ := oL_elim hf
            refine z_top e_y_26 ?_
            refine z_put (ws' := [(a_this, .inr (6, [.ref a_a, .ref a_fresh, .ref a_kept, .int v_keptMany, .int v_thrown, .ref a_buffer, .int v_buffered, .int v_size, .int v_at, .int y_26, .int v_kind, .int v_wrong, .int v_wrongAt, .int v_errorAt, .long v_number, .ref a_best, .ref a_rentBy, .ref a_bareBy, .ref a_aheadBy, .ref a_isEdge, .ref a_tried, .ref a_stands, .ref a_found, .ref a_foundOn, .ref a_moving, .int v_movingMany, .int v_foundIncome, .int v_foundMoves])), (a_buffer, .inl (cI, 600, .inl v_buffer))]) E.1 hw in_wsX60 tyX6 tyX6_ok nmX6 0 rfl rfl 9 (z_lt rfl) mw_735 rfl rfl rfl (z_lt rfl) rfl dX6_next_213 (fun H locs hw => ?_)
            refine lv_aload_n hx hb dX6_next_216 rfl (lv_at hl 0 rfl) ?_
            refine lv_aload_n hx hb dX6_next_217 rfl (lv_at hl 0 rfl) ?_
            refine lv_aload_n hx hb dX6_next_218 rfl (lv_at hl 0 rfl) ?_
            refine z_get E.1 hw in_wsX60 0 rfl rfl 8 (z_lt rfl) mw_736 (v := .int v_at) rfl dX6_next_219 ?_
            obtain ⟨r_27, h_28, hf⟩ := oB_elim hf
            refine z_callVi (ws' := [(a_this, .inr (6, [.ref a_a, .ref a_fresh, .ref a_kept, .int v_keptMany, .int v_thrown, .ref a_buffer, .int v_buffered, .int v_size, .int v_at, .int y_26, .int v_kind, .int v_wrong, .int v_wrongAt, .int v_errorAt, .long v_number, .ref a_best, .ref a_rentBy, .ref a_bareBy, .ref a_aheadBy, .ref a_isEdge, .ref a_tried, .ref a_stands, .ref a_found, .ref a_foundOn, .ref a_moving, .int v_movingMany, .int v_foundIncome, .int v_foundMoves])), (a_buffer, .inl (cI, 600, .inl v_buffer))]) (wr := []) (As := [.int v_at]) (rest := [.ref a_this]) E.1 hl hw (c_X6_see h_28) (cwV 1 hts (z_gV mw_742 mw_743 mw_744 mw_597 mw_745) rfl rfl rfl (by decide +kernel) ⟨(Nat.le_of_ble_eq_true rfl), (Nat.le_of_ble_eq_true rfl)⟩) 2 [(0, 2)] [] rfl rfl rfl rfl rfl rfl (by decide +kernel) rfl (q0 := 0) rfl rfl rfl (Nat.le_of_ble_eq_true rfl) dX6_next_222 ⟨Nat.le_of_ble_eq_true rfl, Nat.le_of_ble_eq_true rfl⟩ (fun H locs hw => ?_)
            refine lv_bipush (v := 59) hx hb dX6_next_225 (by decide) ?_
            refine lv_icmp_ne (tgt := 235) hx hb dX6_next_227 (by decide) (fun hc => ?_) (fun hc => ?_)
            · have hf := oI_neg hc hf
              refine lv_bipush (v := 12) hx hb dX6_next_235 (by decide) ?_
              exact w_X6_next_237 E hT hLt hG  _ _ _ _ _ hf _ _ _ hw (lv_sub hl [] rfl)
            · have hf := oI_pos hc hf
              refine lv_bipush (v := 10) hx hb dX6_next_230 (by decide) ?_
              refine lv_goto (tgt := 237) hx hb dX6_next_232 (by decide) ?_
              exact w_X6_next_237 E hT hLt hG  _ _ _ _ _ hf _ _ _ hw (lv_sub hl [] rfl)
          · have hf := oI_neg hc hf
            refine lv_aload_n hx hb dX6_next_128 rfl (lv_at hl 0 rfl) ?_
            refine lv_lconst (v := 0) hx hb dX6_next_129 (by decide) ?_
            refine z_put (ws' := [(a_this, .inr (6, [.ref a_a, .ref a_fresh, .ref a_kept, .int v_keptMany, .int v_thrown, .ref a_buffer, .int v_buffered, .int v_size, .int v_at, .int v_at, .int v_kind, .int v_wrong, .int v_wrongAt, .int v_errorAt, .long (0 : Int64), .ref a_best, .ref a_rentBy, .ref a_bareBy, .ref a_aheadBy, .ref a_isEdge, .ref a_tried, .ref a_stands, .ref a_found, .ref a_foundOn, .ref a_moving, .int v_movingMany, .int v_foundIncome, .int v_foundMoves])), (a_buffer, .inl (cI, 600, .inl v_buffer))]) E.1 hw in_wsX60 tyX6 tyX6_ok nmX6 0 rfl rfl 14 (z_lt rfl) mw_738 rfl rfl rfl (z_lt rfl) rfl dX6_next_130 (fun H locs hw => ?_)
            exact w_X6_next_133 E hT hLt hG  n _ _ _ _ _ _ hf _ _ _ hw (lv_sub hl [0] rfl)
        · have hf := oI_neg hc hf
          exact w_X6_next_76 E hT hLt hG  n _ _ _ _ _ _ hf _ _ _ hw (lv_sub hl [0] rfl)
      · have hf := oI_neg hc hf
        refine lv_aload_n hx hb dX6_next_53 rfl (lv_at hl 0 rfl) ?_
        refine lv_bipush (v := 11) hx hb dX6_next_54 (by decide) ?_
        refine z_put (ws' := [(a_this, .inr (6, [.ref a_a, .ref a_fresh, .ref a_kept, .int v_keptMany, .int v_thrown, .ref a_buffer, .int v_buffered, .int v_size, .int v_at, .int v_at, .int (11 : Int32), .int v_wrong, .int v_wrongAt, .int v_errorAt, .long v_number, .ref a_best, .ref a_rentBy, .ref a_bareBy, .ref a_aheadBy, .ref a_isEdge, .ref a_tried, .ref a_stands, .ref a_found, .ref a_foundOn, .ref a_moving, .int v_movingMany, .int v_foundIncome, .int v_foundMoves])), (a_buffer, .inl (cI, 600, .inl v_buffer))]) E.1 hw in_wsX60 tyX6 tyX6_ok nmX6 0 rfl rfl 10 (z_lt rfl) mw_730 rfl rfl rfl (z_lt rfl) rfl dX6_next_56 (fun H locs hw => ?_)
        refine lv_goto (tgt := 240) hx hb dX6_next_59 (by decide) ?_
        cases hf
        exact z_vret E rfl hw dX6_next_240
    · have hf := oI_pos hc hf
      refine lv_aload_n hx hb dX6_next_21 rfl (lv_at hl 0 rfl) ?_
      refine lv_dup hx hb dX6_next_22 rfl ?_
      refine z_get E.1 hw in_wsX60 0 rfl rfl 8 (z_lt rfl) mw_736 (v := .int v_at) rfl dX6_next_23 ?_
      refine lv_iconst (v := 1) hx hb dX6_next_26 (by decide) ?_
      refine lv_iadd hx hb dX6_next_27 ?_
      obtain ⟨y_29, e_y_29, hf⟩ := oL_elim hf
      refine z_top e_y_29 ?_
      refine z_put (ws' := [(a_this, .inr (6, [.ref a_a, .ref a_fresh, .ref a_kept, .int v_keptMany, .int v_thrown, .ref a_buffer, .int v_buffered, .int v_size, .int y_29, .int v_behind, .int v_kind, .int v_wrong, .int v_wrongAt, .int v_errorAt, .long v_number, .ref a_best, .ref a_rentBy, .ref a_bareBy, .ref a_aheadBy, .ref a_isEdge, .ref a_tried, .ref a_stands, .ref a_found, .ref a_foundOn, .ref a_moving, .int v_movingMany, .int v_foundIncome, .int v_foundMoves])), (a_buffer, .inl (cI, 600, .inl v_buffer))]) E.1 hw in_wsX60 tyX6 tyX6_ok nmX6 0 rfl rfl 8 (z_lt rfl) mw_736 rfl rfl rfl (z_lt rfl) rfl dX6_next_28 (fun H locs hw => ?_)
      refine lv_goto (tgt := 8) hx hb dX6_next_31 (by decide) ?_
      exact ih _ _ _ _ _ _ hf _ _ _ hw (lv_sub hl [0] rfl)
set_option maxHeartbeats 4000000 in
set_option maxRecDepth 100000 in
theorem c_X6_next {l : Launch} {D : va_G} {cI cZ cM : ClassId} {adK adV : Nat → Nat} {a_this a_a a_fresh a_kept a_buffer a_best a_rentBy a_bareBy a_aheadBy a_isEdge a_tried a_stands a_found a_foundOn a_moving : Nat} {v_keptMany : Int32} {v_thrown : Int32} {v_buffered : Int32} {v_wrong : Int32} {v_wrongAt : Int32} {v_errorAt : Int32} {v_movingMany : Int32} {v_foundIncome : Int32} {v_foundMoves : Int32} {res : Int32 × Int32 × Int32 × Int64} {sz : Nat} {n : Nat} {v_buffer : Nat → Int32} {v_size : Int32} {v_at : Int32} {v_behind : Int32} {v_kind : Int32} {v_number : Int64} (hf : f_X6_next n v_buffer v_size v_at v_behind v_kind v_number = some res) : Met l yX6_next zwX6_next rmX6_next (zPcG D (zT cI cZ cM) [.ref a_this] [(a_this, .inr (6, [.ref a_a, .ref a_fresh, .ref a_kept, .int v_keptMany, .int v_thrown, .ref a_buffer, .int v_buffered, .int v_size, .int v_at, .int v_behind, .int v_kind, .int v_wrong, .int v_wrongAt, .int v_errorAt, .long v_number, .ref a_best, .ref a_rentBy, .ref a_bareBy, .ref a_aheadBy, .ref a_isEdge, .ref a_tried, .ref a_stands, .ref a_found, .ref a_foundOn, .ref a_moving, .int v_movingMany, .int v_foundIncome, .int v_foundMoves])), (a_buffer, .inl (cI, 600, .inl v_buffer))] sz adK adV) (zQv D (zT cI cZ cM) [(a_this, .inr (6, [.ref a_a, .ref a_fresh, .ref a_kept, .int v_keptMany, .int v_thrown, .ref a_buffer, .int v_buffered, .int v_size, .int res.1, .int res.2.1, .int res.2.2.1, .int v_wrong, .int v_wrongAt, .int v_errorAt, .long res.2.2.2, .ref a_best, .ref a_rentBy, .ref a_bareBy, .ref a_aheadBy, .ref a_isEdge, .ref a_tried, .ref a_stands, .ref a_found, .ref a_foundOn, .ref a_moving, .int v_movingMany, .int v_foundIncome, .int v_foundMoves])), (a_buffer, .inl (cI, 600, .inl v_buffer))] (va_A [(a_this, .inr (6, [.ref a_a, .ref a_fresh, .ref a_kept, .int v_keptMany, .int v_thrown, .ref a_buffer, .int v_buffered, .int v_size, .int v_at, .int v_behind, .int v_kind, .int v_wrong, .int v_wrongAt, .int v_errorAt, .long v_number, .ref a_best, .ref a_rentBy, .ref a_bareBy, .ref a_aheadBy, .ref a_isEdge, .ref a_tried, .ref a_stands, .ref a_found, .ref a_foundOn, .ref a_moving, .int v_movingMany, .int v_foundIncome, .int v_foundMoves])), (a_buffer, .inl (cI, 600, .inl v_buffer))] sz)) 0 0 (va_A [(a_this, .inr (6, [.ref a_a, .ref a_fresh, .ref a_kept, .int v_keptMany, .int v_thrown, .ref a_buffer, .int v_buffered, .int v_size, .int v_at, .int v_behind, .int v_kind, .int v_wrong, .int v_wrongAt, .int v_errorAt, .long v_number, .ref a_best, .ref a_rentBy, .ref a_bareBy, .ref a_aheadBy, .ref a_isEdge, .ref a_tried, .ref a_stands, .ref a_found, .ref a_foundOn, .ref a_moving, .int v_movingMany, .int v_foundIncome, .int v_foundMoves])), (a_buffer, .inl (cI, 600, .inl v_buffer))] sz) := by
  refine z_metG (cc := cX6_next) (maxL := 1) (ret := none) (by decide) rfl (Nat.le_of_ble_eq_true rfl) ?_
  intro p e s m below meth c ls E hT hLt hG hsz hw hl
  obtain ⟨⟨hx, hb, hml, hown, hts⟩, hr, hlocks⟩ := id E
  have hl : lv_has ls 1 [(0, .ref a_this)] := hl
  unfold f_X6_next at hf
  refine lv_aload_n hx hb dX6_next_0 rfl (lv_at hl 0 rfl) ?_
  refine lv_aload_n hx hb dX6_next_1 rfl (lv_at hl 0 rfl) ?_
  refine z_get E.1 hw in_wsX60 0 rfl rfl 9 (z_lt rfl) mw_735 (v := .int v_behind) rfl dX6_next_2 ?_
  refine z_put (ws' := [(a_this, .inr (6, [.ref a_a, .ref a_fresh, .ref a_kept, .int v_keptMany, .int v_thrown, .ref a_buffer, .int v_buffered, .int v_size, .int v_behind, .int v_behind, .int v_kind, .int v_wrong, .int v_wrongAt, .int v_errorAt, .long v_number, .ref a_best, .ref a_rentBy, .ref a_bareBy, .ref a_aheadBy, .ref a_isEdge, .ref a_tried, .ref a_stands, .ref a_found, .ref a_foundOn, .ref a_moving, .int v_movingMany, .int v_foundIncome, .int v_foundMoves])), (a_buffer, .inl (cI, 600, .inl v_buffer))]) E.1 hw in_wsX60 tyX6 tyX6_ok nmX6 0 rfl rfl 8 (z_lt rfl) mw_736 rfl rfl rfl (z_lt rfl) rfl dX6_next_5 (fun H locs hw => ?_)
  exact w_X6_next_8 E hT hLt hG  n _ _ _ _ _ _ hf _ _ _ hw (lv_sub hl [0] rfl)
end
/-! X6_eats -/
section
variable {p : Program} {l : Launch} {e : Env} {s : State} {m : MethodId} {args : Array Value} {below : List Frame} {meth : Method} {c : Code} {D : va_G} {A : Nat → Prop} {cI cZ cM : ClassId} {a_this a_a a_fresh a_kept a_buffer a_best a_rentBy a_bareBy a_aheadBy a_isEdge a_tried a_stands a_found a_foundOn a_moving : Nat} {v_keptMany : Int32} {v_thrown : Int32} {v_buffered : Int32} {v_wrongAt : Int32} {v_errorAt : Int32} {v_movingMany : Int32} {v_foundIncome : Int32} {v_foundMoves : Int32} {res : Int32 × Int32 × Int32 × Int32 × Int64} {adK adV : Nat → Nat}
def rmX6_eats : Room := { frames := 6, cells := 0, slots := 0, locals := 154 }
abbrev zwX6_eats : List Cond := Cond.code yX6_eats cX6_eats 2 (some .boolean) :: wsAll
set_option maxHeartbeats 4000000 in
set_option maxRecDepth 100000 in
theorem c_X6_eats {l : Launch} {D : va_G} {cI cZ cM : ClassId} {adK adV : Nat → Nat} {a_this a_a a_fresh a_kept a_buffer a_best a_rentBy a_bareBy a_aheadBy a_isEdge a_tried a_stands a_found a_foundOn a_moving : Nat} {v_keptMany : Int32} {v_thrown : Int32} {v_buffered : Int32} {v_wrongAt : Int32} {v_errorAt : Int32} {v_movingMany : Int32} {v_foundIncome : Int32} {v_foundMoves : Int32} {res : Int32 × Int32 × Int32 × Int32 × Int64} {sz : Nat} {n : Nat} {v_buffer : Nat → Int32} {v_size : Int32} {v_at : Int32} {v_behind : Int32} {v_kind : Int32} {v_wrong : Int32} {v_number : Int64} {x1 : Int32} (hf : f_X6_eats n v_buffer v_size v_at v_behind v_kind v_wrong v_number x1 = some res) : Met l yX6_eats zwX6_eats rmX6_eats (zPcG D (zT cI cZ cM) [.ref a_this, .int x1] [(a_this, .inr (6, [.ref a_a, .ref a_fresh, .ref a_kept, .int v_keptMany, .int v_thrown, .ref a_buffer, .int v_buffered, .int v_size, .int v_at, .int v_behind, .int v_kind, .int v_wrong, .int v_wrongAt, .int v_errorAt, .long v_number, .ref a_best, .ref a_rentBy, .ref a_bareBy, .ref a_aheadBy, .ref a_isEdge, .ref a_tried, .ref a_stands, .ref a_found, .ref a_foundOn, .ref a_moving, .int v_movingMany, .int v_foundIncome, .int v_foundMoves])), (a_buffer, .inl (cI, 600, .inl v_buffer))] sz adK adV) (zQi D (zT cI cZ cM) res.1 [(a_this, .inr (6, [.ref a_a, .ref a_fresh, .ref a_kept, .int v_keptMany, .int v_thrown, .ref a_buffer, .int v_buffered, .int v_size, .int res.2.1, .int res.2.2.1, .int res.2.2.2.1, .int v_wrong, .int v_wrongAt, .int v_errorAt, .long res.2.2.2.2, .ref a_best, .ref a_rentBy, .ref a_bareBy, .ref a_aheadBy, .ref a_isEdge, .ref a_tried, .ref a_stands, .ref a_found, .ref a_foundOn, .ref a_moving, .int v_movingMany, .int v_foundIncome, .int v_foundMoves])), (a_buffer, .inl (cI, 600, .inl v_buffer))] (va_A [(a_this, .inr (6, [.ref a_a, .ref a_fresh, .ref a_kept, .int v_keptMany, .int v_thrown, .ref a_buffer, .int v_buffered, .int v_size, .int v_at, .int v_behind, .int v_kind, .int v_wrong, .int v_wrongAt, .int v_errorAt, .long v_number, .ref a_best, .ref a_rentBy, .ref a_bareBy, .ref a_aheadBy, .ref a_isEdge, .ref a_tried, .ref a_stands, .ref a_found, .ref a_foundOn, .ref a_moving, .int v_movingMany, .int v_foundIncome, .int v_foundMoves])), (a_buffer, .inl (cI, 600, .inl v_buffer))] sz)) 0 0 (va_A [(a_this, .inr (6, [.ref a_a, .ref a_fresh, .ref a_kept, .int v_keptMany, .int v_thrown, .ref a_buffer, .int v_buffered, .int v_size, .int v_at, .int v_behind, .int v_kind, .int v_wrong, .int v_wrongAt, .int v_errorAt, .long v_number, .ref a_best, .ref a_rentBy, .ref a_bareBy, .ref a_aheadBy, .ref a_isEdge, .ref a_tried, .ref a_stands, .ref a_found, .ref a_foundOn, .ref a_moving, .int v_movingMany, .int v_foundIncome, .int v_foundMoves])), (a_buffer, .inl (cI, 600, .inl v_buffer))] sz) := by
  refine z_metG (cc := cX6_eats) (maxL := 2) (ret := (some .boolean)) (by decide) rfl (Nat.le_of_ble_eq_true rfl) ?_
  intro p e s m below meth c ls E hT hLt hG hsz hw hl
  obtain ⟨⟨hx, hb, hml, hown, hts⟩, hr, hlocks⟩ := id E
  have hl : lv_has ls 2 [(0, .ref a_this), (1, .int x1)] := hl
  unfold f_X6_eats at hf
  refine lv_aload_n hx hb dX6_eats_0 rfl (lv_at hl 0 rfl) ?_
  refine lv_iload_n hx hb dX6_eats_1 rfl (lv_at hl 1 rfl) ?_
  obtain ⟨r_1, h_2, hf⟩ := oB_elim hf
  refine z_callVi (ws' := [(a_this, .inr (6, [.ref a_a, .ref a_fresh, .ref a_kept, .int v_keptMany, .int v_thrown, .ref a_buffer, .int v_buffered, .int v_size, .int v_at, .int v_behind, .int v_kind, .int v_wrong, .int v_wrongAt, .int v_errorAt, .long v_number, .ref a_best, .ref a_rentBy, .ref a_bareBy, .ref a_aheadBy, .ref a_isEdge, .ref a_tried, .ref a_stands, .ref a_found, .ref a_foundOn, .ref a_moving, .int v_movingMany, .int v_foundIncome, .int v_foundMoves])), (a_buffer, .inl (cI, 600, .inl v_buffer))]) (wr := [(a_buffer, .inl (cI, 600, .inl v_buffer))]) (As := [.int x1]) (rest := []) E.1 hl hw (c_X6_is h_2) (cwV 1 hts (z_gV mw_725 mw_726 mw_727 mw_597 mw_728) rfl rfl rfl (by decide +kernel) ⟨(Nat.le_of_ble_eq_true rfl), (Nat.le_of_ble_eq_true rfl)⟩) 2 [(0, 1)] [(1, 1)] rfl rfl rfl rfl rfl rfl (by decide +kernel) rfl (q0 := 0) rfl rfl rfl (Nat.le_of_ble_eq_true rfl) dX6_eats_2 ⟨Nat.le_of_ble_eq_true rfl, Nat.le_of_ble_eq_true rfl⟩ (fun H locs hw => ?_)
  refine lv_if_ne (tgt := 10) hx hb dX6_eats_5 (by decide) (fun hc => ?_) (fun hc => ?_)
  · have hf := oI_neg hc hf
    refine lv_aload_n hx hb dX6_eats_10 rfl (lv_at hl 0 rfl) ?_
    obtain ⟨v_3, v_4, v_5, v_6, h_7, hf⟩ := oB4_elim hf
    refine z_callGVv (ws' := [(a_this, .inr (6, [.ref a_a, .ref a_fresh, .ref a_kept, .int v_keptMany, .int v_thrown, .ref a_buffer, .int v_buffered, .int v_size, .int v_3, .int v_4, .int v_5, .int v_wrong, .int v_wrongAt, .int v_errorAt, .long v_6, .ref a_best, .ref a_rentBy, .ref a_bareBy, .ref a_aheadBy, .ref a_isEdge, .ref a_tried, .ref a_stands, .ref a_found, .ref a_foundOn, .ref a_moving, .int v_movingMany, .int v_foundIncome, .int v_foundMoves])), (a_buffer, .inl (cI, 600, .inl v_buffer))]) (wr := []) (As := []) (rest := []) E.1 hl hT hLt hG hw (c_X6_next h_7) (cwV 0 hts (z_gV mw_731 mw_732 mw_733 mw_597 mw_734) rfl rfl rfl (by decide +kernel) ⟨(Nat.le_of_ble_eq_true rfl), (Nat.le_of_ble_eq_true rfl)⟩) 2 [(0, 2)] [] rfl rfl rfl rfl rfl rfl (by decide +kernel) rfl (q0 := 0) rfl rfl rfl (Nat.le_of_ble_eq_true rfl) dX6_eats_11 ⟨Nat.le_of_ble_eq_true rfl, Nat.le_of_ble_eq_true rfl⟩ (fun H locs hw => ?_)
    refine lv_iconst (v := 1) hx hb dX6_eats_14 (by decide) ?_
    cases hf
    exact z_zret E rfl z_n1 hw dX6_eats_15
  · have hf := oI_pos hc hf
    refine lv_iconst (v := 0) hx hb dX6_eats_8 (by decide) ?_
    cases hf
    exact z_zret E rfl z_n0 hw dX6_eats_9
end
/-! X6_errorPosition -/
section
variable {p : Program} {l : Launch} {e : Env} {s : State} {m : MethodId} {args : Array Value} {below : List Frame} {meth : Method} {c : Code} {D : va_G} {A : Nat → Prop} {cI cZ cM : ClassId} {a_this a_a a_fresh a_kept a_buffer a_best a_rentBy a_bareBy a_aheadBy a_isEdge a_tried a_stands a_found a_foundOn a_moving : Nat} {v_keptMany : Int32} {v_buffered : Int32} {v_size : Int32} {v_at : Int32} {v_behind : Int32} {v_kind : Int32} {v_wrong : Int32} {v_wrongAt : Int32} {v_number : Int64} {v_movingMany : Int32} {v_foundIncome : Int32} {v_foundMoves : Int32} {res : Int32 × Int32}
def rmX6_errorPosition : Room := { frames := 0, cells := 0, slots := 0, locals := 0 }
abbrev zwX6_errorPosition : List Cond := Cond.code yX6_errorPosition cX6_errorPosition 1 (some .int) :: wsAll
set_option maxHeartbeats 4000000 in
set_option maxRecDepth 100000 in
theorem c_X6_errorPosition {l : Launch} {D : va_G} {cI cZ cM : ClassId} {a_this a_a a_fresh a_kept a_buffer a_best a_rentBy a_bareBy a_aheadBy a_isEdge a_tried a_stands a_found a_foundOn a_moving : Nat} {v_keptMany : Int32} {v_buffered : Int32} {v_size : Int32} {v_at : Int32} {v_behind : Int32} {v_kind : Int32} {v_wrong : Int32} {v_wrongAt : Int32} {v_number : Int64} {v_movingMany : Int32} {v_foundIncome : Int32} {v_foundMoves : Int32} {res : Int32 × Int32} {sz : Nat} {v_thrown : Int32} {v_errorAt : Int32} (hf : f_X6_errorPosition v_thrown v_errorAt = some res) : Met l yX6_errorPosition zwX6_errorPosition rmX6_errorPosition (zPc D (zT cI cZ cM) [.ref a_this] [(a_this, .inr (6, [.ref a_a, .ref a_fresh, .ref a_kept, .int v_keptMany, .int v_thrown, .ref a_buffer, .int v_buffered, .int v_size, .int v_at, .int v_behind, .int v_kind, .int v_wrong, .int v_wrongAt, .int v_errorAt, .long v_number, .ref a_best, .ref a_rentBy, .ref a_bareBy, .ref a_aheadBy, .ref a_isEdge, .ref a_tried, .ref a_stands, .ref a_found, .ref a_foundOn, .ref a_moving, .int v_movingMany, .int v_foundIncome, .int v_foundMoves]))] sz) (zQi D (zT cI cZ cM) res.1 [(a_this, .inr (6, [.ref a_a, .ref a_fresh, .ref a_kept, .int v_keptMany, .int res.2, .ref a_buffer, .int v_buffered, .int v_size, .int v_at, .int v_behind, .int v_kind, .int v_wrong, .int v_wrongAt, .int v_errorAt, .long v_number, .ref a_best, .ref a_rentBy, .ref a_bareBy, .ref a_aheadBy, .ref a_isEdge, .ref a_tried, .ref a_stands, .ref a_found, .ref a_foundOn, .ref a_moving, .int v_movingMany, .int v_foundIncome, .int v_foundMoves]))] (va_A [(a_this, .inr (6, [.ref a_a, .ref a_fresh, .ref a_kept, .int v_keptMany, .int v_thrown, .ref a_buffer, .int v_buffered, .int v_size, .int v_at, .int v_behind, .int v_kind, .int v_wrong, .int v_wrongAt, .int v_errorAt, .long v_number, .ref a_best, .ref a_rentBy, .ref a_bareBy, .ref a_aheadBy, .ref a_isEdge, .ref a_tried, .ref a_stands, .ref a_found, .ref a_foundOn, .ref a_moving, .int v_movingMany, .int v_foundIncome, .int v_foundMoves]))] sz)) 0 0 (va_A [(a_this, .inr (6, [.ref a_a, .ref a_fresh, .ref a_kept, .int v_keptMany, .int v_thrown, .ref a_buffer, .int v_buffered, .int v_size, .int v_at, .int v_behind, .int v_kind, .int v_wrong, .int v_wrongAt, .int v_errorAt, .long v_number, .ref a_best, .ref a_rentBy, .ref a_bareBy, .ref a_aheadBy, .ref a_isEdge, .ref a_tried, .ref a_stands, .ref a_found, .ref a_foundOn, .ref a_moving, .int v_movingMany, .int v_foundIncome, .int v_foundMoves]))] sz) := by
  refine z_met (cc := cX6_errorPosition) (maxL := 1) (ret := (some .int)) (by decide) rfl (Nat.le_of_ble_eq_true rfl) ?_
  intro p e s m below meth c ls E hsz hw hl
  obtain ⟨⟨hx, hb, hml, hown, hts⟩, hr, hlocks⟩ := id E
  have hl : lv_has ls 1 [(0, .ref a_this)] := hl
  unfold f_X6_errorPosition at hf
  refine lv_aload_n hx hb dX6_errorPosition_0 rfl (lv_at hl 0 rfl) ?_
  refine lv_iconst (v := 0) hx hb dX6_errorPosition_1 (by decide) ?_
  refine z_put (ws' := [(a_this, .inr (6, [.ref a_a, .ref a_fresh, .ref a_kept, .int v_keptMany, .int (0 : Int32), .ref a_buffer, .int v_buffered, .int v_size, .int v_at, .int v_behind, .int v_kind, .int v_wrong, .int v_wrongAt, .int v_errorAt, .long v_number, .ref a_best, .ref a_rentBy, .ref a_bareBy, .ref a_aheadBy, .ref a_isEdge, .ref a_tried, .ref a_stands, .ref a_found, .ref a_foundOn, .ref a_moving, .int v_movingMany, .int v_foundIncome, .int v_foundMoves]))]) E.1 hw in_wsX60 tyX6 tyX6_ok nmX6 0 rfl rfl 4 (z_lt rfl) mw_594 rfl rfl rfl (z_lt rfl) rfl dX6_errorPosition_2 (fun H locs hw => ?_)
  refine lv_aload_n hx hb dX6_errorPosition_5 rfl (lv_at hl 0 rfl) ?_
  refine z_get E.1 hw in_wsX60 0 rfl rfl 13 (z_lt rfl) mw_762 (v := .int v_errorAt) rfl dX6_errorPosition_6 ?_
  cases hf
  exact z_iret E rfl hw dX6_errorPosition_9
end
/-! X6_isSheltered -/
section
variable {p : Program} {l : Launch} {e : Env} {s : State} {m : MethodId} {args : Array Value} {below : List Frame} {meth : Method} {c : Code} {D : va_G} {A : Nat → Prop} {cI cZ cM : ClassId} {a_this a_a a_fresh a_kept a_buffer a_best a_rentBy a_bareBy a_aheadBy a_isEdge a_tried a_stands a_found a_foundOn a_moving : Nat} {v_keptMany : Int32} {v_thrown : Int32} {v_buffered : Int32} {v_size : Int32} {v_at : Int32} {v_behind : Int32} {v_kind : Int32} {v_wrong : Int32} {v_wrongAt : Int32} {v_errorAt : Int32} {v_number : Int64} {v_movingMany : Int32} {v_foundIncome : Int32} {v_foundMoves : Int32} {res : Int32}
def rmX6_isSheltered : Room := { frames := 0, cells := 0, slots := 0, locals := 0 }
abbrev zwX6_isSheltered : List Cond := Cond.code yX6_isSheltered cX6_isSheltered 4 (some .boolean) :: wsAll
set_option maxHeartbeats 4000000 in
set_option maxRecDepth 100000 in
theorem w_X6_isSheltered_73 {n : Nat} {v_a : Nat → Int32} (E : zE p s m args meth c cX6_isSheltered 4 (some .boolean) zwX6_isSheltered RX6) : f_X6_isSheltered_73 n = some res → ∀ (H : Heap) (locs : List Loc) (ls : Array Slot), zW D (zT cI cZ cM) A s [(a_this, .inr (6, [.ref a_a, .ref a_fresh, .ref a_kept, .int v_keptMany, .int v_thrown, .ref a_buffer, .int v_buffered, .int v_size, .int v_at, .int v_behind, .int v_kind, .int v_wrong, .int v_wrongAt, .int v_errorAt, .long v_number, .ref a_best, .ref a_rentBy, .ref a_bareBy, .ref a_aheadBy, .ref a_isEdge, .ref a_tried, .ref a_stands, .ref a_found, .ref a_foundOn, .ref a_moving, .int v_movingMany, .int v_foundIncome, .int v_foundMoves])), (a_a, .inl (cI, 180, .inl v_a))] H locs → lv_has ls 4 [] → W p l e rmX6_isSheltered s m args below meth c H locs 0 0 (MQ below (zQi D (zT cI cZ cM) res [(a_this, .inr (6, [.ref a_a, .ref a_fresh, .ref a_kept, .int v_keptMany, .int v_thrown, .ref a_buffer, .int v_buffered, .int v_size, .int v_at, .int v_behind, .int v_kind, .int v_wrong, .int v_wrongAt, .int v_errorAt, .long v_number, .ref a_best, .ref a_rentBy, .ref a_bareBy, .ref a_aheadBy, .ref a_isEdge, .ref a_tried, .ref a_stands, .ref a_found, .ref a_foundOn, .ref a_moving, .int v_movingMany, .int v_foundIncome, .int v_foundMoves])), (a_a, .inl (cI, 180, .inl v_a))] A) args s 0 0 A) (F0 m 73 ls []) := by
  obtain ⟨⟨hx, hb, hml, hown, hts⟩, hr, hlocks⟩ := id E
  intro  hf H locs ls hw hl
  unfold f_X6_isSheltered_73 at hf
  refine lv_iconst (v := 1) hx hb dX6_isSheltered_73 (by decide) ?_
  refine lv_goto (tgt := 78) hx hb dX6_isSheltered_74 (by decide) ?_
  cases hf
  exact z_zret E rfl z_n1 hw dX6_isSheltered_78
set_option maxHeartbeats 4000000 in
set_option maxRecDepth 100000 in
theorem w_X6_isSheltered_49 {n : Nat} (E : zE p s m args meth c cX6_isSheltered 4 (some .boolean) zwX6_isSheltered RX6) {k4 : Int32 → Int32 → Int32 → (Nat → Int32) → Option (Int32)} (hk4 : ∀ (x1 : Int32) (x2 : Int32) (x3 : Int32) (v_a : Nat → Int32), k4 x1 x2 x3 v_a = some res → ∀ (H : Heap) (locs : List Loc) (ls : Array Slot), zW D (zT cI cZ cM) A s [(a_this, .inr (6, [.ref a_a, .ref a_fresh, .ref a_kept, .int v_keptMany, .int v_thrown, .ref a_buffer, .int v_buffered, .int v_size, .int v_at, .int v_behind, .int v_kind, .int v_wrong, .int v_wrongAt, .int v_errorAt, .long v_number, .ref a_best, .ref a_rentBy, .ref a_bareBy, .ref a_aheadBy, .ref a_isEdge, .ref a_tried, .ref a_stands, .ref a_found, .ref a_foundOn, .ref a_moving, .int v_movingMany, .int v_foundIncome, .int v_foundMoves])), (a_a, .inl (cI, 180, .inl v_a))] H locs → lv_has ls 4 [(0, .ref a_this), (1, .int x1), (2, .int x2), (3, .int x3)] → W p l e rmX6_isSheltered s m args below meth c H locs 0 0 (MQ below (zQi D (zT cI cZ cM) res [(a_this, .inr (6, [.ref a_a, .ref a_fresh, .ref a_kept, .int v_keptMany, .int v_thrown, .ref a_buffer, .int v_buffered, .int v_size, .int v_at, .int v_behind, .int v_kind, .int v_wrong, .int v_wrongAt, .int v_errorAt, .long v_number, .ref a_best, .ref a_rentBy, .ref a_bareBy, .ref a_aheadBy, .ref a_isEdge, .ref a_tried, .ref a_stands, .ref a_found, .ref a_foundOn, .ref a_moving, .int v_movingMany, .int v_foundIncome, .int v_foundMoves])), (a_a, .inl (cI, 180, .inl v_a))] A) args s 0 0 A) (F0 m 4 ls [])) : ∀ (t0 : Int32) (x1 : Int32) (x3 : Int32) (v_a : Nat → Int32), f_X6_isSheltered_49 n k4 t0 x1 x3 v_a = some res → ∀ (H : Heap) (locs : List Loc) (ls : Array Slot), zW D (zT cI cZ cM) A s [(a_this, .inr (6, [.ref a_a, .ref a_fresh, .ref a_kept, .int v_keptMany, .int v_thrown, .ref a_buffer, .int v_buffered, .int v_size, .int v_at, .int v_behind, .int v_kind, .int v_wrong, .int v_wrongAt, .int v_errorAt, .long v_number, .ref a_best, .ref a_rentBy, .ref a_bareBy, .ref a_aheadBy, .ref a_isEdge, .ref a_tried, .ref a_stands, .ref a_found, .ref a_foundOn, .ref a_moving, .int v_movingMany, .int v_foundIncome, .int v_foundMoves])), (a_a, .inl (cI, 180, .inl v_a))] H locs → lv_has ls 4 [(0, .ref a_this), (1, .int x1), (3, .int x3)] → W p l e rmX6_isSheltered s m args below meth c H locs 0 0 (MQ below (zQi D (zT cI cZ cM) res [(a_this, .inr (6, [.ref a_a, .ref a_fresh, .ref a_kept, .int v_keptMany, .int v_thrown, .ref a_buffer, .int v_buffered, .int v_size, .int v_at, .int v_behind, .int v_kind, .int v_wrong, .int v_wrongAt, .int v_errorAt, .long v_number, .ref a_best, .ref a_rentBy, .ref a_bareBy, .ref a_aheadBy, .ref a_isEdge, .ref a_tried, .ref a_stands, .ref a_found, .ref a_foundOn, .ref a_moving, .int v_movingMany, .int v_foundIncome, .int v_foundMoves])), (a_a, .inl (cI, 180, .inl v_a))] A) args s 0 0 A) (F0 m 49 ls [.int t0]) := by
  obtain ⟨⟨hx, hb, hml, hown, hts⟩, hr, hlocks⟩ := id E
  intro t0 x1 x3 v_a hf H locs ls hw hl
  unfold f_X6_isSheltered_49 at hf
  refine lv_istore_n (lv' := [(2, .int t0), (0, .ref a_this), (1, .int x1), (3, .int x3)]) hx hb dX6_isSheltered_49 rfl hl (z_lt rfl) rfl (fun ls hl => ?_)
  refine lv_iinc (v := (x3 + (1 : Int32))) (lv' := [(3, .int (x3 + (1 : Int32))), (2, .int t0), (0, .ref a_this), (1, .int x1)]) hx hb dX6_isSheltered_50 hl (k := 3) rfl rfl (z_lt rfl) rfl (fun ls hl => ?_)
  refine lv_goto (tgt := 4) hx hb dX6_isSheltered_53 (by decide) ?_
  exact hk4 _ _ _ _ hf _ _ _ hw (lv_sub hl [2, 3, 1, 0] rfl)
set_option maxHeartbeats 4000000 in
set_option maxRecDepth 100000 in
theorem w_X6_isSheltered_48 {n : Nat} (E : zE p s m args meth c cX6_isSheltered 4 (some .boolean) zwX6_isSheltered RX6) {k4 : Int32 → Int32 → Int32 → (Nat → Int32) → Option (Int32)} (hk4 : ∀ (x1 : Int32) (x2 : Int32) (x3 : Int32) (v_a : Nat → Int32), k4 x1 x2 x3 v_a = some res → ∀ (H : Heap) (locs : List Loc) (ls : Array Slot), zW D (zT cI cZ cM) A s [(a_this, .inr (6, [.ref a_a, .ref a_fresh, .ref a_kept, .int v_keptMany, .int v_thrown, .ref a_buffer, .int v_buffered, .int v_size, .int v_at, .int v_behind, .int v_kind, .int v_wrong, .int v_wrongAt, .int v_errorAt, .long v_number, .ref a_best, .ref a_rentBy, .ref a_bareBy, .ref a_aheadBy, .ref a_isEdge, .ref a_tried, .ref a_stands, .ref a_found, .ref a_foundOn, .ref a_moving, .int v_movingMany, .int v_foundIncome, .int v_foundMoves])), (a_a, .inl (cI, 180, .inl v_a))] H locs → lv_has ls 4 [(0, .ref a_this), (1, .int x1), (2, .int x2), (3, .int x3)] → W p l e rmX6_isSheltered s m args below meth c H locs 0 0 (MQ below (zQi D (zT cI cZ cM) res [(a_this, .inr (6, [.ref a_a, .ref a_fresh, .ref a_kept, .int v_keptMany, .int v_thrown, .ref a_buffer, .int v_buffered, .int v_size, .int v_at, .int v_behind, .int v_kind, .int v_wrong, .int v_wrongAt, .int v_errorAt, .long v_number, .ref a_best, .ref a_rentBy, .ref a_bareBy, .ref a_aheadBy, .ref a_isEdge, .ref a_tried, .ref a_stands, .ref a_found, .ref a_foundOn, .ref a_moving, .int v_movingMany, .int v_foundIncome, .int v_foundMoves])), (a_a, .inl (cI, 180, .inl v_a))] A) args s 0 0 A) (F0 m 4 ls [])) : ∀ (x1 : Int32) (x3 : Int32) (v_a : Nat → Int32), f_X6_isSheltered_48 n k4 x1 x3 v_a = some res → ∀ (H : Heap) (locs : List Loc) (ls : Array Slot), zW D (zT cI cZ cM) A s [(a_this, .inr (6, [.ref a_a, .ref a_fresh, .ref a_kept, .int v_keptMany, .int v_thrown, .ref a_buffer, .int v_buffered, .int v_size, .int v_at, .int v_behind, .int v_kind, .int v_wrong, .int v_wrongAt, .int v_errorAt, .long v_number, .ref a_best, .ref a_rentBy, .ref a_bareBy, .ref a_aheadBy, .ref a_isEdge, .ref a_tried, .ref a_stands, .ref a_found, .ref a_foundOn, .ref a_moving, .int v_movingMany, .int v_foundIncome, .int v_foundMoves])), (a_a, .inl (cI, 180, .inl v_a))] H locs → lv_has ls 4 [(0, .ref a_this), (1, .int x1), (3, .int x3)] → W p l e rmX6_isSheltered s m args below meth c H locs 0 0 (MQ below (zQi D (zT cI cZ cM) res [(a_this, .inr (6, [.ref a_a, .ref a_fresh, .ref a_kept, .int v_keptMany, .int v_thrown, .ref a_buffer, .int v_buffered, .int v_size, .int v_at, .int v_behind, .int v_kind, .int v_wrong, .int v_wrongAt, .int v_errorAt, .long v_number, .ref a_best, .ref a_rentBy, .ref a_bareBy, .ref a_aheadBy, .ref a_isEdge, .ref a_tried, .ref a_stands, .ref a_found, .ref a_foundOn, .ref a_moving, .int v_movingMany, .int v_foundIncome, .int v_foundMoves])), (a_a, .inl (cI, 180, .inl v_a))] A) args s 0 0 A) (F0 m 48 ls []) := by
  obtain ⟨⟨hx, hb, hml, hown, hts⟩, hr, hlocks⟩ := id E
  intro x1 x3 v_a hf H locs ls hw hl
  unfold f_X6_isSheltered_48 at hf
  refine lv_iconst (v := 0) hx hb dX6_isSheltered_48 (by decide) ?_
  exact w_X6_isSheltered_49 E hk4 _ _ _ _ hf _ _ _ hw (lv_sub hl [0, 1, 2] rfl)
set_option maxHeartbeats 4000000 in
set_option maxRecDepth 100000 in
theorem w_X6_isSheltered_4 {n : Nat} (E : zE p s m args meth c cX6_isSheltered 4 (some .boolean) zwX6_isSheltered RX6) : ∀ (fu : Nat), ∀ (x1 : Int32) (x2 : Int32) (x3 : Int32) (v_a : Nat → Int32), f_X6_isSheltered_4 n fu x1 x2 x3 v_a = some res → ∀ (H : Heap) (locs : List Loc) (ls : Array Slot), zW D (zT cI cZ cM) A s [(a_this, .inr (6, [.ref a_a, .ref a_fresh, .ref a_kept, .int v_keptMany, .int v_thrown, .ref a_buffer, .int v_buffered, .int v_size, .int v_at, .int v_behind, .int v_kind, .int v_wrong, .int v_wrongAt, .int v_errorAt, .long v_number, .ref a_best, .ref a_rentBy, .ref a_bareBy, .ref a_aheadBy, .ref a_isEdge, .ref a_tried, .ref a_stands, .ref a_found, .ref a_foundOn, .ref a_moving, .int v_movingMany, .int v_foundIncome, .int v_foundMoves])), (a_a, .inl (cI, 180, .inl v_a))] H locs → lv_has ls 4 [(0, .ref a_this), (1, .int x1), (2, .int x2), (3, .int x3)] → W p l e rmX6_isSheltered s m args below meth c H locs 0 0 (MQ below (zQi D (zT cI cZ cM) res [(a_this, .inr (6, [.ref a_a, .ref a_fresh, .ref a_kept, .int v_keptMany, .int v_thrown, .ref a_buffer, .int v_buffered, .int v_size, .int v_at, .int v_behind, .int v_kind, .int v_wrong, .int v_wrongAt, .int v_errorAt, .long v_number, .ref a_best, .ref a_rentBy, .ref a_bareBy, .ref a_aheadBy, .ref a_isEdge, .ref a_tried, .ref a_stands, .ref a_found, .ref a_foundOn, .ref a_moving, .int v_movingMany, .int v_foundIncome, .int v_foundMoves])), (a_a, .inl (cI, 180, .inl v_a))] A) args s 0 0 A) (F0 m 4 ls []) := by
  obtain ⟨⟨hx, hb, hml, hown, hts⟩, hr, hlocks⟩ := id E
  intro fu
  induction fu with
  | zero => intro x1 x2 x3 v_a hf; rw [f_X6_isSheltered_4.eq_1] at hf; cases hf
  | succ fu ih =>
    intro x1 x2 x3 v_a hf H locs ls hw hl
    rw [f_X6_isSheltered_4.eq_2] at hf
    refine lv_iload_n hx hb dX6_isSheltered_4 rfl (lv_at hl 3 rfl) ?_
    refine lv_aload_n hx hb dX6_isSheltered_5 rfl (lv_at hl 0 rfl) ?_
    refine z_get E.1 hw in_wsX60 0 rfl rfl 0 (z_lt rfl) mw_593 (v := .ref a_a) rfl dX6_isSheltered_6 ?_
    refine lv_bipush (v := 83) hx hb dX6_isSheltered_9 (by decide) ?_
    refine lv_iload_n hx hb dX6_isSheltered_11 rfl (lv_at hl 1 rfl) ?_
    refine lv_iadd hx hb dX6_isSheltered_12 ?_
    obtain ⟨h_1, hf⟩ := oA_elim hf
    refine z_iald E.1 hw 1 0 rfl rfl h_1 dX6_isSheltered_13 ?_
    refine lv_icmp_ge (tgt := 56) hx hb dX6_isSheltered_14 (by decide) (fun hc => ?_) (fun hc => ?_)
    · have hf := oI_pos hc hf
      refine lv_iload_n hx hb dX6_isSheltered_56 rfl (lv_at hl 2 rfl) ?_
      refine lv_if_ne (tgt := 73) hx hb dX6_isSheltered_57 (by decide) (fun hc => ?_) (fun hc => ?_)
      · have hf := oI_neg hc hf
        exact w_X6_isSheltered_73 E   hf _ _ _ hw (lv_sub hl [] rfl)
      · have hf := oI_pos hc hf
        refine lv_aload_n hx hb dX6_isSheltered_60 rfl (lv_at hl 0 rfl) ?_
        refine z_get E.1 hw in_wsX60 0 rfl rfl 0 (z_lt rfl) mw_593 (v := .ref a_a) rfl dX6_isSheltered_61 ?_
        refine lv_bipush (v := 99) hx hb dX6_isSheltered_64 (by decide) ?_
        refine lv_iload_n hx hb dX6_isSheltered_66 rfl (lv_at hl 1 rfl) ?_
        refine lv_iadd hx hb dX6_isSheltered_67 ?_
        obtain ⟨h_2, hf⟩ := oA_elim hf
        refine z_iald E.1 hw 1 0 rfl rfl h_2 dX6_isSheltered_68 ?_
        refine lv_iconst (v := 1) hx hb dX6_isSheltered_69 (by decide) ?_
        refine lv_icmp_ne (tgt := 77) hx hb dX6_isSheltered_70 (by decide) (fun hc => ?_) (fun hc => ?_)
        · have hf := oI_neg hc hf
          refine lv_iconst (v := 0) hx hb dX6_isSheltered_77 (by decide) ?_
          cases hf
          exact z_zret E rfl z_n0 hw dX6_isSheltered_78
        · have hf := oI_pos hc hf
          exact w_X6_isSheltered_73 E   hf _ _ _ hw (lv_sub hl [] rfl)
    · have hf := oI_neg hc hf
      refine lv_iload_n hx hb dX6_isSheltered_17 rfl (lv_at hl 2 rfl) ?_
      refine lv_if_eq (tgt := 48) hx hb dX6_isSheltered_18 (by decide) (fun hc => ?_) (fun hc => ?_)
      · have hf := oI_pos hc hf
        exact w_X6_isSheltered_48 E ih _ _ _ hf _ _ _ hw (lv_sub hl [0, 1, 3] rfl)
      · have hf := oI_neg hc hf
        refine lv_aload_n hx hb dX6_isSheltered_21 rfl (lv_at hl 0 rfl) ?_
        refine z_get E.1 hw in_wsX60 0 rfl rfl 0 (z_lt rfl) mw_593 (v := .ref a_a) rfl dX6_isSheltered_22 ?_
        refine lv_bipush (v := 26) hx hb dX6_isSheltered_25 (by decide) ?_
        refine lv_aload_n hx hb dX6_isSheltered_27 rfl (lv_at hl 0 rfl) ?_
        refine z_get E.1 hw in_wsX60 0 rfl rfl 0 (z_lt rfl) mw_593 (v := .ref a_a) rfl dX6_isSheltered_28 ?_
        refine lv_bipush (v := 107) hx hb dX6_isSheltered_31 (by decide) ?_
        refine lv_iload_n hx hb dX6_isSheltered_33 rfl (lv_at hl 1 rfl) ?_
        refine lv_iadd hx hb dX6_isSheltered_34 ?_
        obtain ⟨h_3, hf⟩ := oA_elim hf
        refine z_iald E.1 hw 1 0 rfl rfl h_3 dX6_isSheltered_35 ?_
        refine lv_iadd hx hb dX6_isSheltered_36 ?_
        refine lv_iload_n hx hb dX6_isSheltered_37 rfl (lv_at hl 3 rfl) ?_
        refine lv_iadd hx hb dX6_isSheltered_38 ?_
        obtain ⟨h_4, hf⟩ := oA_elim hf
        refine z_iald E.1 hw 1 0 rfl rfl h_4 dX6_isSheltered_39 ?_
        refine lv_iconst (v := 1) hx hb dX6_isSheltered_40 (by decide) ?_
        refine lv_icmp_ne (tgt := 48) hx hb dX6_isSheltered_41 (by decide) (fun hc => ?_) (fun hc => ?_)
        · have hf := oI_neg hc hf
          exact w_X6_isSheltered_48 E ih _ _ _ hf _ _ _ hw (lv_sub hl [0, 1, 3] rfl)
        · have hf := oI_pos hc hf
          refine lv_iconst (v := 1) hx hb dX6_isSheltered_44 (by decide) ?_
          refine lv_goto (tgt := 49) hx hb dX6_isSheltered_45 (by decide) ?_
          exact w_X6_isSheltered_49 E ih _ _ _ _ hf _ _ _ hw (lv_sub hl [0, 1, 3] rfl)
set_option maxHeartbeats 4000000 in
set_option maxRecDepth 100000 in
theorem c_X6_isSheltered {l : Launch} {D : va_G} {cI cZ cM : ClassId} {a_this a_a a_fresh a_kept a_buffer a_best a_rentBy a_bareBy a_aheadBy a_isEdge a_tried a_stands a_found a_foundOn a_moving : Nat} {v_keptMany : Int32} {v_thrown : Int32} {v_buffered : Int32} {v_size : Int32} {v_at : Int32} {v_behind : Int32} {v_kind : Int32} {v_wrong : Int32} {v_wrongAt : Int32} {v_errorAt : Int32} {v_number : Int64} {v_movingMany : Int32} {v_foundIncome : Int32} {v_foundMoves : Int32} {res : Int32} {sz : Nat} {n : Nat} {v_a : Nat → Int32} {x1 : Int32} (hf : f_X6_isSheltered n v_a x1 = some res) : Met l yX6_isSheltered zwX6_isSheltered rmX6_isSheltered (zPc D (zT cI cZ cM) [.ref a_this, .int x1] [(a_this, .inr (6, [.ref a_a, .ref a_fresh, .ref a_kept, .int v_keptMany, .int v_thrown, .ref a_buffer, .int v_buffered, .int v_size, .int v_at, .int v_behind, .int v_kind, .int v_wrong, .int v_wrongAt, .int v_errorAt, .long v_number, .ref a_best, .ref a_rentBy, .ref a_bareBy, .ref a_aheadBy, .ref a_isEdge, .ref a_tried, .ref a_stands, .ref a_found, .ref a_foundOn, .ref a_moving, .int v_movingMany, .int v_foundIncome, .int v_foundMoves])), (a_a, .inl (cI, 180, .inl v_a))] sz) (zQi D (zT cI cZ cM) res [(a_this, .inr (6, [.ref a_a, .ref a_fresh, .ref a_kept, .int v_keptMany, .int v_thrown, .ref a_buffer, .int v_buffered, .int v_size, .int v_at, .int v_behind, .int v_kind, .int v_wrong, .int v_wrongAt, .int v_errorAt, .long v_number, .ref a_best, .ref a_rentBy, .ref a_bareBy, .ref a_aheadBy, .ref a_isEdge, .ref a_tried, .ref a_stands, .ref a_found, .ref a_foundOn, .ref a_moving, .int v_movingMany, .int v_foundIncome, .int v_foundMoves])), (a_a, .inl (cI, 180, .inl v_a))] (va_A [(a_this, .inr (6, [.ref a_a, .ref a_fresh, .ref a_kept, .int v_keptMany, .int v_thrown, .ref a_buffer, .int v_buffered, .int v_size, .int v_at, .int v_behind, .int v_kind, .int v_wrong, .int v_wrongAt, .int v_errorAt, .long v_number, .ref a_best, .ref a_rentBy, .ref a_bareBy, .ref a_aheadBy, .ref a_isEdge, .ref a_tried, .ref a_stands, .ref a_found, .ref a_foundOn, .ref a_moving, .int v_movingMany, .int v_foundIncome, .int v_foundMoves])), (a_a, .inl (cI, 180, .inl v_a))] sz)) 0 0 (va_A [(a_this, .inr (6, [.ref a_a, .ref a_fresh, .ref a_kept, .int v_keptMany, .int v_thrown, .ref a_buffer, .int v_buffered, .int v_size, .int v_at, .int v_behind, .int v_kind, .int v_wrong, .int v_wrongAt, .int v_errorAt, .long v_number, .ref a_best, .ref a_rentBy, .ref a_bareBy, .ref a_aheadBy, .ref a_isEdge, .ref a_tried, .ref a_stands, .ref a_found, .ref a_foundOn, .ref a_moving, .int v_movingMany, .int v_foundIncome, .int v_foundMoves])), (a_a, .inl (cI, 180, .inl v_a))] sz) := by
  refine z_met (cc := cX6_isSheltered) (maxL := 4) (ret := (some .boolean)) (by decide) rfl (Nat.le_of_ble_eq_true rfl) ?_
  intro p e s m below meth c ls E hsz hw hl
  obtain ⟨⟨hx, hb, hml, hown, hts⟩, hr, hlocks⟩ := id E
  have hl : lv_has ls 4 [(0, .ref a_this), (1, .int x1)] := hl
  unfold f_X6_isSheltered at hf
  refine lv_iconst (v := 1) hx hb dX6_isSheltered_0 (by decide) ?_
  refine lv_istore_n (lv' := [(2, .int (1 : Int32)), (0, .ref a_this), (1, .int x1)]) hx hb dX6_isSheltered_1 rfl hl (z_lt rfl) rfl (fun ls hl => ?_)
  refine lv_iconst (v := 0) hx hb dX6_isSheltered_2 (by decide) ?_
  refine lv_istore_n (lv' := [(3, .int (0 : Int32)), (2, .int (1 : Int32)), (0, .ref a_this), (1, .int x1)]) hx hb dX6_isSheltered_3 rfl hl (z_lt rfl) rfl (fun ls hl => ?_)
  exact w_X6_isSheltered_4 E  n _ _ _ _ hf _ _ _ hw (lv_sub hl [2, 3, 1, 0] rfl)
end
/-! X6_expectedIncome -/
section
variable {p : Program} {l : Launch} {e : Env} {s : State} {m : MethodId} {args : Array Value} {below : List Frame} {meth : Method} {c : Code} {D : va_G} {A : Nat → Prop} {cI cZ cM : ClassId} {a_this a_a a_fresh a_kept a_buffer a_best a_rentBy a_bareBy a_aheadBy a_isEdge a_tried a_stands a_found a_foundOn a_moving : Nat} {v_keptMany : Int32} {v_buffered : Int32} {v_size : Int32} {v_at : Int32} {v_behind : Int32} {v_kind : Int32} {v_wrong : Int32} {v_wrongAt : Int32} {v_errorAt : Int32} {v_number : Int64} {v_movingMany : Int32} {v_foundIncome : Int32} {v_foundMoves : Int32} {res : UInt64 × Int32}
def rmX6_expectedIncome : Room := { frames := 1, cells := 0, slots := 0, locals := 24 }
abbrev zwX6_expectedIncome : List Cond := Cond.code yX6_expectedIncome cX6_expectedIncome 7 (some .double) :: wsAll
set_option maxHeartbeats 4000000 in
set_option maxRecDepth 100000 in
theorem w_X6_expectedIncome_121 {n : Nat} {v_a : Nat → Int32} (E : zE p s m args meth c cX6_expectedIncome 7 (some .double) zwX6_expectedIncome RX6) : ∀ (x3 : UInt64) (v_thrown : Int32), f_X6_expectedIncome_121 n x3 v_thrown = some res → ∀ (H : Heap) (locs : List Loc) (ls : Array Slot), zW D (zT cI cZ cM) A s [(a_this, .inr (6, [.ref a_a, .ref a_fresh, .ref a_kept, .int v_keptMany, .int v_thrown, .ref a_buffer, .int v_buffered, .int v_size, .int v_at, .int v_behind, .int v_kind, .int v_wrong, .int v_wrongAt, .int v_errorAt, .long v_number, .ref a_best, .ref a_rentBy, .ref a_bareBy, .ref a_aheadBy, .ref a_isEdge, .ref a_tried, .ref a_stands, .ref a_found, .ref a_foundOn, .ref a_moving, .int v_movingMany, .int v_foundIncome, .int v_foundMoves])), (a_a, .inl (cI, 180, .inl v_a))] H locs → lv_has ls 7 [(3, .double x3)] → W p l e rmX6_expectedIncome s m args below meth c H locs 0 0 (MQ below (zQd D (zT cI cZ cM) res.1 [(a_this, .inr (6, [.ref a_a, .ref a_fresh, .ref a_kept, .int v_keptMany, .int res.2, .ref a_buffer, .int v_buffered, .int v_size, .int v_at, .int v_behind, .int v_kind, .int v_wrong, .int v_wrongAt, .int v_errorAt, .long v_number, .ref a_best, .ref a_rentBy, .ref a_bareBy, .ref a_aheadBy, .ref a_isEdge, .ref a_tried, .ref a_stands, .ref a_found, .ref a_foundOn, .ref a_moving, .int v_movingMany, .int v_foundIncome, .int v_foundMoves])), (a_a, .inl (cI, 180, .inl v_a))] A) args s 0 0 A) (F0 m 121 ls []) := by
  obtain ⟨⟨hx, hb, hml, hown, hts⟩, hr, hlocks⟩ := id E
  intro x3 v_thrown hf H locs ls hw hl
  unfold f_X6_expectedIncome_121 at hf
  refine lv_dload_n hx hb dX6_expectedIncome_121 rfl (lv_at hl 0 rfl) ?_
  cases hf
  exact z_dret E rfl hw dX6_expectedIncome_122
set_option maxHeartbeats 4000000 in
set_option maxRecDepth 100000 in
theorem w_X6_expectedIncome_115 {n : Nat} (E : zE p s m args meth c cX6_expectedIncome 7 (some .double) zwX6_expectedIncome RX6) {k26 : UInt64 → UInt64 → Int32 → (Nat → Int32) → Int32 → Option (UInt64 × Int32)} (hk26 : ∀ (x1 : UInt64) (x3 : UInt64) (x5 : Int32) (v_a : Nat → Int32) (v_thrown : Int32), k26 x1 x3 x5 v_a v_thrown = some res → ∀ (H : Heap) (locs : List Loc) (ls : Array Slot), zW D (zT cI cZ cM) A s [(a_this, .inr (6, [.ref a_a, .ref a_fresh, .ref a_kept, .int v_keptMany, .int v_thrown, .ref a_buffer, .int v_buffered, .int v_size, .int v_at, .int v_behind, .int v_kind, .int v_wrong, .int v_wrongAt, .int v_errorAt, .long v_number, .ref a_best, .ref a_rentBy, .ref a_bareBy, .ref a_aheadBy, .ref a_isEdge, .ref a_tried, .ref a_stands, .ref a_found, .ref a_foundOn, .ref a_moving, .int v_movingMany, .int v_foundIncome, .int v_foundMoves])), (a_a, .inl (cI, 180, .inl v_a))] H locs → lv_has ls 7 [(0, .ref a_this), (1, .double x1), (3, .double x3), (5, .int x5)] → W p l e rmX6_expectedIncome s m args below meth c H locs 0 0 (MQ below (zQd D (zT cI cZ cM) res.1 [(a_this, .inr (6, [.ref a_a, .ref a_fresh, .ref a_kept, .int v_keptMany, .int res.2, .ref a_buffer, .int v_buffered, .int v_size, .int v_at, .int v_behind, .int v_kind, .int v_wrong, .int v_wrongAt, .int v_errorAt, .long v_number, .ref a_best, .ref a_rentBy, .ref a_bareBy, .ref a_aheadBy, .ref a_isEdge, .ref a_tried, .ref a_stands, .ref a_found, .ref a_foundOn, .ref a_moving, .int v_movingMany, .int v_foundIncome, .int v_foundMoves])), (a_a, .inl (cI, 180, .inl v_a))] A) args s 0 0 A) (F0 m 26 ls [])) : ∀ (x1 : UInt64) (x3 : UInt64) (x5 : Int32) (v_a : Nat → Int32) (v_thrown : Int32), f_X6_expectedIncome_115 n k26 x1 x3 x5 v_a v_thrown = some res → ∀ (H : Heap) (locs : List Loc) (ls : Array Slot), zW D (zT cI cZ cM) A s [(a_this, .inr (6, [.ref a_a, .ref a_fresh, .ref a_kept, .int v_keptMany, .int v_thrown, .ref a_buffer, .int v_buffered, .int v_size, .int v_at, .int v_behind, .int v_kind, .int v_wrong, .int v_wrongAt, .int v_errorAt, .long v_number, .ref a_best, .ref a_rentBy, .ref a_bareBy, .ref a_aheadBy, .ref a_isEdge, .ref a_tried, .ref a_stands, .ref a_found, .ref a_foundOn, .ref a_moving, .int v_movingMany, .int v_foundIncome, .int v_foundMoves])), (a_a, .inl (cI, 180, .inl v_a))] H locs → lv_has ls 7 [(0, .ref a_this), (1, .double x1), (3, .double x3), (5, .int x5)] → W p l e rmX6_expectedIncome s m args below meth c H locs 0 0 (MQ below (zQd D (zT cI cZ cM) res.1 [(a_this, .inr (6, [.ref a_a, .ref a_fresh, .ref a_kept, .int v_keptMany, .int res.2, .ref a_buffer, .int v_buffered, .int v_size, .int v_at, .int v_behind, .int v_kind, .int v_wrong, .int v_wrongAt, .int v_errorAt, .long v_number, .ref a_best, .ref a_rentBy, .ref a_bareBy, .ref a_aheadBy, .ref a_isEdge, .ref a_tried, .ref a_stands, .ref a_found, .ref a_foundOn, .ref a_moving, .int v_movingMany, .int v_foundIncome, .int v_foundMoves])), (a_a, .inl (cI, 180, .inl v_a))] A) args s 0 0 A) (F0 m 115 ls []) := by
  obtain ⟨⟨hx, hb, hml, hown, hts⟩, hr, hlocks⟩ := id E
  intro x1 x3 x5 v_a v_thrown hf H locs ls hw hl
  unfold f_X6_expectedIncome_115 at hf
  refine lv_iinc (v := (x5 + (1 : Int32))) (lv' := [(5, .int (x5 + (1 : Int32))), (0, .ref a_this), (1, .double x1), (3, .double x3)]) hx hb dX6_expectedIncome_115 hl (k := 3) rfl rfl (z_lt rfl) rfl (fun ls hl => ?_)
  refine lv_goto (tgt := 26) hx hb dX6_expectedIncome_118 (by decide) ?_
  exact hk26 _ _ _ _ _ hf _ _ _ hw (lv_sub hl [1, 2, 3, 0] rfl)
set_option maxHeartbeats 4000000 in
set_option maxRecDepth 100000 in
theorem w_X6_expectedIncome_113 {n : Nat} (E : zE p s m args meth c cX6_expectedIncome 7 (some .double) zwX6_expectedIncome RX6) {k26 : UInt64 → UInt64 → Int32 → (Nat → Int32) → Int32 → Option (UInt64 × Int32)} (hk26 : ∀ (x1 : UInt64) (x3 : UInt64) (x5 : Int32) (v_a : Nat → Int32) (v_thrown : Int32), k26 x1 x3 x5 v_a v_thrown = some res → ∀ (H : Heap) (locs : List Loc) (ls : Array Slot), zW D (zT cI cZ cM) A s [(a_this, .inr (6, [.ref a_a, .ref a_fresh, .ref a_kept, .int v_keptMany, .int v_thrown, .ref a_buffer, .int v_buffered, .int v_size, .int v_at, .int v_behind, .int v_kind, .int v_wrong, .int v_wrongAt, .int v_errorAt, .long v_number, .ref a_best, .ref a_rentBy, .ref a_bareBy, .ref a_aheadBy, .ref a_isEdge, .ref a_tried, .ref a_stands, .ref a_found, .ref a_foundOn, .ref a_moving, .int v_movingMany, .int v_foundIncome, .int v_foundMoves])), (a_a, .inl (cI, 180, .inl v_a))] H locs → lv_has ls 7 [(0, .ref a_this), (1, .double x1), (3, .double x3), (5, .int x5)] → W p l e rmX6_expectedIncome s m args below meth c H locs 0 0 (MQ below (zQd D (zT cI cZ cM) res.1 [(a_this, .inr (6, [.ref a_a, .ref a_fresh, .ref a_kept, .int v_keptMany, .int res.2, .ref a_buffer, .int v_buffered, .int v_size, .int v_at, .int v_behind, .int v_kind, .int v_wrong, .int v_wrongAt, .int v_errorAt, .long v_number, .ref a_best, .ref a_rentBy, .ref a_bareBy, .ref a_aheadBy, .ref a_isEdge, .ref a_tried, .ref a_stands, .ref a_found, .ref a_foundOn, .ref a_moving, .int v_movingMany, .int v_foundIncome, .int v_foundMoves])), (a_a, .inl (cI, 180, .inl v_a))] A) args s 0 0 A) (F0 m 26 ls [])) : ∀ (t0 : UInt64) (t1 : UInt64) (x1 : UInt64) (x5 : Int32) (v_a : Nat → Int32) (v_thrown : Int32), f_X6_expectedIncome_113 n k26 t0 t1 x1 x5 v_a v_thrown = some res → ∀ (H : Heap) (locs : List Loc) (ls : Array Slot), zW D (zT cI cZ cM) A s [(a_this, .inr (6, [.ref a_a, .ref a_fresh, .ref a_kept, .int v_keptMany, .int v_thrown, .ref a_buffer, .int v_buffered, .int v_size, .int v_at, .int v_behind, .int v_kind, .int v_wrong, .int v_wrongAt, .int v_errorAt, .long v_number, .ref a_best, .ref a_rentBy, .ref a_bareBy, .ref a_aheadBy, .ref a_isEdge, .ref a_tried, .ref a_stands, .ref a_found, .ref a_foundOn, .ref a_moving, .int v_movingMany, .int v_foundIncome, .int v_foundMoves])), (a_a, .inl (cI, 180, .inl v_a))] H locs → lv_has ls 7 [(0, .ref a_this), (1, .double x1), (5, .int x5)] → W p l e rmX6_expectedIncome s m args below meth c H locs 0 0 (MQ below (zQd D (zT cI cZ cM) res.1 [(a_this, .inr (6, [.ref a_a, .ref a_fresh, .ref a_kept, .int v_keptMany, .int res.2, .ref a_buffer, .int v_buffered, .int v_size, .int v_at, .int v_behind, .int v_kind, .int v_wrong, .int v_wrongAt, .int v_errorAt, .long v_number, .ref a_best, .ref a_rentBy, .ref a_bareBy, .ref a_aheadBy, .ref a_isEdge, .ref a_tried, .ref a_stands, .ref a_found, .ref a_foundOn, .ref a_moving, .int v_movingMany, .int v_foundIncome, .int v_foundMoves])), (a_a, .inl (cI, 180, .inl v_a))] A) args s 0 0 A) (F0 m 113 ls [.double t1, .double t0]) := by
  obtain ⟨⟨hx, hb, hml, hown, hts⟩, hr, hlocks⟩ := id E
  intro t0 t1 x1 x5 v_a v_thrown hf H locs ls hw hl
  unfold f_X6_expectedIncome_113 at hf
  obtain ⟨z_1, e_z_1, h_2, hf⟩ := oN_elim hf
  refine lv_dadd hx hb dX6_expectedIncome_113 h_2 ?_
  refine z_topd e_z_1 ?_
  refine lv_dstore_n (lv' := [(3, .double z_1), (0, .ref a_this), (1, .double x1), (5, .int x5)]) hx hb dX6_expectedIncome_114 rfl hl (z_lt rfl) rfl (fun ls hl => ?_)
  exact w_X6_expectedIncome_115 E hk26 _ _ _ _ _ hf _ _ _ hw (lv_sub hl [1, 2, 0, 3] rfl)
set_option maxHeartbeats 4000000 in
set_option maxRecDepth 100000 in
theorem w_X6_expectedIncome_26 {n : Nat} (E : zE p s m args meth c cX6_expectedIncome 7 (some .double) zwX6_expectedIncome RX6) : ∀ (fu : Nat), ∀ (x1 : UInt64) (x3 : UInt64) (x5 : Int32) (v_a : Nat → Int32) (v_thrown : Int32), f_X6_expectedIncome_26 n fu x1 x3 x5 v_a v_thrown = some res → ∀ (H : Heap) (locs : List Loc) (ls : Array Slot), zW D (zT cI cZ cM) A s [(a_this, .inr (6, [.ref a_a, .ref a_fresh, .ref a_kept, .int v_keptMany, .int v_thrown, .ref a_buffer, .int v_buffered, .int v_size, .int v_at, .int v_behind, .int v_kind, .int v_wrong, .int v_wrongAt, .int v_errorAt, .long v_number, .ref a_best, .ref a_rentBy, .ref a_bareBy, .ref a_aheadBy, .ref a_isEdge, .ref a_tried, .ref a_stands, .ref a_found, .ref a_foundOn, .ref a_moving, .int v_movingMany, .int v_foundIncome, .int v_foundMoves])), (a_a, .inl (cI, 180, .inl v_a))] H locs → lv_has ls 7 [(0, .ref a_this), (1, .double x1), (3, .double x3), (5, .int x5)] → W p l e rmX6_expectedIncome s m args below meth c H locs 0 0 (MQ below (zQd D (zT cI cZ cM) res.1 [(a_this, .inr (6, [.ref a_a, .ref a_fresh, .ref a_kept, .int v_keptMany, .int res.2, .ref a_buffer, .int v_buffered, .int v_size, .int v_at, .int v_behind, .int v_kind, .int v_wrong, .int v_wrongAt, .int v_errorAt, .long v_number, .ref a_best, .ref a_rentBy, .ref a_bareBy, .ref a_aheadBy, .ref a_isEdge, .ref a_tried, .ref a_stands, .ref a_found, .ref a_foundOn, .ref a_moving, .int v_movingMany, .int v_foundIncome, .int v_foundMoves])), (a_a, .inl (cI, 180, .inl v_a))] A) args s 0 0 A) (F0 m 26 ls []) := by
  obtain ⟨⟨hx, hb, hml, hown, hts⟩, hr, hlocks⟩ := id E
  intro fu
  induction fu with
  | zero => intro x1 x3 x5 v_a v_thrown hf; rw [f_X6_expectedIncome_26.eq_1] at hf; cases hf
  | succ fu ih =>
    intro x1 x3 x5 v_a v_thrown hf H locs ls hw hl
    rw [f_X6_expectedIncome_26.eq_2] at hf
    refine lv_iload hx hb dX6_expectedIncome_26 (lv_at hl 3 rfl) ?_
    refine lv_aload_n hx hb dX6_expectedIncome_28 rfl (lv_at hl 0 rfl) ?_
    refine z_get E.1 hw in_wsX60 0 rfl rfl 0 (z_lt rfl) mw_593 (v := .ref a_a) rfl dX6_expectedIncome_29 ?_
    refine lv_bipush (v := 74) hx hb dX6_expectedIncome_32 (by decide) ?_
    obtain ⟨h_3, hf⟩ := oA_elim hf
    refine z_iald E.1 hw 1 0 rfl rfl h_3 dX6_expectedIncome_34 ?_
    refine lv_icmp_ge (tgt := 121) hx hb dX6_expectedIncome_35 (by decide) (fun hc => ?_) (fun hc => ?_)
    · have hf := oI_pos hc hf
      exact w_X6_expectedIncome_121 E  _ _ hf _ _ _ hw (lv_sub hl [2] rfl)
    · have hf := oI_neg hc hf
      refine lv_aload_n hx hb dX6_expectedIncome_38 rfl (lv_at hl 0 rfl) ?_
      refine z_get E.1 hw in_wsX60 0 rfl rfl 4 (z_lt rfl) mw_594 (v := .int v_thrown) rfl dX6_expectedIncome_39 ?_
      refine lv_if_ne (tgt := 121) hx hb dX6_expectedIncome_42 (by decide) (fun hc => ?_) (fun hc => ?_)
      · have hf := oI_neg hc hf
        exact w_X6_expectedIncome_121 E  _ _ hf _ _ _ hw (lv_sub hl [2] rfl)
      · have hf := oI_pos hc hf
        refine lv_aload_n hx hb dX6_expectedIncome_45 rfl (lv_at hl 0 rfl) ?_
        refine z_get E.1 hw in_wsX60 0 rfl rfl 0 (z_lt rfl) mw_593 (v := .ref a_a) rfl dX6_expectedIncome_46 ?_
        refine lv_bipush (v := 107) hx hb dX6_expectedIncome_49 (by decide) ?_
        refine lv_iload hx hb dX6_expectedIncome_51 (lv_at hl 3 rfl) ?_
        refine lv_iadd hx hb dX6_expectedIncome_53 ?_
        obtain ⟨h_4, hf⟩ := oA_elim hf
        refine z_iald E.1 hw 1 0 rfl rfl h_4 dX6_expectedIncome_54 ?_
        refine lv_iconst (v := -1) hx hb dX6_expectedIncome_55 (by decide) ?_
        refine lv_icmp_ne (tgt := 62) hx hb dX6_expectedIncome_56 (by decide) (fun hc => ?_) (fun hc => ?_)
        · have hf := oI_neg hc hf
          refine lv_aload_n hx hb dX6_expectedIncome_62 rfl (lv_at hl 0 rfl) ?_
          refine lv_iload hx hb dX6_expectedIncome_63 (lv_at hl 3 rfl) ?_
          refine lv_aload_n hx hb dX6_expectedIncome_65 rfl (lv_at hl 0 rfl) ?_
          refine z_get E.1 hw in_wsX60 0 rfl rfl 0 (z_lt rfl) mw_593 (v := .ref a_a) rfl dX6_expectedIncome_66 ?_
          refine lv_bipush (v := 107) hx hb dX6_expectedIncome_69 (by decide) ?_
          refine lv_iload hx hb dX6_expectedIncome_71 (lv_at hl 3 rfl) ?_
          refine lv_iadd hx hb dX6_expectedIncome_73 ?_
          obtain ⟨h_5, hf⟩ := oA_elim hf
          refine z_iald E.1 hw 1 0 rfl rfl h_5 dX6_expectedIncome_74 ?_
          obtain ⟨r_6, h_7, hf⟩ := oB_elim hf
          refine z_callVi (ws' := [(a_this, .inr (6, [.ref a_a, .ref a_fresh, .ref a_kept, .int v_keptMany, .int v_thrown, .ref a_buffer, .int v_buffered, .int v_size, .int v_at, .int v_behind, .int v_kind, .int v_wrong, .int v_wrongAt, .int v_errorAt, .long v_number, .ref a_best, .ref a_rentBy, .ref a_bareBy, .ref a_aheadBy, .ref a_isEdge, .ref a_tried, .ref a_stands, .ref a_found, .ref a_foundOn, .ref a_moving, .int v_movingMany, .int v_foundIncome, .int v_foundMoves])), (a_a, .inl (cI, 180, .inl v_a))]) (wr := []) (As := [.int x5, .int (v_a (((107 : Int32) + x5)).toNatClampNeg)]) (rest := []) E.1 hl hw (c_X6_rentOf h_7) (cwV 2 hts (z_gV mw_644 mw_645 mw_646 mw_597 mw_647) rfl rfl rfl (by decide +kernel) ⟨(Nat.le_of_ble_eq_true rfl), (Nat.le_of_ble_eq_true rfl)⟩) 2 [(0, 2)] [] rfl rfl rfl rfl rfl rfl (by decide +kernel) rfl (q0 := 0) rfl rfl rfl (Nat.le_of_ble_eq_true rfl) dX6_expectedIncome_75 ⟨Nat.le_of_ble_eq_true rfl, Nat.le_of_ble_eq_true rfl⟩ (fun H locs hw => ?_)
          refine lv_istore (lv' := [(6, .int r_6), (0, .ref a_this), (1, .double x1), (3, .double x3), (5, .int x5)]) hx hb dX6_expectedIncome_78 hl (z_lt rfl) rfl (fun ls hl => ?_)
          refine lv_dload_n hx hb dX6_expectedIncome_80 rfl (lv_at hl 3 rfl) ?_
          refine lv_aload_n hx hb dX6_expectedIncome_81 rfl (lv_at hl 1 rfl) ?_
          refine lv_iload hx hb dX6_expectedIncome_82 (lv_at hl 4 rfl) ?_
          obtain ⟨r_8, h_9, hf⟩ := oB_elim hf
          refine z_callVi (ws' := [(a_this, .inr (6, [.ref a_a, .ref a_fresh, .ref a_kept, .int v_keptMany, .int v_thrown, .ref a_buffer, .int v_buffered, .int v_size, .int v_at, .int v_behind, .int v_kind, .int v_wrong, .int v_wrongAt, .int v_errorAt, .long v_number, .ref a_best, .ref a_rentBy, .ref a_bareBy, .ref a_aheadBy, .ref a_isEdge, .ref a_tried, .ref a_stands, .ref a_found, .ref a_foundOn, .ref a_moving, .int v_movingMany, .int v_foundIncome, .int v_foundMoves])), (a_a, .inl (cI, 180, .inl v_a))]) (wr := []) (As := [.int x5]) (rest := [.double x3]) E.1 hl hw (c_X6_isSheltered h_9) (cwV 1 hts (z_gV mw_765 mw_766 mw_767 mw_597 mw_768) rfl rfl rfl (by decide +kernel) ⟨(Nat.le_of_ble_eq_true rfl), (Nat.le_of_ble_eq_true rfl)⟩) 2 [(0, 2)] [] rfl rfl rfl rfl rfl rfl (by decide +kernel) rfl (q0 := 0) rfl rfl rfl (Nat.le_of_ble_eq_true rfl) dX6_expectedIncome_84 ⟨Nat.le_of_ble_eq_true rfl, Nat.le_of_ble_eq_true rfl⟩ (fun H locs hw => ?_)
          refine lv_if_eq (tgt := 96) hx hb dX6_expectedIncome_87 (by decide) (fun hc => ?_) (fun hc => ?_)
          · have hf := oI_pos hc hf
            refine lv_iload hx hb dX6_expectedIncome_96 (lv_at hl 0 rfl) ?_
            refine lv_i2d hx hb dX6_expectedIncome_98 ?_
            refine lv_dconst1 hx hb dX6_expectedIncome_99 ?_
            refine lv_dload_n hx hb dX6_expectedIncome_100 rfl (lv_at hl 2 rfl) ?_
            obtain ⟨z_10, e_z_10, h_11, hf⟩ := oN_elim hf
            refine lv_dsub hx hb dX6_expectedIncome_101 h_11 ?_
            refine z_topd e_z_10 ?_
            obtain ⟨z_12, e_z_12, h_13, hf⟩ := oN_elim hf
            refine lv_dmul hx hb dX6_expectedIncome_102 h_13 ?_
            refine z_topd e_z_12 ?_
            refine lv_iload hx hb dX6_expectedIncome_103 (lv_at hl 0 rfl) ?_
            refine lv_i2d hx hb dX6_expectedIncome_105 ?_
            refine lv_ldc2d (v := 4602678819172646912) hx hb hown (hts _ mw_764) dX6_expectedIncome_106 ?_
            obtain ⟨z_14, e_z_14, h_15, hf⟩ := oN_elim hf
            refine lv_dmul hx hb dX6_expectedIncome_109 h_15 ?_
            refine z_topd e_z_14 ?_
            refine lv_dload_n hx hb dX6_expectedIncome_110 rfl (lv_at hl 2 rfl) ?_
            obtain ⟨z_16, e_z_16, h_17, hf⟩ := oN_elim hf
            refine lv_dmul hx hb dX6_expectedIncome_111 h_17 ?_
            refine z_topd e_z_16 ?_
            obtain ⟨z_18, e_z_18, h_19, hf⟩ := oN_elim hf
            refine lv_dadd hx hb dX6_expectedIncome_112 h_19 ?_
            refine z_topd e_z_18 ?_
            exact w_X6_expectedIncome_113 E ih _ _ _ _ _ _ hf _ _ _ hw (lv_sub hl [1, 2, 4] rfl)
          · have hf := oI_neg hc hf
            refine lv_iload hx hb dX6_expectedIncome_90 (lv_at hl 0 rfl) ?_
            refine lv_i2d hx hb dX6_expectedIncome_92 ?_
            refine lv_goto (tgt := 113) hx hb dX6_expectedIncome_93 (by decide) ?_
            exact w_X6_expectedIncome_113 E ih _ _ _ _ _ _ hf _ _ _ hw (lv_sub hl [1, 2, 4] rfl)
        · have hf := oI_pos hc hf
          refine lv_goto (tgt := 115) hx hb dX6_expectedIncome_59 (by decide) ?_
          exact w_X6_expectedIncome_115 E ih _ _ _ _ _ hf _ _ _ hw (lv_sub hl [0, 1, 2, 3] rfl)
set_option maxHeartbeats 4000000 in
set_option maxRecDepth 100000 in
theorem w_X6_expectedIncome_18 {n : Nat} (E : zE p s m args meth c cX6_expectedIncome 7 (some .double) zwX6_expectedIncome RX6) : ∀ (t1 : Int32) (x1 : UInt64) (v_a : Nat → Int32) (v_thrown : Int32), f_X6_expectedIncome_18 n t1 x1 v_a v_thrown = some res → ∀ (H : Heap) (locs : List Loc) (ls : Array Slot), zW D (zT cI cZ cM) A s [(a_this, .inr (6, [.ref a_a, .ref a_fresh, .ref a_kept, .int v_keptMany, .int v_thrown, .ref a_buffer, .int v_buffered, .int v_size, .int v_at, .int v_behind, .int v_kind, .int v_wrong, .int v_wrongAt, .int v_errorAt, .long v_number, .ref a_best, .ref a_rentBy, .ref a_bareBy, .ref a_aheadBy, .ref a_isEdge, .ref a_tried, .ref a_stands, .ref a_found, .ref a_foundOn, .ref a_moving, .int v_movingMany, .int v_foundIncome, .int v_foundMoves])), (a_a, .inl (cI, 180, .inl v_a))] H locs → lv_has ls 7 [(0, .ref a_this), (1, .double x1)] → W p l e rmX6_expectedIncome s m args below meth c H locs 0 0 (MQ below (zQd D (zT cI cZ cM) res.1 [(a_this, .inr (6, [.ref a_a, .ref a_fresh, .ref a_kept, .int v_keptMany, .int res.2, .ref a_buffer, .int v_buffered, .int v_size, .int v_at, .int v_behind, .int v_kind, .int v_wrong, .int v_wrongAt, .int v_errorAt, .long v_number, .ref a_best, .ref a_rentBy, .ref a_bareBy, .ref a_aheadBy, .ref a_isEdge, .ref a_tried, .ref a_stands, .ref a_found, .ref a_foundOn, .ref a_moving, .int v_movingMany, .int v_foundIncome, .int v_foundMoves])), (a_a, .inl (cI, 180, .inl v_a))] A) args s 0 0 A) (F0 m 18 ls [.int t1, .ref a_this]) := by
  obtain ⟨⟨hx, hb, hml, hown, hts⟩, hr, hlocks⟩ := id E
  intro t1 x1 v_a v_thrown hf H locs ls hw hl
  unfold f_X6_expectedIncome_18 at hf
  refine z_put (ws' := [(a_this, .inr (6, [.ref a_a, .ref a_fresh, .ref a_kept, .int v_keptMany, .int t1, .ref a_buffer, .int v_buffered, .int v_size, .int v_at, .int v_behind, .int v_kind, .int v_wrong, .int v_wrongAt, .int v_errorAt, .long v_number, .ref a_best, .ref a_rentBy, .ref a_bareBy, .ref a_aheadBy, .ref a_isEdge, .ref a_tried, .ref a_stands, .ref a_found, .ref a_foundOn, .ref a_moving, .int v_movingMany, .int v_foundIncome, .int v_foundMoves])), (a_a, .inl (cI, 180, .inl v_a))]) E.1 hw in_wsX60 tyX6 tyX6_ok nmX6 0 rfl rfl 4 (z_lt rfl) mw_594 rfl rfl rfl (z_lt rfl) rfl dX6_expectedIncome_18 (fun H locs hw => ?_)
  refine lv_dconst0 hx hb dX6_expectedIncome_21 ?_
  refine lv_dstore_n (lv' := [(3, .double FP.dconst0), (0, .ref a_this), (1, .double x1)]) hx hb dX6_expectedIncome_22 rfl hl (z_lt rfl) rfl (fun ls hl => ?_)
  refine lv_iconst (v := 0) hx hb dX6_expectedIncome_23 (by decide) ?_
  refine lv_istore (lv' := [(5, .int (0 : Int32)), (3, .double FP.dconst0), (0, .ref a_this), (1, .double x1)]) hx hb dX6_expectedIncome_24 hl (z_lt rfl) rfl (fun ls hl => ?_)
  exact w_X6_expectedIncome_26 E  n _ _ _ _ _ hf _ _ _ hw (lv_sub hl [2, 3, 1, 0] rfl)
set_option maxHeartbeats 4000000 in
set_option maxRecDepth 100000 in
theorem w_X6_expectedIncome_17 {n : Nat} (E : zE p s m args meth c cX6_expectedIncome 7 (some .double) zwX6_expectedIncome RX6) : ∀ (x1 : UInt64) (v_a : Nat → Int32) (v_thrown : Int32), f_X6_expectedIncome_17 n x1 v_a v_thrown = some res → ∀ (H : Heap) (locs : List Loc) (ls : Array Slot), zW D (zT cI cZ cM) A s [(a_this, .inr (6, [.ref a_a, .ref a_fresh, .ref a_kept, .int v_keptMany, .int v_thrown, .ref a_buffer, .int v_buffered, .int v_size, .int v_at, .int v_behind, .int v_kind, .int v_wrong, .int v_wrongAt, .int v_errorAt, .long v_number, .ref a_best, .ref a_rentBy, .ref a_bareBy, .ref a_aheadBy, .ref a_isEdge, .ref a_tried, .ref a_stands, .ref a_found, .ref a_foundOn, .ref a_moving, .int v_movingMany, .int v_foundIncome, .int v_foundMoves])), (a_a, .inl (cI, 180, .inl v_a))] H locs → lv_has ls 7 [(0, .ref a_this), (1, .double x1)] → W p l e rmX6_expectedIncome s m args below meth c H locs 0 0 (MQ below (zQd D (zT cI cZ cM) res.1 [(a_this, .inr (6, [.ref a_a, .ref a_fresh, .ref a_kept, .int v_keptMany, .int res.2, .ref a_buffer, .int v_buffered, .int v_size, .int v_at, .int v_behind, .int v_kind, .int v_wrong, .int v_wrongAt, .int v_errorAt, .long v_number, .ref a_best, .ref a_rentBy, .ref a_bareBy, .ref a_aheadBy, .ref a_isEdge, .ref a_tried, .ref a_stands, .ref a_found, .ref a_foundOn, .ref a_moving, .int v_movingMany, .int v_foundIncome, .int v_foundMoves])), (a_a, .inl (cI, 180, .inl v_a))] A) args s 0 0 A) (F0 m 17 ls [.ref a_this]) := by
  obtain ⟨⟨hx, hb, hml, hown, hts⟩, hr, hlocks⟩ := id E
  intro x1 v_a v_thrown hf H locs ls hw hl
  unfold f_X6_expectedIncome_17 at hf
  refine lv_iconst (v := 1) hx hb dX6_expectedIncome_17 (by decide) ?_
  exact w_X6_expectedIncome_18 E  _ _ _ _ hf _ _ _ hw (lv_sub hl [0, 1] rfl)
set_option maxHeartbeats 4000000 in
set_option maxRecDepth 100000 in
theorem c_X6_expectedIncome {l : Launch} {D : va_G} {cI cZ cM : ClassId} {a_this a_a a_fresh a_kept a_buffer a_best a_rentBy a_bareBy a_aheadBy a_isEdge a_tried a_stands a_found a_foundOn a_moving : Nat} {v_keptMany : Int32} {v_buffered : Int32} {v_size : Int32} {v_at : Int32} {v_behind : Int32} {v_kind : Int32} {v_wrong : Int32} {v_wrongAt : Int32} {v_errorAt : Int32} {v_number : Int64} {v_movingMany : Int32} {v_foundIncome : Int32} {v_foundMoves : Int32} {res : UInt64 × Int32} {sz : Nat} {n : Nat} {v_a : Nat → Int32} {v_thrown : Int32} {x1 : UInt64} (hf : f_X6_expectedIncome n v_a v_thrown x1 = some res) : Met l yX6_expectedIncome zwX6_expectedIncome rmX6_expectedIncome (zPc D (zT cI cZ cM) [.ref a_this, .double x1] [(a_this, .inr (6, [.ref a_a, .ref a_fresh, .ref a_kept, .int v_keptMany, .int v_thrown, .ref a_buffer, .int v_buffered, .int v_size, .int v_at, .int v_behind, .int v_kind, .int v_wrong, .int v_wrongAt, .int v_errorAt, .long v_number, .ref a_best, .ref a_rentBy, .ref a_bareBy, .ref a_aheadBy, .ref a_isEdge, .ref a_tried, .ref a_stands, .ref a_found, .ref a_foundOn, .ref a_moving, .int v_movingMany, .int v_foundIncome, .int v_foundMoves])), (a_a, .inl (cI, 180, .inl v_a))] sz) (zQd D (zT cI cZ cM) res.1 [(a_this, .inr (6, [.ref a_a, .ref a_fresh, .ref a_kept, .int v_keptMany, .int res.2, .ref a_buffer, .int v_buffered, .int v_size, .int v_at, .int v_behind, .int v_kind, .int v_wrong, .int v_wrongAt, .int v_errorAt, .long v_number, .ref a_best, .ref a_rentBy, .ref a_bareBy, .ref a_aheadBy, .ref a_isEdge, .ref a_tried, .ref a_stands, .ref a_found, .ref a_foundOn, .ref a_moving, .int v_movingMany, .int v_foundIncome, .int v_foundMoves])), (a_a, .inl (cI, 180, .inl v_a))] (va_A [(a_this, .inr (6, [.ref a_a, .ref a_fresh, .ref a_kept, .int v_keptMany, .int v_thrown, .ref a_buffer, .int v_buffered, .int v_size, .int v_at, .int v_behind, .int v_kind, .int v_wrong, .int v_wrongAt, .int v_errorAt, .long v_number, .ref a_best, .ref a_rentBy, .ref a_bareBy, .ref a_aheadBy, .ref a_isEdge, .ref a_tried, .ref a_stands, .ref a_found, .ref a_foundOn, .ref a_moving, .int v_movingMany, .int v_foundIncome, .int v_foundMoves])), (a_a, .inl (cI, 180, .inl v_a))] sz)) 0 0 (va_A [(a_this, .inr (6, [.ref a_a, .ref a_fresh, .ref a_kept, .int v_keptMany, .int v_thrown, .ref a_buffer, .int v_buffered, .int v_size, .int v_at, .int v_behind, .int v_kind, .int v_wrong, .int v_wrongAt, .int v_errorAt, .long v_number, .ref a_best, .ref a_rentBy, .ref a_bareBy, .ref a_aheadBy, .ref a_isEdge, .ref a_tried, .ref a_stands, .ref a_found, .ref a_foundOn, .ref a_moving, .int v_movingMany, .int v_foundIncome, .int v_foundMoves])), (a_a, .inl (cI, 180, .inl v_a))] sz) := by
  refine z_met (cc := cX6_expectedIncome) (maxL := 7) (ret := (some .double)) (by decide) rfl (Nat.le_of_ble_eq_true rfl) ?_
  intro p e s m below meth c ls E hsz hw hl
  obtain ⟨⟨hx, hb, hml, hown, hts⟩, hr, hlocks⟩ := id E
  have hl : lv_has ls 7 [(0, .ref a_this), (1, .double x1)] := hl
  unfold f_X6_expectedIncome at hf
  refine lv_aload_n hx hb dX6_expectedIncome_0 rfl (lv_at hl 0 rfl) ?_
  refine lv_dload_n hx hb dX6_expectedIncome_1 rfl (lv_at hl 1 rfl) ?_
  refine lv_dconst0 hx hb dX6_expectedIncome_2 ?_
  refine lv_dcmp hx hb dX6_expectedIncome_3 ?_
  refine z_top (y := (dcL x1 FP.dconst0)) rfl ?_
  refine lv_if_lt (tgt := 17) hx hb dX6_expectedIncome_4 (by decide) (fun hc => ?_) (fun hc => ?_)
  · have hf := oI_pos hc hf
    exact w_X6_expectedIncome_17 E  _ _ _ hf _ _ _ hw (lv_sub hl [0, 1] rfl)
  · have hf := oI_neg hc hf
    refine lv_dload_n hx hb dX6_expectedIncome_7 rfl (lv_at hl 1 rfl) ?_
    refine lv_dconst1 hx hb dX6_expectedIncome_8 ?_
    refine lv_dcmp hx hb dX6_expectedIncome_9 ?_
    refine z_top (y := (dcG x1 FP.dconst1)) rfl ?_
    refine lv_if_gt (tgt := 17) hx hb dX6_expectedIncome_10 (by decide) (fun hc => ?_) (fun hc => ?_)
    · have hf := oI_pos hc hf
      exact w_X6_expectedIncome_17 E  _ _ _ hf _ _ _ hw (lv_sub hl [0, 1] rfl)
    · have hf := oI_neg hc hf
      refine lv_iconst (v := 0) hx hb dX6_expectedIncome_13 (by decide) ?_
      refine lv_goto (tgt := 18) hx hb dX6_expectedIncome_14 (by decide) ?_
      exact w_X6_expectedIncome_18 E  _ _ _ _ hf _ _ _ hw (lv_sub hl [0, 1] rfl)
end
/-! X6_fails -/
section
variable {p : Program} {l : Launch} {e : Env} {s : State} {m : MethodId} {args : Array Value} {below : List Frame} {meth : Method} {c : Code} {D : va_G} {A : Nat → Prop} {cI cZ cM : ClassId} {a_this a_a a_fresh a_kept a_buffer a_best a_rentBy a_bareBy a_aheadBy a_isEdge a_tried a_stands a_found a_foundOn a_moving : Nat} {v_keptMany : Int32} {v_thrown : Int32} {v_buffered : Int32} {v_size : Int32} {v_behind : Int32} {v_kind : Int32} {v_errorAt : Int32} {v_number : Int64} {v_movingMany : Int32} {v_foundIncome : Int32} {v_foundMoves : Int32} {res : Int32 × Int32}
def rmX6_fails : Room := { frames := 0, cells := 0, slots := 0, locals := 0 }
abbrev zwX6_fails : List Cond := Cond.code yX6_fails cX6_fails 2 none :: wsAll
set_option maxHeartbeats 4000000 in
set_option maxRecDepth 100000 in
theorem c_X6_fails {l : Launch} {D : va_G} {cI cZ cM : ClassId} {a_this a_a a_fresh a_kept a_buffer a_best a_rentBy a_bareBy a_aheadBy a_isEdge a_tried a_stands a_found a_foundOn a_moving : Nat} {v_keptMany : Int32} {v_thrown : Int32} {v_buffered : Int32} {v_size : Int32} {v_behind : Int32} {v_kind : Int32} {v_errorAt : Int32} {v_number : Int64} {v_movingMany : Int32} {v_foundIncome : Int32} {v_foundMoves : Int32} {res : Int32 × Int32} {sz : Nat} {v_at : Int32} {v_wrong : Int32} {v_wrongAt : Int32} {x1 : Int32} (hf : f_X6_fails v_at v_wrong v_wrongAt x1 = some res) : Met l yX6_fails zwX6_fails rmX6_fails (zPc D (zT cI cZ cM) [.ref a_this, .int x1] [(a_this, .inr (6, [.ref a_a, .ref a_fresh, .ref a_kept, .int v_keptMany, .int v_thrown, .ref a_buffer, .int v_buffered, .int v_size, .int v_at, .int v_behind, .int v_kind, .int v_wrong, .int v_wrongAt, .int v_errorAt, .long v_number, .ref a_best, .ref a_rentBy, .ref a_bareBy, .ref a_aheadBy, .ref a_isEdge, .ref a_tried, .ref a_stands, .ref a_found, .ref a_foundOn, .ref a_moving, .int v_movingMany, .int v_foundIncome, .int v_foundMoves]))] sz) (zQv D (zT cI cZ cM) [(a_this, .inr (6, [.ref a_a, .ref a_fresh, .ref a_kept, .int v_keptMany, .int v_thrown, .ref a_buffer, .int v_buffered, .int v_size, .int v_at, .int v_behind, .int v_kind, .int res.1, .int res.2, .int v_errorAt, .long v_number, .ref a_best, .ref a_rentBy, .ref a_bareBy, .ref a_aheadBy, .ref a_isEdge, .ref a_tried, .ref a_stands, .ref a_found, .ref a_foundOn, .ref a_moving, .int v_movingMany, .int v_foundIncome, .int v_foundMoves]))] (va_A [(a_this, .inr (6, [.ref a_a, .ref a_fresh, .ref a_kept, .int v_keptMany, .int v_thrown, .ref a_buffer, .int v_buffered, .int v_size, .int v_at, .int v_behind, .int v_kind, .int v_wrong, .int v_wrongAt, .int v_errorAt, .long v_number, .ref a_best, .ref a_rentBy, .ref a_bareBy, .ref a_aheadBy, .ref a_isEdge, .ref a_tried, .ref a_stands, .ref a_found, .ref a_foundOn, .ref a_moving, .int v_movingMany, .int v_foundIncome, .int v_foundMoves]))] sz)) 0 0 (va_A [(a_this, .inr (6, [.ref a_a, .ref a_fresh, .ref a_kept, .int v_keptMany, .int v_thrown, .ref a_buffer, .int v_buffered, .int v_size, .int v_at, .int v_behind, .int v_kind, .int v_wrong, .int v_wrongAt, .int v_errorAt, .long v_number, .ref a_best, .ref a_rentBy, .ref a_bareBy, .ref a_aheadBy, .ref a_isEdge, .ref a_tried, .ref a_stands, .ref a_found, .ref a_foundOn, .ref a_moving, .int v_movingMany, .int v_foundIncome, .int v_foundMoves]))] sz) := by
  refine z_met (cc := cX6_fails) (maxL := 2) (ret := none) (by decide) rfl (Nat.le_of_ble_eq_true rfl) ?_
  intro p e s m below meth c ls E hsz hw hl
  obtain ⟨⟨hx, hb, hml, hown, hts⟩, hr, hlocks⟩ := id E
  have hl : lv_has ls 2 [(0, .ref a_this), (1, .int x1)] := hl
  unfold f_X6_fails at hf
  refine lv_aload_n hx hb dX6_fails_0 rfl (lv_at hl 0 rfl) ?_
  refine z_get E.1 hw in_wsX60 0 rfl rfl 11 (z_lt rfl) mw_729 (v := .int v_wrong) rfl dX6_fails_1 ?_
  refine lv_if_eq (tgt := 8) hx hb dX6_fails_4 (by decide) (fun hc => ?_) (fun hc => ?_)
  · have hf := oI_pos hc hf
    refine lv_aload_n hx hb dX6_fails_8 rfl (lv_at hl 0 rfl) ?_
    refine lv_iload_n hx hb dX6_fails_9 rfl (lv_at hl 1 rfl) ?_
    refine z_put (ws' := [(a_this, .inr (6, [.ref a_a, .ref a_fresh, .ref a_kept, .int v_keptMany, .int v_thrown, .ref a_buffer, .int v_buffered, .int v_size, .int v_at, .int v_behind, .int v_kind, .int x1, .int v_wrongAt, .int v_errorAt, .long v_number, .ref a_best, .ref a_rentBy, .ref a_bareBy, .ref a_aheadBy, .ref a_isEdge, .ref a_tried, .ref a_stands, .ref a_found, .ref a_foundOn, .ref a_moving, .int v_movingMany, .int v_foundIncome, .int v_foundMoves]))]) E.1 hw in_wsX60 tyX6 tyX6_ok nmX6 0 rfl rfl 11 (z_lt rfl) mw_729 rfl rfl rfl (z_lt rfl) rfl dX6_fails_10 (fun H locs hw => ?_)
    refine lv_aload_n hx hb dX6_fails_13 rfl (lv_at hl 0 rfl) ?_
    refine lv_aload_n hx hb dX6_fails_14 rfl (lv_at hl 0 rfl) ?_
    refine z_get E.1 hw in_wsX60 0 rfl rfl 8 (z_lt rfl) mw_736 (v := .int v_at) rfl dX6_fails_15 ?_
    refine z_put (ws' := [(a_this, .inr (6, [.ref a_a, .ref a_fresh, .ref a_kept, .int v_keptMany, .int v_thrown, .ref a_buffer, .int v_buffered, .int v_size, .int v_at, .int v_behind, .int v_kind, .int x1, .int v_at, .int v_errorAt, .long v_number, .ref a_best, .ref a_rentBy, .ref a_bareBy, .ref a_aheadBy, .ref a_isEdge, .ref a_tried, .ref a_stands, .ref a_found, .ref a_foundOn, .ref a_moving, .int v_movingMany, .int v_foundIncome, .int v_foundMoves]))]) E.1 hw in_wsX60 tyX6 tyX6_ok nmX6 0 rfl rfl 12 (z_lt rfl) mw_770 rfl rfl rfl (z_lt rfl) rfl dX6_fails_18 (fun H locs hw => ?_)
    cases hf
    exact z_vret E rfl hw dX6_fails_21
  · have hf := oI_neg hc hf
    cases hf
    exact z_vret E rfl hw dX6_fails_7
end
/-! X6_incomeNow -/
section
variable {p : Program} {l : Launch} {e : Env} {s : State} {m : MethodId} {args : Array Value} {below : List Frame} {meth : Method} {c : Code} {D : va_G} {A : Nat → Prop} {cI cZ cM : ClassId} {a_this a_a a_fresh a_kept a_buffer a_best a_rentBy a_bareBy a_aheadBy a_isEdge a_tried a_stands a_found a_foundOn a_moving : Nat} {v_keptMany : Int32} {v_thrown : Int32} {v_buffered : Int32} {v_size : Int32} {v_at : Int32} {v_behind : Int32} {v_kind : Int32} {v_wrong : Int32} {v_wrongAt : Int32} {v_errorAt : Int32} {v_number : Int64} {v_movingMany : Int32} {v_foundIncome : Int32} {v_foundMoves : Int32} {res : Int32}
def rmX6_incomeNow : Room := { frames := 1, cells := 0, slots := 0, locals := 24 }
abbrev zwX6_incomeNow : List Cond := Cond.code yX6_incomeNow cX6_incomeNow 3 (some .int) :: wsAll
set_option maxHeartbeats 4000000 in
set_option maxRecDepth 100000 in
theorem w_X6_incomeNow_47 {n : Nat} (E : zE p s m args meth c cX6_incomeNow 3 (some .int) zwX6_incomeNow RX6) {k4 : Int32 → Int32 → (Nat → Int32) → Option (Int32)} (hk4 : ∀ (x1 : Int32) (x2 : Int32) (v_a : Nat → Int32), k4 x1 x2 v_a = some res → ∀ (H : Heap) (locs : List Loc) (ls : Array Slot), zW D (zT cI cZ cM) A s [(a_this, .inr (6, [.ref a_a, .ref a_fresh, .ref a_kept, .int v_keptMany, .int v_thrown, .ref a_buffer, .int v_buffered, .int v_size, .int v_at, .int v_behind, .int v_kind, .int v_wrong, .int v_wrongAt, .int v_errorAt, .long v_number, .ref a_best, .ref a_rentBy, .ref a_bareBy, .ref a_aheadBy, .ref a_isEdge, .ref a_tried, .ref a_stands, .ref a_found, .ref a_foundOn, .ref a_moving, .int v_movingMany, .int v_foundIncome, .int v_foundMoves])), (a_a, .inl (cI, 180, .inl v_a))] H locs → lv_has ls 3 [(0, .ref a_this), (1, .int x1), (2, .int x2)] → W p l e rmX6_incomeNow s m args below meth c H locs 0 0 (MQ below (zQi D (zT cI cZ cM) res [(a_this, .inr (6, [.ref a_a, .ref a_fresh, .ref a_kept, .int v_keptMany, .int v_thrown, .ref a_buffer, .int v_buffered, .int v_size, .int v_at, .int v_behind, .int v_kind, .int v_wrong, .int v_wrongAt, .int v_errorAt, .long v_number, .ref a_best, .ref a_rentBy, .ref a_bareBy, .ref a_aheadBy, .ref a_isEdge, .ref a_tried, .ref a_stands, .ref a_found, .ref a_foundOn, .ref a_moving, .int v_movingMany, .int v_foundIncome, .int v_foundMoves])), (a_a, .inl (cI, 180, .inl v_a))] A) args s 0 0 A) (F0 m 4 ls [])) : ∀ (t0 : Int32) (t1 : Int32) (x2 : Int32) (v_a : Nat → Int32), f_X6_incomeNow_47 n k4 t0 t1 x2 v_a = some res → ∀ (H : Heap) (locs : List Loc) (ls : Array Slot), zW D (zT cI cZ cM) A s [(a_this, .inr (6, [.ref a_a, .ref a_fresh, .ref a_kept, .int v_keptMany, .int v_thrown, .ref a_buffer, .int v_buffered, .int v_size, .int v_at, .int v_behind, .int v_kind, .int v_wrong, .int v_wrongAt, .int v_errorAt, .long v_number, .ref a_best, .ref a_rentBy, .ref a_bareBy, .ref a_aheadBy, .ref a_isEdge, .ref a_tried, .ref a_stands, .ref a_found, .ref a_foundOn, .ref a_moving, .int v_movingMany, .int v_foundIncome, .int v_foundMoves])), (a_a, .inl (cI, 180, .inl v_a))] H locs → lv_has ls 3 [(0, .ref a_this), (2, .int x2)] → W p l e rmX6_incomeNow s m args below meth c H locs 0 0 (MQ below (zQi D (zT cI cZ cM) res [(a_this, .inr (6, [.ref a_a, .ref a_fresh, .ref a_kept, .int v_keptMany, .int v_thrown, .ref a_buffer, .int v_buffered, .int v_size, .int v_at, .int v_behind, .int v_kind, .int v_wrong, .int v_wrongAt, .int v_errorAt, .long v_number, .ref a_best, .ref a_rentBy, .ref a_bareBy, .ref a_aheadBy, .ref a_isEdge, .ref a_tried, .ref a_stands, .ref a_found, .ref a_foundOn, .ref a_moving, .int v_movingMany, .int v_foundIncome, .int v_foundMoves])), (a_a, .inl (cI, 180, .inl v_a))] A) args s 0 0 A) (F0 m 47 ls [.int t1, .int t0]) := by
  obtain ⟨⟨hx, hb, hml, hown, hts⟩, hr, hlocks⟩ := id E
  intro t0 t1 x2 v_a hf H locs ls hw hl
  unfold f_X6_incomeNow_47 at hf
  refine lv_iadd hx hb dX6_incomeNow_47 ?_
  obtain ⟨y_1, e_y_1, hf⟩ := oL_elim hf
  refine z_top e_y_1 ?_
  refine lv_istore_n (lv' := [(1, .int y_1), (0, .ref a_this), (2, .int x2)]) hx hb dX6_incomeNow_48 rfl hl (z_lt rfl) rfl (fun ls hl => ?_)
  refine lv_iinc (v := (x2 + (1 : Int32))) (lv' := [(2, .int (x2 + (1 : Int32))), (1, .int y_1), (0, .ref a_this)]) hx hb dX6_incomeNow_49 hl (k := 2) rfl rfl (z_lt rfl) rfl (fun ls hl => ?_)
  refine lv_goto (tgt := 4) hx hb dX6_incomeNow_52 (by decide) ?_
  exact hk4 _ _ _ hf _ _ _ hw (lv_sub hl [2, 1, 0] rfl)
set_option maxHeartbeats 4000000 in
set_option maxRecDepth 100000 in
theorem w_X6_incomeNow_4 {n : Nat} (E : zE p s m args meth c cX6_incomeNow 3 (some .int) zwX6_incomeNow RX6) : ∀ (fu : Nat), ∀ (x1 : Int32) (x2 : Int32) (v_a : Nat → Int32), f_X6_incomeNow_4 n fu x1 x2 v_a = some res → ∀ (H : Heap) (locs : List Loc) (ls : Array Slot), zW D (zT cI cZ cM) A s [(a_this, .inr (6, [.ref a_a, .ref a_fresh, .ref a_kept, .int v_keptMany, .int v_thrown, .ref a_buffer, .int v_buffered, .int v_size, .int v_at, .int v_behind, .int v_kind, .int v_wrong, .int v_wrongAt, .int v_errorAt, .long v_number, .ref a_best, .ref a_rentBy, .ref a_bareBy, .ref a_aheadBy, .ref a_isEdge, .ref a_tried, .ref a_stands, .ref a_found, .ref a_foundOn, .ref a_moving, .int v_movingMany, .int v_foundIncome, .int v_foundMoves])), (a_a, .inl (cI, 180, .inl v_a))] H locs → lv_has ls 3 [(0, .ref a_this), (1, .int x1), (2, .int x2)] → W p l e rmX6_incomeNow s m args below meth c H locs 0 0 (MQ below (zQi D (zT cI cZ cM) res [(a_this, .inr (6, [.ref a_a, .ref a_fresh, .ref a_kept, .int v_keptMany, .int v_thrown, .ref a_buffer, .int v_buffered, .int v_size, .int v_at, .int v_behind, .int v_kind, .int v_wrong, .int v_wrongAt, .int v_errorAt, .long v_number, .ref a_best, .ref a_rentBy, .ref a_bareBy, .ref a_aheadBy, .ref a_isEdge, .ref a_tried, .ref a_stands, .ref a_found, .ref a_foundOn, .ref a_moving, .int v_movingMany, .int v_foundIncome, .int v_foundMoves])), (a_a, .inl (cI, 180, .inl v_a))] A) args s 0 0 A) (F0 m 4 ls []) := by
  obtain ⟨⟨hx, hb, hml, hown, hts⟩, hr, hlocks⟩ := id E
  intro fu
  induction fu with
  | zero => intro x1 x2 v_a hf; rw [f_X6_incomeNow_4.eq_1] at hf; cases hf
  | succ fu ih =>
    intro x1 x2 v_a hf H locs ls hw hl
    rw [f_X6_incomeNow_4.eq_2] at hf
    refine lv_iload_n hx hb dX6_incomeNow_4 rfl (lv_at hl 2 rfl) ?_
    refine lv_aload_n hx hb dX6_incomeNow_5 rfl (lv_at hl 0 rfl) ?_
    refine z_get E.1 hw in_wsX60 0 rfl rfl 0 (z_lt rfl) mw_593 (v := .ref a_a) rfl dX6_incomeNow_6 ?_
    refine lv_bipush (v := 74) hx hb dX6_incomeNow_9 (by decide) ?_
    obtain ⟨h_2, hf⟩ := oA_elim hf
    refine z_iald E.1 hw 1 0 rfl rfl h_2 dX6_incomeNow_11 ?_
    refine lv_icmp_ge (tgt := 55) hx hb dX6_incomeNow_12 (by decide) (fun hc => ?_) (fun hc => ?_)
    · have hf := oI_pos hc hf
      refine lv_iload_n hx hb dX6_incomeNow_55 rfl (lv_at hl 1 rfl) ?_
      cases hf
      exact z_iret E rfl hw dX6_incomeNow_56
    · have hf := oI_neg hc hf
      refine lv_iload_n hx hb dX6_incomeNow_15 rfl (lv_at hl 1 rfl) ?_
      refine lv_aload_n hx hb dX6_incomeNow_16 rfl (lv_at hl 0 rfl) ?_
      refine z_get E.1 hw in_wsX60 0 rfl rfl 0 (z_lt rfl) mw_593 (v := .ref a_a) rfl dX6_incomeNow_17 ?_
      refine lv_bipush (v := 107) hx hb dX6_incomeNow_20 (by decide) ?_
      refine lv_iload_n hx hb dX6_incomeNow_22 rfl (lv_at hl 2 rfl) ?_
      refine lv_iadd hx hb dX6_incomeNow_23 ?_
      obtain ⟨h_3, hf⟩ := oA_elim hf
      refine z_iald E.1 hw 1 0 rfl rfl h_3 dX6_incomeNow_24 ?_
      refine lv_iconst (v := -1) hx hb dX6_incomeNow_25 (by decide) ?_
      refine lv_icmp_ne (tgt := 33) hx hb dX6_incomeNow_26 (by decide) (fun hc => ?_) (fun hc => ?_)
      · have hf := oI_neg hc hf
        refine lv_aload_n hx hb dX6_incomeNow_33 rfl (lv_at hl 0 rfl) ?_
        refine lv_iload_n hx hb dX6_incomeNow_34 rfl (lv_at hl 2 rfl) ?_
        refine lv_aload_n hx hb dX6_incomeNow_35 rfl (lv_at hl 0 rfl) ?_
        refine z_get E.1 hw in_wsX60 0 rfl rfl 0 (z_lt rfl) mw_593 (v := .ref a_a) rfl dX6_incomeNow_36 ?_
        refine lv_bipush (v := 107) hx hb dX6_incomeNow_39 (by decide) ?_
        refine lv_iload_n hx hb dX6_incomeNow_41 rfl (lv_at hl 2 rfl) ?_
        refine lv_iadd hx hb dX6_incomeNow_42 ?_
        obtain ⟨h_4, hf⟩ := oA_elim hf
        refine z_iald E.1 hw 1 0 rfl rfl h_4 dX6_incomeNow_43 ?_
        obtain ⟨r_5, h_6, hf⟩ := oB_elim hf
        refine z_callVi (ws' := [(a_this, .inr (6, [.ref a_a, .ref a_fresh, .ref a_kept, .int v_keptMany, .int v_thrown, .ref a_buffer, .int v_buffered, .int v_size, .int v_at, .int v_behind, .int v_kind, .int v_wrong, .int v_wrongAt, .int v_errorAt, .long v_number, .ref a_best, .ref a_rentBy, .ref a_bareBy, .ref a_aheadBy, .ref a_isEdge, .ref a_tried, .ref a_stands, .ref a_found, .ref a_foundOn, .ref a_moving, .int v_movingMany, .int v_foundIncome, .int v_foundMoves])), (a_a, .inl (cI, 180, .inl v_a))]) (wr := []) (As := [.int x2, .int (v_a (((107 : Int32) + x2)).toNatClampNeg)]) (rest := [.int x1]) E.1 hl hw (c_X6_rentOf h_6) (cwV 2 hts (z_gV mw_644 mw_645 mw_646 mw_597 mw_647) rfl rfl rfl (by decide +kernel) ⟨(Nat.le_of_ble_eq_true rfl), (Nat.le_of_ble_eq_true rfl)⟩) 2 [(0, 2)] [] rfl rfl rfl rfl rfl rfl (by decide +kernel) rfl (q0 := 0) rfl rfl rfl (Nat.le_of_ble_eq_true rfl) dX6_incomeNow_44 ⟨Nat.le_of_ble_eq_true rfl, Nat.le_of_ble_eq_true rfl⟩ (fun H locs hw => ?_)
        exact w_X6_incomeNow_47 E ih _ _ _ _ hf _ _ _ hw (lv_sub hl [0, 2] rfl)
      · have hf := oI_pos hc hf
        refine lv_iconst (v := 0) hx hb dX6_incomeNow_29 (by decide) ?_
        refine lv_goto (tgt := 47) hx hb dX6_incomeNow_30 (by decide) ?_
        exact w_X6_incomeNow_47 E ih _ _ _ _ hf _ _ _ hw (lv_sub hl [0, 2] rfl)
set_option maxHeartbeats 4000000 in
set_option maxRecDepth 100000 in
theorem c_X6_incomeNow {l : Launch} {D : va_G} {cI cZ cM : ClassId} {a_this a_a a_fresh a_kept a_buffer a_best a_rentBy a_bareBy a_aheadBy a_isEdge a_tried a_stands a_found a_foundOn a_moving : Nat} {v_keptMany : Int32} {v_thrown : Int32} {v_buffered : Int32} {v_size : Int32} {v_at : Int32} {v_behind : Int32} {v_kind : Int32} {v_wrong : Int32} {v_wrongAt : Int32} {v_errorAt : Int32} {v_number : Int64} {v_movingMany : Int32} {v_foundIncome : Int32} {v_foundMoves : Int32} {res : Int32} {sz : Nat} {n : Nat} {v_a : Nat → Int32} (hf : f_X6_incomeNow n v_a = some res) : Met l yX6_incomeNow zwX6_incomeNow rmX6_incomeNow (zPc D (zT cI cZ cM) [.ref a_this] [(a_this, .inr (6, [.ref a_a, .ref a_fresh, .ref a_kept, .int v_keptMany, .int v_thrown, .ref a_buffer, .int v_buffered, .int v_size, .int v_at, .int v_behind, .int v_kind, .int v_wrong, .int v_wrongAt, .int v_errorAt, .long v_number, .ref a_best, .ref a_rentBy, .ref a_bareBy, .ref a_aheadBy, .ref a_isEdge, .ref a_tried, .ref a_stands, .ref a_found, .ref a_foundOn, .ref a_moving, .int v_movingMany, .int v_foundIncome, .int v_foundMoves])), (a_a, .inl (cI, 180, .inl v_a))] sz) (zQi D (zT cI cZ cM) res [(a_this, .inr (6, [.ref a_a, .ref a_fresh, .ref a_kept, .int v_keptMany, .int v_thrown, .ref a_buffer, .int v_buffered, .int v_size, .int v_at, .int v_behind, .int v_kind, .int v_wrong, .int v_wrongAt, .int v_errorAt, .long v_number, .ref a_best, .ref a_rentBy, .ref a_bareBy, .ref a_aheadBy, .ref a_isEdge, .ref a_tried, .ref a_stands, .ref a_found, .ref a_foundOn, .ref a_moving, .int v_movingMany, .int v_foundIncome, .int v_foundMoves])), (a_a, .inl (cI, 180, .inl v_a))] (va_A [(a_this, .inr (6, [.ref a_a, .ref a_fresh, .ref a_kept, .int v_keptMany, .int v_thrown, .ref a_buffer, .int v_buffered, .int v_size, .int v_at, .int v_behind, .int v_kind, .int v_wrong, .int v_wrongAt, .int v_errorAt, .long v_number, .ref a_best, .ref a_rentBy, .ref a_bareBy, .ref a_aheadBy, .ref a_isEdge, .ref a_tried, .ref a_stands, .ref a_found, .ref a_foundOn, .ref a_moving, .int v_movingMany, .int v_foundIncome, .int v_foundMoves])), (a_a, .inl (cI, 180, .inl v_a))] sz)) 0 0 (va_A [(a_this, .inr (6, [.ref a_a, .ref a_fresh, .ref a_kept, .int v_keptMany, .int v_thrown, .ref a_buffer, .int v_buffered, .int v_size, .int v_at, .int v_behind, .int v_kind, .int v_wrong, .int v_wrongAt, .int v_errorAt, .long v_number, .ref a_best, .ref a_rentBy, .ref a_bareBy, .ref a_aheadBy, .ref a_isEdge, .ref a_tried, .ref a_stands, .ref a_found, .ref a_foundOn, .ref a_moving, .int v_movingMany, .int v_foundIncome, .int v_foundMoves])), (a_a, .inl (cI, 180, .inl v_a))] sz) := by
  refine z_met (cc := cX6_incomeNow) (maxL := 3) (ret := (some .int)) (by decide) rfl (Nat.le_of_ble_eq_true rfl) ?_
  intro p e s m below meth c ls E hsz hw hl
  obtain ⟨⟨hx, hb, hml, hown, hts⟩, hr, hlocks⟩ := id E
  have hl : lv_has ls 3 [(0, .ref a_this)] := hl
  unfold f_X6_incomeNow at hf
  refine lv_iconst (v := 0) hx hb dX6_incomeNow_0 (by decide) ?_
  refine lv_istore_n (lv' := [(1, .int (0 : Int32)), (0, .ref a_this)]) hx hb dX6_incomeNow_1 rfl hl (z_lt rfl) rfl (fun ls hl => ?_)
  refine lv_iconst (v := 0) hx hb dX6_incomeNow_2 (by decide) ?_
  refine lv_istore_n (lv' := [(2, .int (0 : Int32)), (1, .int (0 : Int32)), (0, .ref a_this)]) hx hb dX6_incomeNow_3 rfl hl (z_lt rfl) rfl (fun ls hl => ?_)
  exact w_X6_incomeNow_4 E  n _ _ _ hf _ _ _ hw (lv_sub hl [2, 1, 0] rfl)
end
