/-! X4_fail -/
section
variable {p : Program} {l : Launch} {e : Env} {s : State} {m : MethodId} {args : Array Value} {below : List Frame} {meth : Method} {c : Code} {D : va_G} {A : Nat → Prop} {cI cZ cM : ClassId} {a_this a_text : Nat} {v_length : Int32} {v_position : Int32} {v_rowsRead : Int32} {w_error : Int32} {w_errorAt : Int32}
def rmX4_fail : Room := { frames := 0, cells := 0, slots := 0, locals := 0 }
abbrev zwX4_fail : List Cond := Cond.code yX4_fail cX4_fail 3 none :: wsAll
set_option maxHeartbeats 4000000 in
set_option maxRecDepth 100000 in
theorem c_X4_fail {l : Launch} {D : va_G} {cI cZ cM : ClassId} {a_this a_text : Nat} {v_length : Int32} {v_position : Int32} {v_rowsRead : Int32} {w_error : Int32} {w_errorAt : Int32} {sz : Nat} {v_error : Int32} {v_errorAt : Int32} {x1 : Int32} {x2 : Int32} (hf : f_X4_fail v_error v_errorAt x1 x2 = some (w_error, w_errorAt)) : Met l yX4_fail zwX4_fail rmX4_fail (zPc D (zT cI cZ cM) [.ref a_this, .int x1, .int x2] [(a_this, .inr (4, [.ref a_text, .int v_length, .int v_position, .int v_rowsRead, .int v_error, .int v_errorAt]))] sz) (zQv D (zT cI cZ cM) [(a_this, .inr (4, [.ref a_text, .int v_length, .int v_position, .int v_rowsRead, .int w_error, .int w_errorAt]))] (va_A [(a_this, .inr (4, [.ref a_text, .int v_length, .int v_position, .int v_rowsRead, .int v_error, .int v_errorAt]))] sz)) 0 0 (va_A [(a_this, .inr (4, [.ref a_text, .int v_length, .int v_position, .int v_rowsRead, .int v_error, .int v_errorAt]))] sz) := by
  refine z_met (cc := cX4_fail) (maxL := 3) (ret := none) (by decide) rfl (Nat.le_of_ble_eq_true rfl) ?_
  intro p e s m below meth c ls E hsz hw hl
  obtain ⟨⟨hx, hb, hml, hown, hts⟩, hr, hlocks⟩ := id E
  have hl : lv_has ls 3 [(0, .ref a_this), (1, .int x1), (2, .int x2)] := hl
  unfold f_X4_fail at hf
  refine lv_aload_n hx hb dX4_fail_0 rfl (lv_at hl 0 rfl) ?_
  refine z_get E.1 hw in_wsX40 0 rfl rfl 4 (z_lt rfl) mw_273 (v := .int v_error) rfl dX4_fail_1 ?_
  refine lv_if_ne (tgt := 17) hx hb dX4_fail_4 (by decide) (fun hc => ?_) (fun hc => ?_)
  · have hf := oI_neg hc hf
    obtain ⟨rfl, rfl⟩ := oR2 hf
    exact z_vret E rfl hw dX4_fail_17
  · have hf := oI_pos hc hf
    refine lv_aload_n hx hb dX4_fail_7 rfl (lv_at hl 0 rfl) ?_
    refine lv_iload_n hx hb dX4_fail_8 rfl (lv_at hl 1 rfl) ?_
    refine z_put (ws' := [(a_this, .inr (4, [.ref a_text, .int v_length, .int v_position, .int v_rowsRead, .int x1, .int v_errorAt]))]) E.1 hw in_wsX40 tyX4 tyX4_ok nmX4 0 rfl rfl 4 (z_lt rfl) mw_273 rfl rfl rfl (z_lt rfl) rfl dX4_fail_9 (fun H locs hw => ?_)
    refine lv_aload_n hx hb dX4_fail_12 rfl (lv_at hl 0 rfl) ?_
    refine lv_iload_n hx hb dX4_fail_13 rfl (lv_at hl 2 rfl) ?_
    refine z_put (ws' := [(a_this, .inr (4, [.ref a_text, .int v_length, .int v_position, .int v_rowsRead, .int x1, .int x2]))]) E.1 hw in_wsX40 tyX4 tyX4_ok nmX4 0 rfl rfl 5 (z_lt rfl) mw_274 rfl rfl rfl (z_lt rfl) rfl dX4_fail_14 (fun H locs hw => ?_)
    obtain ⟨rfl, rfl⟩ := oR2 hf
    exact z_vret E rfl hw dX4_fail_17
end
/-! X4_skipSpaces -/
section
variable {p : Program} {l : Launch} {e : Env} {s : State} {m : MethodId} {args : Array Value} {below : List Frame} {meth : Method} {c : Code} {D : va_G} {A : Nat → Prop} {cI cZ cM : ClassId} {a_this a_text : Nat} {v_rowsRead : Int32} {v_error : Int32} {v_errorAt : Int32} {w_position : Int32}
def rmX4_skipSpaces : Room := { frames := 0, cells := 0, slots := 0, locals := 0 }
abbrev zwX4_skipSpaces : List Cond := Cond.code yX4_skipSpaces cX4_skipSpaces 1 none :: wsAll
set_option maxHeartbeats 4000000 in
set_option maxRecDepth 100000 in
theorem w_X4_skipSpaces_0 {n : Nat} (E : zE p s m args meth c cX4_skipSpaces 1 none zwX4_skipSpaces RX4) : ∀ (fu : Nat), ∀ (v_text : Nat → Int32) (v_length : Int32) (v_position : Int32), f_X4_skipSpaces_0 n fu v_text v_length v_position = some w_position → ∀ (H : Heap) (locs : List Loc) (ls : Array Slot), zW D (zT cI cZ cM) A s [(a_this, .inr (4, [.ref a_text, .int v_length, .int v_position, .int v_rowsRead, .int v_error, .int v_errorAt])), (a_text, .inl (cI, 600, .inl v_text))] H locs → lv_has ls 1 [(0, .ref a_this)] → W p l e rmX4_skipSpaces s m args below meth c H locs 0 0 (MQ below (zQv D (zT cI cZ cM) [(a_this, .inr (4, [.ref a_text, .int v_length, .int w_position, .int v_rowsRead, .int v_error, .int v_errorAt])), (a_text, .inl (cI, 600, .inl v_text))] A) args s 0 0 A) (F0 m 0 ls []) := by
  obtain ⟨⟨hx, hb, hml, hown, hts⟩, hr, hlocks⟩ := id E
  intro fu
  induction fu with
  | zero => intro v_text v_length v_position hf; rw [f_X4_skipSpaces_0.eq_1] at hf; cases hf
  | succ fu ih =>
    intro v_text v_length v_position hf H locs ls hw hl
    rw [f_X4_skipSpaces_0.eq_2] at hf
    refine lv_aload_n hx hb dX4_skipSpaces_0 rfl (lv_at hl 0 rfl) ?_
    refine z_get E.1 hw in_wsX40 0 rfl rfl 2 (z_lt rfl) mw_279 (v := .int v_position) rfl dX4_skipSpaces_1 ?_
    refine lv_aload_n hx hb dX4_skipSpaces_4 rfl (lv_at hl 0 rfl) ?_
    refine z_get E.1 hw in_wsX40 0 rfl rfl 1 (z_lt rfl) mw_278 (v := .int v_length) rfl dX4_skipSpaces_5 ?_
    refine lv_icmp_ge (tgt := 38) hx hb dX4_skipSpaces_8 (by decide) (fun hc => ?_) (fun hc => ?_)
    · have hf := oI_pos hc hf
      cases hf
      exact z_vret E rfl hw dX4_skipSpaces_38
    · have hf := oI_neg hc hf
      refine lv_aload_n hx hb dX4_skipSpaces_11 rfl (lv_at hl 0 rfl) ?_
      refine z_get E.1 hw in_wsX40 0 rfl rfl 0 (z_lt rfl) mw_277 (v := .ref a_text) rfl dX4_skipSpaces_12 ?_
      refine lv_aload_n hx hb dX4_skipSpaces_15 rfl (lv_at hl 0 rfl) ?_
      refine z_get E.1 hw in_wsX40 0 rfl rfl 2 (z_lt rfl) mw_279 (v := .int v_position) rfl dX4_skipSpaces_16 ?_
      obtain ⟨h_1, hf⟩ := oA_elim hf
      refine z_iald E.1 hw 1 0 rfl rfl h_1 dX4_skipSpaces_19 ?_
      refine lv_bipush (v := 32) hx hb dX4_skipSpaces_20 (by decide) ?_
      refine lv_icmp_ne (tgt := 38) hx hb dX4_skipSpaces_22 (by decide) (fun hc => ?_) (fun hc => ?_)
      · have hf := oI_neg hc hf
        cases hf
        exact z_vret E rfl hw dX4_skipSpaces_38
      · have hf := oI_pos hc hf
        refine lv_aload_n hx hb dX4_skipSpaces_25 rfl (lv_at hl 0 rfl) ?_
        refine lv_dup hx hb dX4_skipSpaces_26 rfl ?_
        refine z_get E.1 hw in_wsX40 0 rfl rfl 2 (z_lt rfl) mw_279 (v := .int v_position) rfl dX4_skipSpaces_27 ?_
        refine lv_iconst (v := 1) hx hb dX4_skipSpaces_30 (by decide) ?_
        refine lv_iadd hx hb dX4_skipSpaces_31 ?_
        obtain ⟨y_2, e_y_2, hf⟩ := oL_elim hf
        refine z_top e_y_2 ?_
        refine z_put (ws' := [(a_this, .inr (4, [.ref a_text, .int v_length, .int y_2, .int v_rowsRead, .int v_error, .int v_errorAt])), (a_text, .inl (cI, 600, .inl v_text))]) E.1 hw in_wsX40 tyX4 tyX4_ok nmX4 0 rfl rfl 2 (z_lt rfl) mw_279 rfl rfl rfl (z_lt rfl) rfl dX4_skipSpaces_32 (fun H locs hw => ?_)
        refine lv_goto (tgt := 0) hx hb dX4_skipSpaces_35 (by decide) ?_
        exact ih _ _ _ hf _ _ _ hw (lv_sub hl [0] rfl)
set_option maxHeartbeats 4000000 in
set_option maxRecDepth 100000 in
theorem c_X4_skipSpaces {l : Launch} {D : va_G} {cI cZ cM : ClassId} {a_this a_text : Nat} {v_rowsRead : Int32} {v_error : Int32} {v_errorAt : Int32} {w_position : Int32} {sz : Nat} {n : Nat} {v_text : Nat → Int32} {v_length : Int32} {v_position : Int32} (hf : f_X4_skipSpaces n v_text v_length v_position = some w_position) : Met l yX4_skipSpaces zwX4_skipSpaces rmX4_skipSpaces (zPc D (zT cI cZ cM) [.ref a_this] [(a_this, .inr (4, [.ref a_text, .int v_length, .int v_position, .int v_rowsRead, .int v_error, .int v_errorAt])), (a_text, .inl (cI, 600, .inl v_text))] sz) (zQv D (zT cI cZ cM) [(a_this, .inr (4, [.ref a_text, .int v_length, .int w_position, .int v_rowsRead, .int v_error, .int v_errorAt])), (a_text, .inl (cI, 600, .inl v_text))] (va_A [(a_this, .inr (4, [.ref a_text, .int v_length, .int v_position, .int v_rowsRead, .int v_error, .int v_errorAt])), (a_text, .inl (cI, 600, .inl v_text))] sz)) 0 0 (va_A [(a_this, .inr (4, [.ref a_text, .int v_length, .int v_position, .int v_rowsRead, .int v_error, .int v_errorAt])), (a_text, .inl (cI, 600, .inl v_text))] sz) := by
  refine z_met (cc := cX4_skipSpaces) (maxL := 1) (ret := none) (by decide) rfl (Nat.le_of_ble_eq_true rfl) ?_
  intro p e s m below meth c ls E hsz hw hl
  obtain ⟨⟨hx, hb, hml, hown, hts⟩, hr, hlocks⟩ := id E
  have hl : lv_has ls 1 [(0, .ref a_this)] := hl
  unfold f_X4_skipSpaces at hf
  exact w_X4_skipSpaces_0 E  n _ _ _ hf _ _ _ hw (lv_sub hl [0] rfl)
end
/-! X4_isDigit -/
section
variable {p : Program} {l : Launch} {e : Env} {s : State} {m : MethodId} {args : Array Value} {below : List Frame} {meth : Method} {c : Code} {D : va_G} {A : Nat → Prop} {cI cZ cM : ClassId} {a_this a_text : Nat} {v_position : Int32} {v_rowsRead : Int32} {v_error : Int32} {v_errorAt : Int32} {r0 : Int32}
def rmX4_isDigit : Room := { frames := 0, cells := 0, slots := 0, locals := 0 }
abbrev zwX4_isDigit : List Cond := Cond.code yX4_isDigit cX4_isDigit 2 (some .boolean) :: wsAll
set_option maxHeartbeats 4000000 in
set_option maxRecDepth 100000 in
theorem c_X4_isDigit {l : Launch} {D : va_G} {cI cZ cM : ClassId} {a_this a_text : Nat} {v_position : Int32} {v_rowsRead : Int32} {v_error : Int32} {v_errorAt : Int32} {r0 : Int32} {sz : Nat} {v_text : Nat → Int32} {v_length : Int32} {x1 : Int32} (hf : f_X4_isDigit v_text v_length x1 = some r0) : Met l yX4_isDigit zwX4_isDigit rmX4_isDigit (zPc D (zT cI cZ cM) [.ref a_this, .int x1] [(a_this, .inr (4, [.ref a_text, .int v_length, .int v_position, .int v_rowsRead, .int v_error, .int v_errorAt])), (a_text, .inl (cI, 600, .inl v_text))] sz) (zQi D (zT cI cZ cM) r0 [(a_this, .inr (4, [.ref a_text, .int v_length, .int v_position, .int v_rowsRead, .int v_error, .int v_errorAt])), (a_text, .inl (cI, 600, .inl v_text))] (va_A [(a_this, .inr (4, [.ref a_text, .int v_length, .int v_position, .int v_rowsRead, .int v_error, .int v_errorAt])), (a_text, .inl (cI, 600, .inl v_text))] sz)) 0 0 (va_A [(a_this, .inr (4, [.ref a_text, .int v_length, .int v_position, .int v_rowsRead, .int v_error, .int v_errorAt])), (a_text, .inl (cI, 600, .inl v_text))] sz) := by
  refine z_met (cc := cX4_isDigit) (maxL := 2) (ret := (some .boolean)) (by decide) rfl (Nat.le_of_ble_eq_true rfl) ?_
  intro p e s m below meth c ls E hsz hw hl
  obtain ⟨⟨hx, hb, hml, hown, hts⟩, hr, hlocks⟩ := id E
  have hl : lv_has ls 2 [(0, .ref a_this), (1, .int x1)] := hl
  unfold f_X4_isDigit at hf
  refine lv_iload_n hx hb dX4_isDigit_0 rfl (lv_at hl 1 rfl) ?_
  refine lv_aload_n hx hb dX4_isDigit_1 rfl (lv_at hl 0 rfl) ?_
  refine z_get E.1 hw in_wsX40 0 rfl rfl 1 (z_lt rfl) mw_278 (v := .int v_length) rfl dX4_isDigit_2 ?_
  refine lv_icmp_ge (tgt := 34) hx hb dX4_isDigit_5 (by decide) (fun hc => ?_) (fun hc => ?_)
  · have hf := oI_pos hc hf
    refine lv_iconst (v := 0) hx hb dX4_isDigit_34 (by decide) ?_
    cases hf
    exact z_zret E rfl rfl hw dX4_isDigit_35
  · have hf := oI_neg hc hf
    refine lv_aload_n hx hb dX4_isDigit_8 rfl (lv_at hl 0 rfl) ?_
    refine z_get E.1 hw in_wsX40 0 rfl rfl 0 (z_lt rfl) mw_277 (v := .ref a_text) rfl dX4_isDigit_9 ?_
    refine lv_iload_n hx hb dX4_isDigit_12 rfl (lv_at hl 1 rfl) ?_
    obtain ⟨h_1, hf⟩ := oA_elim hf
    refine z_iald E.1 hw 1 0 rfl rfl h_1 dX4_isDigit_13 ?_
    refine lv_bipush (v := 48) hx hb dX4_isDigit_14 (by decide) ?_
    refine lv_icmp_lt (tgt := 34) hx hb dX4_isDigit_16 (by decide) (fun hc => ?_) (fun hc => ?_)
    · have hf := oI_pos hc hf
      refine lv_iconst (v := 0) hx hb dX4_isDigit_34 (by decide) ?_
      cases hf
      exact z_zret E rfl rfl hw dX4_isDigit_35
    · have hf := oI_neg hc hf
      refine lv_aload_n hx hb dX4_isDigit_19 rfl (lv_at hl 0 rfl) ?_
      refine z_get E.1 hw in_wsX40 0 rfl rfl 0 (z_lt rfl) mw_277 (v := .ref a_text) rfl dX4_isDigit_20 ?_
      refine lv_iload_n hx hb dX4_isDigit_23 rfl (lv_at hl 1 rfl) ?_
      obtain ⟨h_2, hf⟩ := oA_elim hf
      refine z_iald E.1 hw 1 0 rfl rfl h_2 dX4_isDigit_24 ?_
      refine lv_bipush (v := 57) hx hb dX4_isDigit_25 (by decide) ?_
      refine lv_icmp_gt (tgt := 34) hx hb dX4_isDigit_27 (by decide) (fun hc => ?_) (fun hc => ?_)
      · have hf := oI_pos hc hf
        refine lv_iconst (v := 0) hx hb dX4_isDigit_34 (by decide) ?_
        cases hf
        exact z_zret E rfl rfl hw dX4_isDigit_35
      · have hf := oI_neg hc hf
        refine lv_iconst (v := 1) hx hb dX4_isDigit_30 (by decide) ?_
        refine lv_goto (tgt := 35) hx hb dX4_isDigit_31 (by decide) ?_
        cases hf
        exact z_zret E rfl rfl hw dX4_isDigit_35
end
/-! X4_isAtDigit -/
section
variable {p : Program} {l : Launch} {e : Env} {s : State} {m : MethodId} {args : Array Value} {below : List Frame} {meth : Method} {c : Code} {D : va_G} {A : Nat → Prop} {cI cZ cM : ClassId} {a_this a_text : Nat} {v_rowsRead : Int32} {v_errorAt : Int32} {r0 : Int32} {w_position : Int32}
def rmX4_isAtDigit : Room := { frames := 1, cells := 0, slots := 0, locals := 21 }
abbrev zwX4_isAtDigit : List Cond := Cond.code yX4_isAtDigit cX4_isAtDigit 1 (some .boolean) :: wsAll
set_option maxHeartbeats 4000000 in
set_option maxRecDepth 100000 in
theorem c_X4_isAtDigit {l : Launch} {D : va_G} {cI cZ cM : ClassId} {a_this a_text : Nat} {v_rowsRead : Int32} {v_errorAt : Int32} {r0 : Int32} {w_position : Int32} {sz : Nat} {n : Nat} {v_text : Nat → Int32} {v_length : Int32} {v_position : Int32} {v_error : Int32} (hf : f_X4_isAtDigit n v_text v_length v_position v_error = some (r0, w_position)) : Met l yX4_isAtDigit zwX4_isAtDigit rmX4_isAtDigit (zPc D (zT cI cZ cM) [.ref a_this] [(a_this, .inr (4, [.ref a_text, .int v_length, .int v_position, .int v_rowsRead, .int v_error, .int v_errorAt])), (a_text, .inl (cI, 600, .inl v_text))] sz) (zQi D (zT cI cZ cM) r0 [(a_this, .inr (4, [.ref a_text, .int v_length, .int w_position, .int v_rowsRead, .int v_error, .int v_errorAt])), (a_text, .inl (cI, 600, .inl v_text))] (va_A [(a_this, .inr (4, [.ref a_text, .int v_length, .int v_position, .int v_rowsRead, .int v_error, .int v_errorAt])), (a_text, .inl (cI, 600, .inl v_text))] sz)) 0 0 (va_A [(a_this, .inr (4, [.ref a_text, .int v_length, .int v_position, .int v_rowsRead, .int v_error, .int v_errorAt])), (a_text, .inl (cI, 600, .inl v_text))] sz) := by
  refine z_met (cc := cX4_isAtDigit) (maxL := 1) (ret := (some .boolean)) (by decide) rfl (Nat.le_of_ble_eq_true rfl) ?_
  intro p e s m below meth c ls E hsz hw hl
  obtain ⟨⟨hx, hb, hml, hown, hts⟩, hr, hlocks⟩ := id E
  have hl : lv_has ls 1 [(0, .ref a_this)] := hl
  unfold f_X4_isAtDigit at hf
  refine lv_aload_n hx hb dX4_isAtDigit_0 rfl (lv_at hl 0 rfl) ?_
  obtain ⟨v_1, h_2, hf⟩ := oB_elim hf
  refine z_callVv (ws' := [(a_this, .inr (4, [.ref a_text, .int v_length, .int v_1, .int v_rowsRead, .int v_error, .int v_errorAt])), (a_text, .inl (cI, 600, .inl v_text))]) (wr := []) (As := []) (rest := []) E.1 hl hw (c_X4_skipSpaces h_2) (cwV 0 hts (z_gV mw_282 mw_283 mw_284 mw_285 mw_286) rfl rfl rfl (by decide +kernel) ⟨(Nat.le_of_ble_eq_true rfl), (Nat.le_of_ble_eq_true rfl)⟩) [0, 1] [] rfl rfl rfl rfl rfl rfl rfl (q0 := 0) rfl rfl rfl (Nat.le_of_ble_eq_true rfl) dX4_isAtDigit_1 ⟨Nat.le_of_ble_eq_true rfl, Nat.le_of_ble_eq_true rfl⟩ (fun H locs hw => ?_)
  refine lv_aload_n hx hb dX4_isAtDigit_4 rfl (lv_at hl 0 rfl) ?_
  refine z_get E.1 hw in_wsX40 0 rfl rfl 4 (z_lt rfl) mw_273 (v := .int v_error) rfl dX4_isAtDigit_5 ?_
  refine lv_if_ne (tgt := 26) hx hb dX4_isAtDigit_8 (by decide) (fun hc => ?_) (fun hc => ?_)
  · have hf := oI_neg hc hf
    refine lv_iconst (v := 0) hx hb dX4_isAtDigit_26 (by decide) ?_
    obtain ⟨rfl, rfl⟩ := oR2 hf
    exact z_zret E rfl rfl hw dX4_isAtDigit_27
  · have hf := oI_pos hc hf
    refine lv_aload_n hx hb dX4_isAtDigit_11 rfl (lv_at hl 0 rfl) ?_
    refine lv_aload_n hx hb dX4_isAtDigit_12 rfl (lv_at hl 0 rfl) ?_
    refine z_get E.1 hw in_wsX40 0 rfl rfl 2 (z_lt rfl) mw_279 (v := .int v_1) rfl dX4_isAtDigit_13 ?_
    obtain ⟨r_3, h_4, hf⟩ := oB_elim hf
    refine z_callVi (ws' := [(a_this, .inr (4, [.ref a_text, .int v_length, .int v_1, .int v_rowsRead, .int v_error, .int v_errorAt])), (a_text, .inl (cI, 600, .inl v_text))]) (wr := []) (As := [.int v_1]) (rest := []) E.1 hl hw (c_X4_isDigit h_4) (cwV 1 hts (z_gV mw_287 mw_288 mw_289 mw_285 mw_290) rfl rfl rfl (by decide +kernel) ⟨(Nat.le_of_ble_eq_true rfl), (Nat.le_of_ble_eq_true rfl)⟩) [0, 1] [] rfl rfl rfl rfl rfl rfl rfl (q0 := 0) rfl rfl rfl (Nat.le_of_ble_eq_true rfl) dX4_isAtDigit_16 ⟨Nat.le_of_ble_eq_true rfl, Nat.le_of_ble_eq_true rfl⟩ (fun H locs hw => ?_)
    refine lv_if_eq (tgt := 26) hx hb dX4_isAtDigit_19 (by decide) (fun hc => ?_) (fun hc => ?_)
    · have hf := oI_pos hc hf
      refine lv_iconst (v := 0) hx hb dX4_isAtDigit_26 (by decide) ?_
      obtain ⟨rfl, rfl⟩ := oR2 hf
      exact z_zret E rfl rfl hw dX4_isAtDigit_27
    · have hf := oI_neg hc hf
      refine lv_iconst (v := 1) hx hb dX4_isAtDigit_22 (by decide) ?_
      refine lv_goto (tgt := 27) hx hb dX4_isAtDigit_23 (by decide) ?_
      obtain ⟨rfl, rfl⟩ := oR2 hf
      exact z_zret E rfl rfl hw dX4_isAtDigit_27
end
/-! X4_isLetter -/
section
variable {p : Program} {l : Launch} {e : Env} {s : State} {m : MethodId} {args : Array Value} {below : List Frame} {meth : Method} {c : Code} {D : va_G} {A : Nat → Prop} {cI cZ cM : ClassId} {a_this a_text : Nat} {v_position : Int32} {v_rowsRead : Int32} {v_error : Int32} {v_errorAt : Int32} {r0 : Int32}
def rmX4_isLetter : Room := { frames := 0, cells := 0, slots := 0, locals := 0 }
abbrev zwX4_isLetter : List Cond := Cond.code yX4_isLetter cX4_isLetter 2 (some .boolean) :: wsAll
set_option maxHeartbeats 4000000 in
set_option maxRecDepth 100000 in
theorem c_X4_isLetter {l : Launch} {D : va_G} {cI cZ cM : ClassId} {a_this a_text : Nat} {v_position : Int32} {v_rowsRead : Int32} {v_error : Int32} {v_errorAt : Int32} {r0 : Int32} {sz : Nat} {v_text : Nat → Int32} {v_length : Int32} {x1 : Int32} (hf : f_X4_isLetter v_text v_length x1 = some r0) : Met l yX4_isLetter zwX4_isLetter rmX4_isLetter (zPc D (zT cI cZ cM) [.ref a_this, .int x1] [(a_this, .inr (4, [.ref a_text, .int v_length, .int v_position, .int v_rowsRead, .int v_error, .int v_errorAt])), (a_text, .inl (cI, 600, .inl v_text))] sz) (zQi D (zT cI cZ cM) r0 [(a_this, .inr (4, [.ref a_text, .int v_length, .int v_position, .int v_rowsRead, .int v_error, .int v_errorAt])), (a_text, .inl (cI, 600, .inl v_text))] (va_A [(a_this, .inr (4, [.ref a_text, .int v_length, .int v_position, .int v_rowsRead, .int v_error, .int v_errorAt])), (a_text, .inl (cI, 600, .inl v_text))] sz)) 0 0 (va_A [(a_this, .inr (4, [.ref a_text, .int v_length, .int v_position, .int v_rowsRead, .int v_error, .int v_errorAt])), (a_text, .inl (cI, 600, .inl v_text))] sz) := by
  refine z_met (cc := cX4_isLetter) (maxL := 2) (ret := (some .boolean)) (by decide) rfl (Nat.le_of_ble_eq_true rfl) ?_
  intro p e s m below meth c ls E hsz hw hl
  obtain ⟨⟨hx, hb, hml, hown, hts⟩, hr, hlocks⟩ := id E
  have hl : lv_has ls 2 [(0, .ref a_this), (1, .int x1)] := hl
  unfold f_X4_isLetter at hf
  refine lv_iload_n hx hb dX4_isLetter_0 rfl (lv_at hl 1 rfl) ?_
  refine lv_aload_n hx hb dX4_isLetter_1 rfl (lv_at hl 0 rfl) ?_
  refine z_get E.1 hw in_wsX40 0 rfl rfl 1 (z_lt rfl) mw_278 (v := .int v_length) rfl dX4_isLetter_2 ?_
  refine lv_icmp_ge (tgt := 34) hx hb dX4_isLetter_5 (by decide) (fun hc => ?_) (fun hc => ?_)
  · have hf := oI_pos hc hf
    refine lv_iconst (v := 0) hx hb dX4_isLetter_34 (by decide) ?_
    cases hf
    exact z_zret E rfl rfl hw dX4_isLetter_35
  · have hf := oI_neg hc hf
    refine lv_aload_n hx hb dX4_isLetter_8 rfl (lv_at hl 0 rfl) ?_
    refine z_get E.1 hw in_wsX40 0 rfl rfl 0 (z_lt rfl) mw_277 (v := .ref a_text) rfl dX4_isLetter_9 ?_
    refine lv_iload_n hx hb dX4_isLetter_12 rfl (lv_at hl 1 rfl) ?_
    obtain ⟨h_1, hf⟩ := oA_elim hf
    refine z_iald E.1 hw 1 0 rfl rfl h_1 dX4_isLetter_13 ?_
    refine lv_bipush (v := 97) hx hb dX4_isLetter_14 (by decide) ?_
    refine lv_icmp_lt (tgt := 34) hx hb dX4_isLetter_16 (by decide) (fun hc => ?_) (fun hc => ?_)
    · have hf := oI_pos hc hf
      refine lv_iconst (v := 0) hx hb dX4_isLetter_34 (by decide) ?_
      cases hf
      exact z_zret E rfl rfl hw dX4_isLetter_35
    · have hf := oI_neg hc hf
      refine lv_aload_n hx hb dX4_isLetter_19 rfl (lv_at hl 0 rfl) ?_
      refine z_get E.1 hw in_wsX40 0 rfl rfl 0 (z_lt rfl) mw_277 (v := .ref a_text) rfl dX4_isLetter_20 ?_
      refine lv_iload_n hx hb dX4_isLetter_23 rfl (lv_at hl 1 rfl) ?_
      obtain ⟨h_2, hf⟩ := oA_elim hf
      refine z_iald E.1 hw 1 0 rfl rfl h_2 dX4_isLetter_24 ?_
      refine lv_bipush (v := 122) hx hb dX4_isLetter_25 (by decide) ?_
      refine lv_icmp_gt (tgt := 34) hx hb dX4_isLetter_27 (by decide) (fun hc => ?_) (fun hc => ?_)
      · have hf := oI_pos hc hf
        refine lv_iconst (v := 0) hx hb dX4_isLetter_34 (by decide) ?_
        cases hf
        exact z_zret E rfl rfl hw dX4_isLetter_35
      · have hf := oI_neg hc hf
        refine lv_iconst (v := 1) hx hb dX4_isLetter_30 (by decide) ?_
        refine lv_goto (tgt := 35) hx hb dX4_isLetter_31 (by decide) ?_
        cases hf
        exact z_zret E rfl rfl hw dX4_isLetter_35
end
/-! X4_readSemicolon -/
section
variable {p : Program} {l : Launch} {e : Env} {s : State} {m : MethodId} {args : Array Value} {below : List Frame} {meth : Method} {c : Code} {D : va_G} {A : Nat → Prop} {cI cZ cM : ClassId} {a_this a_text : Nat} {v_rowsRead : Int32} {w_position : Int32} {w_error : Int32} {w_errorAt : Int32}
def rmX4_readSemicolon : Room := { frames := 1, cells := 0, slots := 0, locals := 22 }
abbrev zwX4_readSemicolon : List Cond := Cond.code yX4_readSemicolon cX4_readSemicolon 1 none :: wsAll
set_option maxHeartbeats 4000000 in
set_option maxRecDepth 100000 in
theorem w_X4_readSemicolon_49 {n : Nat} {v_text : Nat → Int32} {v_length : Int32} (E : zE p s m args meth c cX4_readSemicolon 1 none zwX4_readSemicolon RX4) : ∀ (v_position : Int32) (v_error : Int32) (v_errorAt : Int32), f_X4_readSemicolon_49 n v_position v_error v_errorAt = some (w_position, w_error, w_errorAt) → ∀ (H : Heap) (locs : List Loc) (ls : Array Slot), zW D (zT cI cZ cM) A s [(a_this, .inr (4, [.ref a_text, .int v_length, .int v_position, .int v_rowsRead, .int v_error, .int v_errorAt])), (a_text, .inl (cI, 600, .inl v_text))] H locs → lv_has ls 1 [(0, .ref a_this)] → W p l e rmX4_readSemicolon s m args below meth c H locs 0 0 (MQ below (zQv D (zT cI cZ cM) [(a_this, .inr (4, [.ref a_text, .int v_length, .int w_position, .int v_rowsRead, .int w_error, .int w_errorAt])), (a_text, .inl (cI, 600, .inl v_text))] A) args s 0 0 A) (F0 m 49 ls []) := by
  obtain ⟨⟨hx, hb, hml, hown, hts⟩, hr, hlocks⟩ := id E
  intro v_position v_error v_errorAt hf H locs ls hw hl
  unfold f_X4_readSemicolon_49 at hf
  refine lv_aload_n hx hb dX4_readSemicolon_49 rfl (lv_at hl 0 rfl) ?_
  refine lv_bipush (v := -2) hx hb dX4_readSemicolon_50 (by decide) ?_
  refine lv_aload_n hx hb dX4_readSemicolon_52 rfl (lv_at hl 0 rfl) ?_
  refine z_get E.1 hw in_wsX40 0 rfl rfl 2 (z_lt rfl) mw_279 (v := .int v_position) rfl dX4_readSemicolon_53 ?_
  obtain ⟨v_1, v_2, h_3, hf⟩ := oB2_elim hf
  refine z_callVv (ws' := [(a_this, .inr (4, [.ref a_text, .int v_length, .int v_position, .int v_rowsRead, .int v_1, .int v_2])), (a_text, .inl (cI, 600, .inl v_text))]) (wr := [(a_text, .inl (cI, 600, .inl v_text))]) (As := [.int (-2 : Int32), .int v_position]) (rest := []) E.1 hl hw (c_X4_fail h_3) (cwV 2 hts (z_gV mw_362 mw_363 mw_364 mw_285 mw_272) rfl rfl rfl (by decide +kernel) ⟨(Nat.le_of_ble_eq_true rfl), (Nat.le_of_ble_eq_true rfl)⟩) [0] [1] rfl rfl rfl rfl rfl rfl rfl (q0 := 0) rfl rfl rfl (Nat.le_of_ble_eq_true rfl) dX4_readSemicolon_56 ⟨Nat.le_of_ble_eq_true rfl, Nat.le_of_ble_eq_true rfl⟩ (fun H locs hw => ?_)
  obtain ⟨rfl, rfl, rfl⟩ := oR3 hf
  exact z_vret E rfl hw dX4_readSemicolon_59
set_option maxHeartbeats 4000000 in
set_option maxRecDepth 100000 in
theorem c_X4_readSemicolon {l : Launch} {D : va_G} {cI cZ cM : ClassId} {a_this a_text : Nat} {v_rowsRead : Int32} {w_position : Int32} {w_error : Int32} {w_errorAt : Int32} {sz : Nat} {n : Nat} {v_text : Nat → Int32} {v_length : Int32} {v_position : Int32} {v_error : Int32} {v_errorAt : Int32} (hf : f_X4_readSemicolon n v_text v_length v_position v_error v_errorAt = some (w_position, w_error, w_errorAt)) : Met l yX4_readSemicolon zwX4_readSemicolon rmX4_readSemicolon (zPc D (zT cI cZ cM) [.ref a_this] [(a_this, .inr (4, [.ref a_text, .int v_length, .int v_position, .int v_rowsRead, .int v_error, .int v_errorAt])), (a_text, .inl (cI, 600, .inl v_text))] sz) (zQv D (zT cI cZ cM) [(a_this, .inr (4, [.ref a_text, .int v_length, .int w_position, .int v_rowsRead, .int w_error, .int w_errorAt])), (a_text, .inl (cI, 600, .inl v_text))] (va_A [(a_this, .inr (4, [.ref a_text, .int v_length, .int v_position, .int v_rowsRead, .int v_error, .int v_errorAt])), (a_text, .inl (cI, 600, .inl v_text))] sz)) 0 0 (va_A [(a_this, .inr (4, [.ref a_text, .int v_length, .int v_position, .int v_rowsRead, .int v_error, .int v_errorAt])), (a_text, .inl (cI, 600, .inl v_text))] sz) := by
  refine z_met (cc := cX4_readSemicolon) (maxL := 1) (ret := none) (by decide) rfl (Nat.le_of_ble_eq_true rfl) ?_
  intro p e s m below meth c ls E hsz hw hl
  obtain ⟨⟨hx, hb, hml, hown, hts⟩, hr, hlocks⟩ := id E
  have hl : lv_has ls 1 [(0, .ref a_this)] := hl
  unfold f_X4_readSemicolon at hf
  refine lv_aload_n hx hb dX4_readSemicolon_0 rfl (lv_at hl 0 rfl) ?_
  obtain ⟨v_4, h_5, hf⟩ := oB_elim hf
  refine z_callVv (ws' := [(a_this, .inr (4, [.ref a_text, .int v_length, .int v_4, .int v_rowsRead, .int v_error, .int v_errorAt])), (a_text, .inl (cI, 600, .inl v_text))]) (wr := []) (As := []) (rest := []) E.1 hl hw (c_X4_skipSpaces h_5) (cwV 0 hts (z_gV mw_282 mw_283 mw_284 mw_285 mw_286) rfl rfl rfl (by decide +kernel) ⟨(Nat.le_of_ble_eq_true rfl), (Nat.le_of_ble_eq_true rfl)⟩) [0, 1] [] rfl rfl rfl rfl rfl rfl rfl (q0 := 0) rfl rfl rfl (Nat.le_of_ble_eq_true rfl) dX4_readSemicolon_1 ⟨Nat.le_of_ble_eq_true rfl, Nat.le_of_ble_eq_true rfl⟩ (fun H locs hw => ?_)
  refine lv_aload_n hx hb dX4_readSemicolon_4 rfl (lv_at hl 0 rfl) ?_
  refine z_get E.1 hw in_wsX40 0 rfl rfl 4 (z_lt rfl) mw_273 (v := .int v_error) rfl dX4_readSemicolon_5 ?_
  refine lv_if_ne (tgt := 49) hx hb dX4_readSemicolon_8 (by decide) (fun hc => ?_) (fun hc => ?_)
  · have hf := oI_neg hc hf
    exact w_X4_readSemicolon_49 E  _ _ _ hf _ _ _ hw (lv_sub hl [0] rfl)
  · have hf := oI_pos hc hf
    refine lv_aload_n hx hb dX4_readSemicolon_11 rfl (lv_at hl 0 rfl) ?_
    refine z_get E.1 hw in_wsX40 0 rfl rfl 2 (z_lt rfl) mw_279 (v := .int v_4) rfl dX4_readSemicolon_12 ?_
    refine lv_aload_n hx hb dX4_readSemicolon_15 rfl (lv_at hl 0 rfl) ?_
    refine z_get E.1 hw in_wsX40 0 rfl rfl 1 (z_lt rfl) mw_278 (v := .int v_length) rfl dX4_readSemicolon_16 ?_
    refine lv_icmp_ge (tgt := 49) hx hb dX4_readSemicolon_19 (by decide) (fun hc => ?_) (fun hc => ?_)
    · have hf := oI_pos hc hf
      exact w_X4_readSemicolon_49 E  _ _ _ hf _ _ _ hw (lv_sub hl [0] rfl)
    · have hf := oI_neg hc hf
      refine lv_aload_n hx hb dX4_readSemicolon_22 rfl (lv_at hl 0 rfl) ?_
      refine z_get E.1 hw in_wsX40 0 rfl rfl 0 (z_lt rfl) mw_277 (v := .ref a_text) rfl dX4_readSemicolon_23 ?_
      refine lv_aload_n hx hb dX4_readSemicolon_26 rfl (lv_at hl 0 rfl) ?_
      refine z_get E.1 hw in_wsX40 0 rfl rfl 2 (z_lt rfl) mw_279 (v := .int v_4) rfl dX4_readSemicolon_27 ?_
      obtain ⟨h_6, hf⟩ := oA_elim hf
      refine z_iald E.1 hw 1 0 rfl rfl h_6 dX4_readSemicolon_30 ?_
      refine lv_bipush (v := 59) hx hb dX4_readSemicolon_31 (by decide) ?_
      refine lv_icmp_ne (tgt := 49) hx hb dX4_readSemicolon_33 (by decide) (fun hc => ?_) (fun hc => ?_)
      · have hf := oI_neg hc hf
        exact w_X4_readSemicolon_49 E  _ _ _ hf _ _ _ hw (lv_sub hl [0] rfl)
      · have hf := oI_pos hc hf
        refine lv_aload_n hx hb dX4_readSemicolon_36 rfl (lv_at hl 0 rfl) ?_
        refine lv_dup hx hb dX4_readSemicolon_37 rfl ?_
        refine z_get E.1 hw in_wsX40 0 rfl rfl 2 (z_lt rfl) mw_279 (v := .int v_4) rfl dX4_readSemicolon_38 ?_
        refine lv_iconst (v := 1) hx hb dX4_readSemicolon_41 (by decide) ?_
        refine lv_iadd hx hb dX4_readSemicolon_42 ?_
        obtain ⟨y_7, e_y_7, hf⟩ := oL_elim hf
        refine z_top e_y_7 ?_
        refine z_put (ws' := [(a_this, .inr (4, [.ref a_text, .int v_length, .int y_7, .int v_rowsRead, .int v_error, .int v_errorAt])), (a_text, .inl (cI, 600, .inl v_text))]) E.1 hw in_wsX40 tyX4 tyX4_ok nmX4 0 rfl rfl 2 (z_lt rfl) mw_279 rfl rfl rfl (z_lt rfl) rfl dX4_readSemicolon_43 (fun H locs hw => ?_)
        refine lv_goto (tgt := 59) hx hb dX4_readSemicolon_46 (by decide) ?_
        obtain ⟨rfl, rfl, rfl⟩ := oR3 hf
        exact z_vret E rfl hw dX4_readSemicolon_59
end
/-! X5_appendFour -/
section
variable {p : Program} {l : Launch} {e : Env} {s : State} {m : MethodId} {args : Array Value} {below : List Frame} {meth : Method} {c : Code} {D : va_G} {A : Nat → Prop} {cI cZ cM : ClassId} {a_this a_text a_reader a_market a_draft a_history a_planner a_trialPlanner a_insertion a_queue : Nat} {v_errorAt : Int32} {v_planned : Int32} {w_text : Nat → Int32} {w_textLength : Int32}
def rmX5_appendFour : Room := { frames := 0, cells := 0, slots := 0, locals := 0 }
abbrev zwX5_appendFour : List Cond := Cond.code yX5_appendFour cX5_appendFour 3 none :: wsAll
set_option maxHeartbeats 4000000 in
set_option maxRecDepth 100000 in
theorem w_X5_appendFour_3 {n : Nat} (E : zE p s m args meth c cX5_appendFour 3 none zwX5_appendFour RX5) : ∀ (fu : Nat), ∀ (x1 : Int32) (x2 : Int32) (v_text : Nat → Int32) (v_textLength : Int32), f_X5_appendFour_3 n fu x1 x2 v_text v_textLength = some (w_text, w_textLength) → ∀ (H : Heap) (locs : List Loc) (ls : Array Slot), zW D (zT cI cZ cM) A s [(a_this, .inr (5, [.ref a_text, .int v_textLength, .int v_errorAt, .ref a_reader, .ref a_market, .ref a_draft, .ref a_history, .ref a_planner, .ref a_trialPlanner, .ref a_insertion, .ref a_queue, .int v_planned])), (a_text, .inl (cI, 600, .inl v_text))] H locs → lv_has ls 3 [(0, .ref a_this), (1, .int x1), (2, .int x2)] → W p l e rmX5_appendFour s m args below meth c H locs 0 0 (MQ below (zQv D (zT cI cZ cM) [(a_this, .inr (5, [.ref a_text, .int w_textLength, .int v_errorAt, .ref a_reader, .ref a_market, .ref a_draft, .ref a_history, .ref a_planner, .ref a_trialPlanner, .ref a_insertion, .ref a_queue, .int v_planned])), (a_text, .inl (cI, 600, .inl w_text))] A) args s 0 0 A) (F0 m 3 ls []) := by
  obtain ⟨⟨hx, hb, hml, hown, hts⟩, hr, hlocks⟩ := id E
  intro fu
  induction fu with
  | zero => intro x1 x2 v_text v_textLength hf; rw [f_X5_appendFour_3.eq_1] at hf; cases hf
  | succ fu ih =>
    intro x1 x2 v_text v_textLength hf H locs ls hw hl
    rw [f_X5_appendFour_3.eq_2] at hf
    refine lv_iload_n hx hb dX5_appendFour_3 rfl (lv_at hl 2 rfl) ?_
    refine lv_if_lt (tgt := 49) hx hb dX5_appendFour_4 (by decide) (fun hc => ?_) (fun hc => ?_)
    · have hf := oI_pos hc hf
      obtain ⟨rfl, rfl⟩ := oR2 hf
      exact z_vret E rfl hw dX5_appendFour_49
    · have hf := oI_neg hc hf
      refine lv_aload_n hx hb dX5_appendFour_7 rfl (lv_at hl 0 rfl) ?_
      refine z_get E.1 hw in_wsX50 0 rfl rfl 1 (z_lt rfl) mw_425 (v := .int v_textLength) rfl dX5_appendFour_8 ?_
      refine lv_sipush (v := 600) hx hb dX5_appendFour_11 (by decide) ?_
      refine lv_icmp_ge (tgt := 49) hx hb dX5_appendFour_14 (by decide) (fun hc => ?_) (fun hc => ?_)
      · have hf := oI_pos hc hf
        obtain ⟨rfl, rfl⟩ := oR2 hf
        exact z_vret E rfl hw dX5_appendFour_49
      · have hf := oI_neg hc hf
        refine lv_aload_n hx hb dX5_appendFour_17 rfl (lv_at hl 0 rfl) ?_
        refine z_get E.1 hw in_wsX50 0 rfl rfl 0 (z_lt rfl) mw_430 (v := .ref a_text) rfl dX5_appendFour_18 ?_
        refine lv_aload_n hx hb dX5_appendFour_21 rfl (lv_at hl 0 rfl) ?_
        refine z_get E.1 hw in_wsX50 0 rfl rfl 1 (z_lt rfl) mw_425 (v := .int v_textLength) rfl dX5_appendFour_22 ?_
        refine lv_iload_n hx hb dX5_appendFour_25 rfl (lv_at hl 1 rfl) ?_
        refine lv_iload_n hx hb dX5_appendFour_26 rfl (lv_at hl 2 rfl) ?_
        refine lv_iushr hx hb dX5_appendFour_27 rfl ?_
        refine lv_sipush (v := 255) hx hb dX5_appendFour_28 (by decide) ?_
        refine lv_iand hx hb dX5_appendFour_31 ?_
        obtain ⟨h_1, hf⟩ := oA_elim hf
        obtain ⟨v_2, e_v_2, hf⟩ := oL_elim hf
        refine z_iast (ws' := [(a_this, .inr (5, [.ref a_text, .int v_textLength, .int v_errorAt, .ref a_reader, .ref a_market, .ref a_draft, .ref a_history, .ref a_planner, .ref a_trialPlanner, .ref a_insertion, .ref a_queue, .int v_planned])), (a_text, .inl (cI, 600, .inl v_2))]) E.1 hw 1 0 rfl rfl h_1 (by subst e_v_2; rfl) dX5_appendFour_32 (fun H locs hw => ?_)
        refine lv_aload_n hx hb dX5_appendFour_33 rfl (lv_at hl 0 rfl) ?_
        refine lv_dup hx hb dX5_appendFour_34 rfl ?_
        refine z_get E.1 hw in_wsX50 0 rfl rfl 1 (z_lt rfl) mw_425 (v := .int v_textLength) rfl dX5_appendFour_35 ?_
        refine lv_iconst (v := 1) hx hb dX5_appendFour_38 (by decide) ?_
        refine lv_iadd hx hb dX5_appendFour_39 ?_
        obtain ⟨y_3, e_y_3, hf⟩ := oL_elim hf
        refine z_top e_y_3 ?_
        refine z_put (ws' := [(a_this, .inr (5, [.ref a_text, .int y_3, .int v_errorAt, .ref a_reader, .ref a_market, .ref a_draft, .ref a_history, .ref a_planner, .ref a_trialPlanner, .ref a_insertion, .ref a_queue, .int v_planned])), (a_text, .inl (cI, 600, .inl v_2))]) E.1 hw in_wsX50 tyX5 tyX5_ok nmX5 0 rfl rfl 1 (z_lt rfl) mw_425 rfl rfl rfl (z_lt rfl) rfl dX5_appendFour_40 (fun H locs hw => ?_)
        refine lv_iinc (v := (x2 + (-8 : Int32))) (lv' := [(2, .int (x2 + (-8 : Int32))), (0, .ref a_this), (1, .int x1)]) hx hb dX5_appendFour_43 hl (k := 2) rfl rfl (z_lt rfl) rfl (fun ls hl => ?_)
        refine lv_goto (tgt := 3) hx hb dX5_appendFour_46 (by decide) ?_
        exact ih _ _ _ _ hf _ _ _ hw (lv_sub hl [1, 2, 0] rfl)
set_option maxHeartbeats 4000000 in
set_option maxRecDepth 100000 in
theorem c_X5_appendFour {l : Launch} {D : va_G} {cI cZ cM : ClassId} {a_this a_text a_reader a_market a_draft a_history a_planner a_trialPlanner a_insertion a_queue : Nat} {v_errorAt : Int32} {v_planned : Int32} {w_text : Nat → Int32} {w_textLength : Int32} {sz : Nat} {n : Nat} {v_text : Nat → Int32} {v_textLength : Int32} {x1 : Int32} (hf : f_X5_appendFour n v_text v_textLength x1 = some (w_text, w_textLength)) : Met l yX5_appendFour zwX5_appendFour rmX5_appendFour (zPc D (zT cI cZ cM) [.ref a_this, .int x1] [(a_this, .inr (5, [.ref a_text, .int v_textLength, .int v_errorAt, .ref a_reader, .ref a_market, .ref a_draft, .ref a_history, .ref a_planner, .ref a_trialPlanner, .ref a_insertion, .ref a_queue, .int v_planned])), (a_text, .inl (cI, 600, .inl v_text))] sz) (zQv D (zT cI cZ cM) [(a_this, .inr (5, [.ref a_text, .int w_textLength, .int v_errorAt, .ref a_reader, .ref a_market, .ref a_draft, .ref a_history, .ref a_planner, .ref a_trialPlanner, .ref a_insertion, .ref a_queue, .int v_planned])), (a_text, .inl (cI, 600, .inl w_text))] (va_A [(a_this, .inr (5, [.ref a_text, .int v_textLength, .int v_errorAt, .ref a_reader, .ref a_market, .ref a_draft, .ref a_history, .ref a_planner, .ref a_trialPlanner, .ref a_insertion, .ref a_queue, .int v_planned])), (a_text, .inl (cI, 600, .inl v_text))] sz)) 0 0 (va_A [(a_this, .inr (5, [.ref a_text, .int v_textLength, .int v_errorAt, .ref a_reader, .ref a_market, .ref a_draft, .ref a_history, .ref a_planner, .ref a_trialPlanner, .ref a_insertion, .ref a_queue, .int v_planned])), (a_text, .inl (cI, 600, .inl v_text))] sz) := by
  refine z_met (cc := cX5_appendFour) (maxL := 3) (ret := none) (by decide) rfl (Nat.le_of_ble_eq_true rfl) ?_
  intro p e s m below meth c ls E hsz hw hl
  obtain ⟨⟨hx, hb, hml, hown, hts⟩, hr, hlocks⟩ := id E
  have hl : lv_has ls 3 [(0, .ref a_this), (1, .int x1)] := hl
  unfold f_X5_appendFour at hf
  refine lv_bipush (v := 24) hx hb dX5_appendFour_0 (by decide) ?_
  refine lv_istore_n (lv' := [(2, .int (24 : Int32)), (0, .ref a_this), (1, .int x1)]) hx hb dX5_appendFour_2 rfl hl (z_lt rfl) rfl (fun ls hl => ?_)
  exact w_X5_appendFour_3 E  n _ _ _ _ hf _ _ _ hw (lv_sub hl [1, 2, 0] rfl)
end
/-! X5_coversUsed -/
section
variable {p : Program} {l : Launch} {e : Env} {s : State} {m : MethodId} {args : Array Value} {below : List Frame} {meth : Method} {c : Code} {D : va_G} {A : Nat → Prop} {cI cZ cM : ClassId} {a_this a_text a_reader a_market a_draft a_history a_planner a_trialPlanner a_insertion a_queue a_market_rows a_market_rents a_market_roofs a_market_trades a_market_fronts a_market_limits a_market_needy a_market_clashes a_market_starts a_market_standing : Nat} {v_textLength : Int32} {v_errorAt : Int32} {v_planned : Int32} {v_market_pitches : Int32} {v_market_traders : Int32} {v_market_covers : Int32} {r0 : Int32}
def rmX5_coversUsed : Room := { frames := 0, cells := 0, slots := 0, locals := 0 }
abbrev zwX5_coversUsed : List Cond := Cond.code yX5_coversUsed cX5_coversUsed 1 (some .int) :: wsAll
set_option maxHeartbeats 4000000 in
set_option maxRecDepth 100000 in
theorem c_X5_coversUsed {l : Launch} {D : va_G} {cI cZ cM : ClassId} {a_this a_text a_reader a_market a_draft a_history a_planner a_trialPlanner a_insertion a_queue a_market_rows a_market_rents a_market_roofs a_market_trades a_market_fronts a_market_limits a_market_needy a_market_clashes a_market_starts a_market_standing : Nat} {v_textLength : Int32} {v_errorAt : Int32} {v_planned : Int32} {v_market_pitches : Int32} {v_market_traders : Int32} {v_market_covers : Int32} {r0 : Int32} {sz : Nat} {v_market_coversBusy : Int32} (hf : f_X5_coversUsed v_market_coversBusy = some r0) : Met l yX5_coversUsed zwX5_coversUsed rmX5_coversUsed (zPc D (zT cI cZ cM) [.ref a_this] [(a_this, .inr (5, [.ref a_text, .int v_textLength, .int v_errorAt, .ref a_reader, .ref a_market, .ref a_draft, .ref a_history, .ref a_planner, .ref a_trialPlanner, .ref a_insertion, .ref a_queue, .int v_planned])), (a_market, .inr (2, [.int v_market_pitches, .ref a_market_rows, .ref a_market_rents, .ref a_market_roofs, .int v_market_traders, .ref a_market_trades, .ref a_market_fronts, .ref a_market_limits, .ref a_market_needy, .ref a_market_clashes, .int v_market_covers, .ref a_market_starts, .ref a_market_standing, .int v_market_coversBusy]))] sz) (zQi D (zT cI cZ cM) r0 [(a_this, .inr (5, [.ref a_text, .int v_textLength, .int v_errorAt, .ref a_reader, .ref a_market, .ref a_draft, .ref a_history, .ref a_planner, .ref a_trialPlanner, .ref a_insertion, .ref a_queue, .int v_planned])), (a_market, .inr (2, [.int v_market_pitches, .ref a_market_rows, .ref a_market_rents, .ref a_market_roofs, .int v_market_traders, .ref a_market_trades, .ref a_market_fronts, .ref a_market_limits, .ref a_market_needy, .ref a_market_clashes, .int v_market_covers, .ref a_market_starts, .ref a_market_standing, .int v_market_coversBusy]))] (va_A [(a_this, .inr (5, [.ref a_text, .int v_textLength, .int v_errorAt, .ref a_reader, .ref a_market, .ref a_draft, .ref a_history, .ref a_planner, .ref a_trialPlanner, .ref a_insertion, .ref a_queue, .int v_planned])), (a_market, .inr (2, [.int v_market_pitches, .ref a_market_rows, .ref a_market_rents, .ref a_market_roofs, .int v_market_traders, .ref a_market_trades, .ref a_market_fronts, .ref a_market_limits, .ref a_market_needy, .ref a_market_clashes, .int v_market_covers, .ref a_market_starts, .ref a_market_standing, .int v_market_coversBusy]))] sz)) 0 0 (va_A [(a_this, .inr (5, [.ref a_text, .int v_textLength, .int v_errorAt, .ref a_reader, .ref a_market, .ref a_draft, .ref a_history, .ref a_planner, .ref a_trialPlanner, .ref a_insertion, .ref a_queue, .int v_planned])), (a_market, .inr (2, [.int v_market_pitches, .ref a_market_rows, .ref a_market_rents, .ref a_market_roofs, .int v_market_traders, .ref a_market_trades, .ref a_market_fronts, .ref a_market_limits, .ref a_market_needy, .ref a_market_clashes, .int v_market_covers, .ref a_market_starts, .ref a_market_standing, .int v_market_coversBusy]))] sz) := by
  refine z_met (cc := cX5_coversUsed) (maxL := 1) (ret := (some .int)) (by decide) rfl (Nat.le_of_ble_eq_true rfl) ?_
  intro p e s m below meth c ls E hsz hw hl
  obtain ⟨⟨hx, hb, hml, hown, hts⟩, hr, hlocks⟩ := id E
  have hl : lv_has ls 1 [(0, .ref a_this)] := hl
  unfold f_X5_coversUsed at hf
  refine lv_aload_n hx hb dX5_coversUsed_0 rfl (lv_at hl 0 rfl) ?_
  refine z_get E.1 hw in_wsX50 0 rfl rfl 4 (z_lt rfl) mw_411 (v := .ref a_market) rfl dX5_coversUsed_1 ?_
  refine z_get E.1 hw in_wsX20 1 rfl rfl 13 (z_lt rfl) mw_487 (v := .int v_market_coversBusy) rfl dX5_coversUsed_4 ?_
  cases hf
  exact z_iret E rfl hw dX5_coversUsed_7
end
/-! X5_draftExchange -/
section
variable {p : Program} {l : Launch} {e : Env} {s : State} {m : MethodId} {args : Array Value} {below : List Frame} {meth : Method} {c : Code} {D : va_G} {A : Nat → Prop} {cI cZ cM : ClassId} {a_this a_text a_reader a_market a_draft a_history a_planner a_trialPlanner a_insertion a_queue a_market_rows a_market_rents a_market_roofs a_market_trades a_market_fronts a_market_limits a_market_needy a_market_clashes a_market_starts a_market_standing a_draft_rows a_draft_rents a_draft_roofs a_draft_trades a_draft_fronts a_draft_limits a_draft_needy a_draft_clashes a_draft_starts a_draft_standing : Nat} {v_textLength : Int32} {v_errorAt : Int32} {v_planned : Int32} {r0 : Int32} {w_draft_pitches : Int32} {w_draft_rows : Nat → Int32} {w_draft_rents : Nat → Int32} {w_draft_roofs : Nat → Int32} {w_draft_traders : Int32} {w_draft_trades : Nat → Int32} {w_draft_fronts : Nat → Int32} {w_draft_limits : Nat → Int32} {w_draft_needy : Nat → Int32} {w_draft_clashes : Nat → Int32} {w_draft_covers : Int32} {w_draft_starts : Nat → Int32} {w_draft_standing : Nat → Int32} {w_draft_coversBusy : Int32}
def rmX5_draftExchange : Room := { frames := 5, cells := 0, slots := 0, locals := 112 }
abbrev zwX5_draftExchange : List Cond := Cond.code yX5_draftExchange cX5_draftExchange 3 (some .boolean) :: wsAll
set_option maxHeartbeats 4000000 in
set_option maxRecDepth 100000 in
theorem c_X5_draftExchange {l : Launch} {D : va_G} {cI cZ cM : ClassId} {a_this a_text a_reader a_market a_draft a_history a_planner a_trialPlanner a_insertion a_queue a_market_rows a_market_rents a_market_roofs a_market_trades a_market_fronts a_market_limits a_market_needy a_market_clashes a_market_starts a_market_standing a_draft_rows a_draft_rents a_draft_roofs a_draft_trades a_draft_fronts a_draft_limits a_draft_needy a_draft_clashes a_draft_starts a_draft_standing : Nat} {v_textLength : Int32} {v_errorAt : Int32} {v_planned : Int32} {r0 : Int32} {w_draft_pitches : Int32} {w_draft_rows : Nat → Int32} {w_draft_rents : Nat → Int32} {w_draft_roofs : Nat → Int32} {w_draft_traders : Int32} {w_draft_trades : Nat → Int32} {w_draft_fronts : Nat → Int32} {w_draft_limits : Nat → Int32} {w_draft_needy : Nat → Int32} {w_draft_clashes : Nat → Int32} {w_draft_covers : Int32} {w_draft_starts : Nat → Int32} {w_draft_standing : Nat → Int32} {w_draft_coversBusy : Int32} {sz : Nat} {n : Nat} {v_market_pitches : Int32} {v_market_rows : Nat → Int32} {v_market_rents : Nat → Int32} {v_market_roofs : Nat → Int32} {v_market_traders : Int32} {v_market_trades : Nat → Int32} {v_market_fronts : Nat → Int32} {v_market_limits : Nat → Int32} {v_market_needy : Nat → Int32} {v_market_clashes : Nat → Int32} {v_market_covers : Int32} {v_market_starts : Nat → Int32} {v_market_standing : Nat → Int32} {v_market_coversBusy : Int32} {v_draft_pitches : Int32} {v_draft_rows : Nat → Int32} {v_draft_rents : Nat → Int32} {v_draft_roofs : Nat → Int32} {v_draft_traders : Int32} {v_draft_trades : Nat → Int32} {v_draft_fronts : Nat → Int32} {v_draft_limits : Nat → Int32} {v_draft_needy : Nat → Int32} {v_draft_clashes : Nat → Int32} {v_draft_covers : Int32} {v_draft_starts : Nat → Int32} {v_draft_standing : Nat → Int32} {v_draft_coversBusy : Int32} {x1 : Int32} {x2 : Int32} (hf : f_X5_draftExchange n v_market_pitches v_market_rows v_market_rents v_market_roofs v_market_traders v_market_trades v_market_fronts v_market_limits v_market_needy v_market_clashes v_market_covers v_market_starts v_market_standing v_market_coversBusy v_draft_pitches v_draft_rows v_draft_rents v_draft_roofs v_draft_traders v_draft_trades v_draft_fronts v_draft_limits v_draft_needy v_draft_clashes v_draft_covers v_draft_starts v_draft_standing v_draft_coversBusy x1 x2 = some (r0, w_draft_pitches, w_draft_rows, w_draft_rents, w_draft_roofs, w_draft_traders, w_draft_trades, w_draft_fronts, w_draft_limits, w_draft_needy, w_draft_clashes, w_draft_covers, w_draft_starts, w_draft_standing, w_draft_coversBusy)) : Met l yX5_draftExchange zwX5_draftExchange rmX5_draftExchange (zPc D (zT cI cZ cM) [.ref a_this, .int x1, .int x2] [(a_this, .inr (5, [.ref a_text, .int v_textLength, .int v_errorAt, .ref a_reader, .ref a_market, .ref a_draft, .ref a_history, .ref a_planner, .ref a_trialPlanner, .ref a_insertion, .ref a_queue, .int v_planned])), (a_market, .inr (2, [.int v_market_pitches, .ref a_market_rows, .ref a_market_rents, .ref a_market_roofs, .int v_market_traders, .ref a_market_trades, .ref a_market_fronts, .ref a_market_limits, .ref a_market_needy, .ref a_market_clashes, .int v_market_covers, .ref a_market_starts, .ref a_market_standing, .int v_market_coversBusy])), (a_market_rows, .inl (cI, 24, .inl v_market_rows)), (a_market_rents, .inl (cI, 24, .inl v_market_rents)), (a_market_roofs, .inl (cZ, 24, .inl v_market_roofs)), (a_market_trades, .inl (cI, 8, .inl v_market_trades)), (a_market_fronts, .inl (cI, 8, .inl v_market_fronts)), (a_market_limits, .inl (cI, 8, .inl v_market_limits)), (a_market_needy, .inl (cZ, 8, .inl v_market_needy)), (a_market_clashes, .inl (cI, 8, .inl v_market_clashes)), (a_market_starts, .inl (cI, 8, .inl v_market_starts)), (a_market_standing, .inl (cI, 24, .inl v_market_standing)), (a_draft, .inr (2, [.int v_draft_pitches, .ref a_draft_rows, .ref a_draft_rents, .ref a_draft_roofs, .int v_draft_traders, .ref a_draft_trades, .ref a_draft_fronts, .ref a_draft_limits, .ref a_draft_needy, .ref a_draft_clashes, .int v_draft_covers, .ref a_draft_starts, .ref a_draft_standing, .int v_draft_coversBusy])), (a_draft_rows, .inl (cI, 24, .inl v_draft_rows)), (a_draft_rents, .inl (cI, 24, .inl v_draft_rents)), (a_draft_roofs, .inl (cZ, 24, .inl v_draft_roofs)), (a_draft_trades, .inl (cI, 8, .inl v_draft_trades)), (a_draft_fronts, .inl (cI, 8, .inl v_draft_fronts)), (a_draft_limits, .inl (cI, 8, .inl v_draft_limits)), (a_draft_needy, .inl (cZ, 8, .inl v_draft_needy)), (a_draft_clashes, .inl (cI, 8, .inl v_draft_clashes)), (a_draft_starts, .inl (cI, 8, .inl v_draft_starts)), (a_draft_standing, .inl (cI, 24, .inl v_draft_standing))] sz) (zQi D (zT cI cZ cM) r0 [(a_this, .inr (5, [.ref a_text, .int v_textLength, .int v_errorAt, .ref a_reader, .ref a_market, .ref a_draft, .ref a_history, .ref a_planner, .ref a_trialPlanner, .ref a_insertion, .ref a_queue, .int v_planned])), (a_market, .inr (2, [.int v_market_pitches, .ref a_market_rows, .ref a_market_rents, .ref a_market_roofs, .int v_market_traders, .ref a_market_trades, .ref a_market_fronts, .ref a_market_limits, .ref a_market_needy, .ref a_market_clashes, .int v_market_covers, .ref a_market_starts, .ref a_market_standing, .int v_market_coversBusy])), (a_market_rows, .inl (cI, 24, .inl v_market_rows)), (a_market_rents, .inl (cI, 24, .inl v_market_rents)), (a_market_roofs, .inl (cZ, 24, .inl v_market_roofs)), (a_market_trades, .inl (cI, 8, .inl v_market_trades)), (a_market_fronts, .inl (cI, 8, .inl v_market_fronts)), (a_market_limits, .inl (cI, 8, .inl v_market_limits)), (a_market_needy, .inl (cZ, 8, .inl v_market_needy)), (a_market_clashes, .inl (cI, 8, .inl v_market_clashes)), (a_market_starts, .inl (cI, 8, .inl v_market_starts)), (a_market_standing, .inl (cI, 24, .inl v_market_standing)), (a_draft, .inr (2, [.int w_draft_pitches, .ref a_draft_rows, .ref a_draft_rents, .ref a_draft_roofs, .int w_draft_traders, .ref a_draft_trades, .ref a_draft_fronts, .ref a_draft_limits, .ref a_draft_needy, .ref a_draft_clashes, .int w_draft_covers, .ref a_draft_starts, .ref a_draft_standing, .int w_draft_coversBusy])), (a_draft_rows, .inl (cI, 24, .inl w_draft_rows)), (a_draft_rents, .inl (cI, 24, .inl w_draft_rents)), (a_draft_roofs, .inl (cZ, 24, .inl w_draft_roofs)), (a_draft_trades, .inl (cI, 8, .inl w_draft_trades)), (a_draft_fronts, .inl (cI, 8, .inl w_draft_fronts)), (a_draft_limits, .inl (cI, 8, .inl w_draft_limits)), (a_draft_needy, .inl (cZ, 8, .inl w_draft_needy)), (a_draft_clashes, .inl (cI, 8, .inl w_draft_clashes)), (a_draft_starts, .inl (cI, 8, .inl w_draft_starts)), (a_draft_standing, .inl (cI, 24, .inl w_draft_standing))] (va_A [(a_this, .inr (5, [.ref a_text, .int v_textLength, .int v_errorAt, .ref a_reader, .ref a_market, .ref a_draft, .ref a_history, .ref a_planner, .ref a_trialPlanner, .ref a_insertion, .ref a_queue, .int v_planned])), (a_market, .inr (2, [.int v_market_pitches, .ref a_market_rows, .ref a_market_rents, .ref a_market_roofs, .int v_market_traders, .ref a_market_trades, .ref a_market_fronts, .ref a_market_limits, .ref a_market_needy, .ref a_market_clashes, .int v_market_covers, .ref a_market_starts, .ref a_market_standing, .int v_market_coversBusy])), (a_market_rows, .inl (cI, 24, .inl v_market_rows)), (a_market_rents, .inl (cI, 24, .inl v_market_rents)), (a_market_roofs, .inl (cZ, 24, .inl v_market_roofs)), (a_market_trades, .inl (cI, 8, .inl v_market_trades)), (a_market_fronts, .inl (cI, 8, .inl v_market_fronts)), (a_market_limits, .inl (cI, 8, .inl v_market_limits)), (a_market_needy, .inl (cZ, 8, .inl v_market_needy)), (a_market_clashes, .inl (cI, 8, .inl v_market_clashes)), (a_market_starts, .inl (cI, 8, .inl v_market_starts)), (a_market_standing, .inl (cI, 24, .inl v_market_standing)), (a_draft, .inr (2, [.int v_draft_pitches, .ref a_draft_rows, .ref a_draft_rents, .ref a_draft_roofs, .int v_draft_traders, .ref a_draft_trades, .ref a_draft_fronts, .ref a_draft_limits, .ref a_draft_needy, .ref a_draft_clashes, .int v_draft_covers, .ref a_draft_starts, .ref a_draft_standing, .int v_draft_coversBusy])), (a_draft_rows, .inl (cI, 24, .inl v_draft_rows)), (a_draft_rents, .inl (cI, 24, .inl v_draft_rents)), (a_draft_roofs, .inl (cZ, 24, .inl v_draft_roofs)), (a_draft_trades, .inl (cI, 8, .inl v_draft_trades)), (a_draft_fronts, .inl (cI, 8, .inl v_draft_fronts)), (a_draft_limits, .inl (cI, 8, .inl v_draft_limits)), (a_draft_needy, .inl (cZ, 8, .inl v_draft_needy)), (a_draft_clashes, .inl (cI, 8, .inl v_draft_clashes)), (a_draft_starts, .inl (cI, 8, .inl v_draft_starts)), (a_draft_standing, .inl (cI, 24, .inl v_draft_standing))] sz)) 0 0 (va_A [(a_this, .inr (5, [.ref a_text, .int v_textLength, .int v_errorAt, .ref a_reader, .ref a_market, .ref a_draft, .ref a_history, .ref a_planner, .ref a_trialPlanner, .ref a_insertion, .ref a_queue, .int v_planned])), (a_market, .inr (2, [.int v_market_pitches, .ref a_market_rows, .ref a_market_rents, .ref a_market_roofs, .int v_market_traders, .ref a_market_trades, .ref a_market_fronts, .ref a_market_limits, .ref a_market_needy, .ref a_market_clashes, .int v_market_covers, .ref a_market_starts, .ref a_market_standing, .int v_market_coversBusy])), (a_market_rows, .inl (cI, 24, .inl v_market_rows)), (a_market_rents, .inl (cI, 24, .inl v_market_rents)), (a_market_roofs, .inl (cZ, 24, .inl v_market_roofs)), (a_market_trades, .inl (cI, 8, .inl v_market_trades)), (a_market_fronts, .inl (cI, 8, .inl v_market_fronts)), (a_market_limits, .inl (cI, 8, .inl v_market_limits)), (a_market_needy, .inl (cZ, 8, .inl v_market_needy)), (a_market_clashes, .inl (cI, 8, .inl v_market_clashes)), (a_market_starts, .inl (cI, 8, .inl v_market_starts)), (a_market_standing, .inl (cI, 24, .inl v_market_standing)), (a_draft, .inr (2, [.int v_draft_pitches, .ref a_draft_rows, .ref a_draft_rents, .ref a_draft_roofs, .int v_draft_traders, .ref a_draft_trades, .ref a_draft_fronts, .ref a_draft_limits, .ref a_draft_needy, .ref a_draft_clashes, .int v_draft_covers, .ref a_draft_starts, .ref a_draft_standing, .int v_draft_coversBusy])), (a_draft_rows, .inl (cI, 24, .inl v_draft_rows)), (a_draft_rents, .inl (cI, 24, .inl v_draft_rents)), (a_draft_roofs, .inl (cZ, 24, .inl v_draft_roofs)), (a_draft_trades, .inl (cI, 8, .inl v_draft_trades)), (a_draft_fronts, .inl (cI, 8, .inl v_draft_fronts)), (a_draft_limits, .inl (cI, 8, .inl v_draft_limits)), (a_draft_needy, .inl (cZ, 8, .inl v_draft_needy)), (a_draft_clashes, .inl (cI, 8, .inl v_draft_clashes)), (a_draft_starts, .inl (cI, 8, .inl v_draft_starts)), (a_draft_standing, .inl (cI, 24, .inl v_draft_standing))] sz) := by
  refine z_met (cc := cX5_draftExchange) (maxL := 3) (ret := (some .boolean)) (by decide) rfl (Nat.le_of_ble_eq_true rfl) ?_
  intro p e s m below meth c ls E hsz hw hl
  obtain ⟨⟨hx, hb, hml, hown, hts⟩, hr, hlocks⟩ := id E
  have hl : lv_has ls 3 [(0, .ref a_this), (1, .int x1), (2, .int x2)] := hl
  unfold f_X5_draftExchange at hf
  refine lv_aload_n hx hb dX5_draftExchange_0 rfl (lv_at hl 0 rfl) ?_
  refine z_get E.1 hw in_wsX50 0 rfl rfl 5 (z_lt rfl) mw_445 (v := .ref a_draft) rfl dX5_draftExchange_1 ?_
  refine lv_aload_n hx hb dX5_draftExchange_4 rfl (lv_at hl 0 rfl) ?_
  refine z_get E.1 hw in_wsX50 0 rfl rfl 4 (z_lt rfl) mw_411 (v := .ref a_market) rfl dX5_draftExchange_5 ?_
  obtain ⟨v_1, v_2, v_3, v_4, v_5, v_6, v_7, v_8, v_9, v_10, v_11, v_12, v_13, v_14, h_15, hf⟩ := oB14_elim hf
  refine z_callVv (ws' := [(a_this, .inr (5, [.ref a_text, .int v_textLength, .int v_errorAt, .ref a_reader, .ref a_market, .ref a_draft, .ref a_history, .ref a_planner, .ref a_trialPlanner, .ref a_insertion, .ref a_queue, .int v_planned])), (a_market, .inr (2, [.int v_market_pitches, .ref a_market_rows, .ref a_market_rents, .ref a_market_roofs, .int v_market_traders, .ref a_market_trades, .ref a_market_fronts, .ref a_market_limits, .ref a_market_needy, .ref a_market_clashes, .int v_market_covers, .ref a_market_starts, .ref a_market_standing, .int v_market_coversBusy])), (a_market_rows, .inl (cI, 24, .inl v_market_rows)), (a_market_rents, .inl (cI, 24, .inl v_market_rents)), (a_market_roofs, .inl (cZ, 24, .inl v_market_roofs)), (a_market_trades, .inl (cI, 8, .inl v_market_trades)), (a_market_fronts, .inl (cI, 8, .inl v_market_fronts)), (a_market_limits, .inl (cI, 8, .inl v_market_limits)), (a_market_needy, .inl (cZ, 8, .inl v_market_needy)), (a_market_clashes, .inl (cI, 8, .inl v_market_clashes)), (a_market_starts, .inl (cI, 8, .inl v_market_starts)), (a_market_standing, .inl (cI, 24, .inl v_market_standing)), (a_draft, .inr (2, [.int v_1, .ref a_draft_rows, .ref a_draft_rents, .ref a_draft_roofs, .int v_5, .ref a_draft_trades, .ref a_draft_fronts, .ref a_draft_limits, .ref a_draft_needy, .ref a_draft_clashes, .int v_11, .ref a_draft_starts, .ref a_draft_standing, .int v_14])), (a_draft_rows, .inl (cI, 24, .inl v_2)), (a_draft_rents, .inl (cI, 24, .inl v_3)), (a_draft_roofs, .inl (cZ, 24, .inl v_4)), (a_draft_trades, .inl (cI, 8, .inl v_6)), (a_draft_fronts, .inl (cI, 8, .inl v_7)), (a_draft_limits, .inl (cI, 8, .inl v_8)), (a_draft_needy, .inl (cZ, 8, .inl v_9)), (a_draft_clashes, .inl (cI, 8, .inl v_10)), (a_draft_starts, .inl (cI, 8, .inl v_12)), (a_draft_standing, .inl (cI, 24, .inl v_13))]) (wr := [(a_this, .inr (5, [.ref a_text, .int v_textLength, .int v_errorAt, .ref a_reader, .ref a_market, .ref a_draft, .ref a_history, .ref a_planner, .ref a_trialPlanner, .ref a_insertion, .ref a_queue, .int v_planned]))]) (As := [.ref a_market]) (rest := []) E.1 hl hw (c_X2_copyFrom h_15) (cwV 1 hts (z_gV mw_456 mw_32 mw_33 mw_9 mw_34) rfl rfl rfl (by decide +kernel) ⟨(Nat.le_of_ble_eq_true rfl), (Nat.le_of_ble_eq_true rfl)⟩) [12, 13, 14, 15, 16, 17, 18, 19, 20, 21, 22, 1, 2, 3, 4, 5, 6, 7, 8, 9, 10, 11] [0] rfl rfl rfl rfl rfl rfl rfl (q0 := 0) rfl rfl rfl (Nat.le_of_ble_eq_true rfl) dX5_draftExchange_8 ⟨Nat.le_of_ble_eq_true rfl, Nat.le_of_ble_eq_true rfl⟩ (fun H locs hw => ?_)
  refine lv_aload_n hx hb dX5_draftExchange_11 rfl (lv_at hl 0 rfl) ?_
  refine z_get E.1 hw in_wsX50 0 rfl rfl 5 (z_lt rfl) mw_445 (v := .ref a_draft) rfl dX5_draftExchange_12 ?_
  refine lv_iload_n hx hb dX5_draftExchange_15 rfl (lv_at hl 1 rfl) ?_
  obtain ⟨v_16, v_17, v_18, h_19, hf⟩ := oB3_elim hf
  refine z_callVv (ws' := [(a_this, .inr (5, [.ref a_text, .int v_textLength, .int v_errorAt, .ref a_reader, .ref a_market, .ref a_draft, .ref a_history, .ref a_planner, .ref a_trialPlanner, .ref a_insertion, .ref a_queue, .int v_planned])), (a_market, .inr (2, [.int v_market_pitches, .ref a_market_rows, .ref a_market_rents, .ref a_market_roofs, .int v_market_traders, .ref a_market_trades, .ref a_market_fronts, .ref a_market_limits, .ref a_market_needy, .ref a_market_clashes, .int v_market_covers, .ref a_market_starts, .ref a_market_standing, .int v_market_coversBusy])), (a_market_rows, .inl (cI, 24, .inl v_market_rows)), (a_market_rents, .inl (cI, 24, .inl v_market_rents)), (a_market_roofs, .inl (cZ, 24, .inl v_market_roofs)), (a_market_trades, .inl (cI, 8, .inl v_market_trades)), (a_market_fronts, .inl (cI, 8, .inl v_market_fronts)), (a_market_limits, .inl (cI, 8, .inl v_market_limits)), (a_market_needy, .inl (cZ, 8, .inl v_market_needy)), (a_market_clashes, .inl (cI, 8, .inl v_market_clashes)), (a_market_starts, .inl (cI, 8, .inl v_market_starts)), (a_market_standing, .inl (cI, 24, .inl v_market_standing)), (a_draft, .inr (2, [.int v_1, .ref a_draft_rows, .ref a_draft_rents, .ref a_draft_roofs, .int v_5, .ref a_draft_trades, .ref a_draft_fronts, .ref a_draft_limits, .ref a_draft_needy, .ref a_draft_clashes, .int v_11, .ref a_draft_starts, .ref a_draft_standing, .int v_18])), (a_draft_rows, .inl (cI, 24, .inl v_2)), (a_draft_rents, .inl (cI, 24, .inl v_3)), (a_draft_roofs, .inl (cZ, 24, .inl v_4)), (a_draft_trades, .inl (cI, 8, .inl v_6)), (a_draft_fronts, .inl (cI, 8, .inl v_7)), (a_draft_limits, .inl (cI, 8, .inl v_8)), (a_draft_needy, .inl (cZ, 8, .inl v_9)), (a_draft_clashes, .inl (cI, 8, .inl v_10)), (a_draft_starts, .inl (cI, 8, .inl v_16)), (a_draft_standing, .inl (cI, 24, .inl v_17))]) (wr := [(a_this, .inr (5, [.ref a_text, .int v_textLength, .int v_errorAt, .ref a_reader, .ref a_market, .ref a_draft, .ref a_history, .ref a_planner, .ref a_trialPlanner, .ref a_insertion, .ref a_queue, .int v_planned])), (a_market, .inr (2, [.int v_market_pitches, .ref a_market_rows, .ref a_market_rents, .ref a_market_roofs, .int v_market_traders, .ref a_market_trades, .ref a_market_fronts, .ref a_market_limits, .ref a_market_needy, .ref a_market_clashes, .int v_market_covers, .ref a_market_starts, .ref a_market_standing, .int v_market_coversBusy])), (a_market_rows, .inl (cI, 24, .inl v_market_rows)), (a_market_rents, .inl (cI, 24, .inl v_market_rents)), (a_market_roofs, .inl (cZ, 24, .inl v_market_roofs)), (a_market_trades, .inl (cI, 8, .inl v_market_trades)), (a_market_fronts, .inl (cI, 8, .inl v_market_fronts)), (a_market_limits, .inl (cI, 8, .inl v_market_limits)), (a_market_needy, .inl (cZ, 8, .inl v_market_needy)), (a_market_clashes, .inl (cI, 8, .inl v_market_clashes)), (a_market_starts, .inl (cI, 8, .inl v_market_starts)), (a_market_standing, .inl (cI, 24, .inl v_market_standing)), (a_draft_rows, .inl (cI, 24, .inl v_2)), (a_draft_rents, .inl (cI, 24, .inl v_3)), (a_draft_trades, .inl (cI, 8, .inl v_6)), (a_draft_limits, .inl (cI, 8, .inl v_8)), (a_draft_clashes, .inl (cI, 8, .inl v_10))]) (As := [.int x1]) (rest := []) E.1 hl hw (c_X2_unseat h_19) (cwV 1 hts (z_gV mw_490 mw_142 mw_143 mw_9 mw_144) rfl rfl rfl (by decide +kernel) ⟨(Nat.le_of_ble_eq_true rfl), (Nat.le_of_ble_eq_true rfl)⟩) [12, 15, 17, 19, 21, 22] [0, 1, 2, 3, 4, 5, 6, 7, 8, 9, 10, 11, 13, 14, 16, 18, 20] rfl rfl rfl rfl rfl rfl rfl (q0 := 0) rfl rfl rfl (Nat.le_of_ble_eq_true rfl) dX5_draftExchange_16 ⟨Nat.le_of_ble_eq_true rfl, Nat.le_of_ble_eq_true rfl⟩ (fun H locs hw => ?_)
  refine lv_aload_n hx hb dX5_draftExchange_19 rfl (lv_at hl 0 rfl) ?_
  refine z_get E.1 hw in_wsX50 0 rfl rfl 5 (z_lt rfl) mw_445 (v := .ref a_draft) rfl dX5_draftExchange_20 ?_
  refine lv_iload_n hx hb dX5_draftExchange_23 rfl (lv_at hl 2 rfl) ?_
  obtain ⟨v_20, v_21, v_22, h_23, hf⟩ := oB3_elim hf
  refine z_callVv (ws' := [(a_this, .inr (5, [.ref a_text, .int v_textLength, .int v_errorAt, .ref a_reader, .ref a_market, .ref a_draft, .ref a_history, .ref a_planner, .ref a_trialPlanner, .ref a_insertion, .ref a_queue, .int v_planned])), (a_market, .inr (2, [.int v_market_pitches, .ref a_market_rows, .ref a_market_rents, .ref a_market_roofs, .int v_market_traders, .ref a_market_trades, .ref a_market_fronts, .ref a_market_limits, .ref a_market_needy, .ref a_market_clashes, .int v_market_covers, .ref a_market_starts, .ref a_market_standing, .int v_market_coversBusy])), (a_market_rows, .inl (cI, 24, .inl v_market_rows)), (a_market_rents, .inl (cI, 24, .inl v_market_rents)), (a_market_roofs, .inl (cZ, 24, .inl v_market_roofs)), (a_market_trades, .inl (cI, 8, .inl v_market_trades)), (a_market_fronts, .inl (cI, 8, .inl v_market_fronts)), (a_market_limits, .inl (cI, 8, .inl v_market_limits)), (a_market_needy, .inl (cZ, 8, .inl v_market_needy)), (a_market_clashes, .inl (cI, 8, .inl v_market_clashes)), (a_market_starts, .inl (cI, 8, .inl v_market_starts)), (a_market_standing, .inl (cI, 24, .inl v_market_standing)), (a_draft, .inr (2, [.int v_1, .ref a_draft_rows, .ref a_draft_rents, .ref a_draft_roofs, .int v_5, .ref a_draft_trades, .ref a_draft_fronts, .ref a_draft_limits, .ref a_draft_needy, .ref a_draft_clashes, .int v_11, .ref a_draft_starts, .ref a_draft_standing, .int v_22])), (a_draft_rows, .inl (cI, 24, .inl v_2)), (a_draft_rents, .inl (cI, 24, .inl v_3)), (a_draft_roofs, .inl (cZ, 24, .inl v_4)), (a_draft_trades, .inl (cI, 8, .inl v_6)), (a_draft_fronts, .inl (cI, 8, .inl v_7)), (a_draft_limits, .inl (cI, 8, .inl v_8)), (a_draft_needy, .inl (cZ, 8, .inl v_9)), (a_draft_clashes, .inl (cI, 8, .inl v_10)), (a_draft_starts, .inl (cI, 8, .inl v_20)), (a_draft_standing, .inl (cI, 24, .inl v_21))]) (wr := [(a_this, .inr (5, [.ref a_text, .int v_textLength, .int v_errorAt, .ref a_reader, .ref a_market, .ref a_draft, .ref a_history, .ref a_planner, .ref a_trialPlanner, .ref a_insertion, .ref a_queue, .int v_planned])), (a_market, .inr (2, [.int v_market_pitches, .ref a_market_rows, .ref a_market_rents, .ref a_market_roofs, .int v_market_traders, .ref a_market_trades, .ref a_market_fronts, .ref a_market_limits, .ref a_market_needy, .ref a_market_clashes, .int v_market_covers, .ref a_market_starts, .ref a_market_standing, .int v_market_coversBusy])), (a_market_rows, .inl (cI, 24, .inl v_market_rows)), (a_market_rents, .inl (cI, 24, .inl v_market_rents)), (a_market_roofs, .inl (cZ, 24, .inl v_market_roofs)), (a_market_trades, .inl (cI, 8, .inl v_market_trades)), (a_market_fronts, .inl (cI, 8, .inl v_market_fronts)), (a_market_limits, .inl (cI, 8, .inl v_market_limits)), (a_market_needy, .inl (cZ, 8, .inl v_market_needy)), (a_market_clashes, .inl (cI, 8, .inl v_market_clashes)), (a_market_starts, .inl (cI, 8, .inl v_market_starts)), (a_market_standing, .inl (cI, 24, .inl v_market_standing)), (a_draft_rows, .inl (cI, 24, .inl v_2)), (a_draft_rents, .inl (cI, 24, .inl v_3)), (a_draft_trades, .inl (cI, 8, .inl v_6)), (a_draft_limits, .inl (cI, 8, .inl v_8)), (a_draft_clashes, .inl (cI, 8, .inl v_10))]) (As := [.int x2]) (rest := []) E.1 hl hw (c_X2_unseat h_23) (cwV 1 hts (z_gV mw_490 mw_142 mw_143 mw_9 mw_144) rfl rfl rfl (by decide +kernel) ⟨(Nat.le_of_ble_eq_true rfl), (Nat.le_of_ble_eq_true rfl)⟩) [12, 15, 17, 19, 21, 22] [0, 1, 2, 3, 4, 5, 6, 7, 8, 9, 10, 11, 13, 14, 16, 18, 20] rfl rfl rfl rfl rfl rfl rfl (q0 := 0) rfl rfl rfl (Nat.le_of_ble_eq_true rfl) dX5_draftExchange_24 ⟨Nat.le_of_ble_eq_true rfl, Nat.le_of_ble_eq_true rfl⟩ (fun H locs hw => ?_)
  refine lv_aload_n hx hb dX5_draftExchange_27 rfl (lv_at hl 0 rfl) ?_
  refine z_get E.1 hw in_wsX50 0 rfl rfl 5 (z_lt rfl) mw_445 (v := .ref a_draft) rfl dX5_draftExchange_28 ?_
  refine lv_iload_n hx hb dX5_draftExchange_31 rfl (lv_at hl 1 rfl) ?_
  refine lv_aload_n hx hb dX5_draftExchange_32 rfl (lv_at hl 0 rfl) ?_
  refine z_get E.1 hw in_wsX50 0 rfl rfl 4 (z_lt rfl) mw_411 (v := .ref a_market) rfl dX5_draftExchange_33 ?_
  refine z_get E.1 hw in_wsX20 1 rfl rfl 11 (z_lt rfl) mw_489 (v := .ref a_market_starts) rfl dX5_draftExchange_36 ?_
  refine lv_iload_n hx hb dX5_draftExchange_39 rfl (lv_at hl 2 rfl) ?_
  obtain ⟨h_24, hf⟩ := oA_elim hf
  refine z_iald E.1 hw 10 0 rfl rfl h_24 dX5_draftExchange_40 ?_
  obtain ⟨r_25, v_26, v_27, v_28, h_29, hf⟩ := oB4_elim hf
  refine z_callVi (ws' := [(a_this, .inr (5, [.ref a_text, .int v_textLength, .int v_errorAt, .ref a_reader, .ref a_market, .ref a_draft, .ref a_history, .ref a_planner, .ref a_trialPlanner, .ref a_insertion, .ref a_queue, .int v_planned])), (a_market, .inr (2, [.int v_market_pitches, .ref a_market_rows, .ref a_market_rents, .ref a_market_roofs, .int v_market_traders, .ref a_market_trades, .ref a_market_fronts, .ref a_market_limits, .ref a_market_needy, .ref a_market_clashes, .int v_market_covers, .ref a_market_starts, .ref a_market_standing, .int v_market_coversBusy])), (a_market_rows, .inl (cI, 24, .inl v_market_rows)), (a_market_rents, .inl (cI, 24, .inl v_market_rents)), (a_market_roofs, .inl (cZ, 24, .inl v_market_roofs)), (a_market_trades, .inl (cI, 8, .inl v_market_trades)), (a_market_fronts, .inl (cI, 8, .inl v_market_fronts)), (a_market_limits, .inl (cI, 8, .inl v_market_limits)), (a_market_needy, .inl (cZ, 8, .inl v_market_needy)), (a_market_clashes, .inl (cI, 8, .inl v_market_clashes)), (a_market_starts, .inl (cI, 8, .inl v_market_starts)), (a_market_standing, .inl (cI, 24, .inl v_market_standing)), (a_draft, .inr (2, [.int v_1, .ref a_draft_rows, .ref a_draft_rents, .ref a_draft_roofs, .int v_5, .ref a_draft_trades, .ref a_draft_fronts, .ref a_draft_limits, .ref a_draft_needy, .ref a_draft_clashes, .int v_11, .ref a_draft_starts, .ref a_draft_standing, .int v_28])), (a_draft_rows, .inl (cI, 24, .inl v_2)), (a_draft_rents, .inl (cI, 24, .inl v_3)), (a_draft_roofs, .inl (cZ, 24, .inl v_4)), (a_draft_trades, .inl (cI, 8, .inl v_6)), (a_draft_fronts, .inl (cI, 8, .inl v_7)), (a_draft_limits, .inl (cI, 8, .inl v_8)), (a_draft_needy, .inl (cZ, 8, .inl v_9)), (a_draft_clashes, .inl (cI, 8, .inl v_10)), (a_draft_starts, .inl (cI, 8, .inl v_26)), (a_draft_standing, .inl (cI, 24, .inl v_27))]) (wr := [(a_this, .inr (5, [.ref a_text, .int v_textLength, .int v_errorAt, .ref a_reader, .ref a_market, .ref a_draft, .ref a_history, .ref a_planner, .ref a_trialPlanner, .ref a_insertion, .ref a_queue, .int v_planned])), (a_market, .inr (2, [.int v_market_pitches, .ref a_market_rows, .ref a_market_rents, .ref a_market_roofs, .int v_market_traders, .ref a_market_trades, .ref a_market_fronts, .ref a_market_limits, .ref a_market_needy, .ref a_market_clashes, .int v_market_covers, .ref a_market_starts, .ref a_market_standing, .int v_market_coversBusy])), (a_market_rows, .inl (cI, 24, .inl v_market_rows)), (a_market_rents, .inl (cI, 24, .inl v_market_rents)), (a_market_roofs, .inl (cZ, 24, .inl v_market_roofs)), (a_market_trades, .inl (cI, 8, .inl v_market_trades)), (a_market_fronts, .inl (cI, 8, .inl v_market_fronts)), (a_market_limits, .inl (cI, 8, .inl v_market_limits)), (a_market_needy, .inl (cZ, 8, .inl v_market_needy)), (a_market_clashes, .inl (cI, 8, .inl v_market_clashes)), (a_market_starts, .inl (cI, 8, .inl v_market_starts)), (a_market_standing, .inl (cI, 24, .inl v_market_standing))]) (As := [.int x1, .int (v_market_starts (x2).toNatClampNeg)]) (rest := []) E.1 hl hw (c_X2_seatIfPossible h_29) (cwV 2 hts (z_gV mw_491 mw_130 mw_131 mw_9 mw_132) rfl rfl rfl (by decide +kernel) ⟨(Nat.le_of_ble_eq_true rfl), (Nat.le_of_ble_eq_true rfl)⟩) [12, 13, 14, 15, 16, 17, 18, 19, 20, 21, 22] [0, 1, 2, 3, 4, 5, 6, 7, 8, 9, 10, 11] rfl rfl rfl rfl rfl rfl rfl (q0 := 0) rfl rfl rfl (Nat.le_of_ble_eq_true rfl) dX5_draftExchange_41 ⟨Nat.le_of_ble_eq_true rfl, Nat.le_of_ble_eq_true rfl⟩ (fun H locs hw => ?_)
  refine lv_if_eq (tgt := 71) hx hb dX5_draftExchange_44 (by decide) (fun hc => ?_) (fun hc => ?_)
  · have hf := oI_pos hc hf
    refine lv_iconst (v := 0) hx hb dX5_draftExchange_71 (by decide) ?_
    obtain ⟨rfl, rfl, rfl, rfl, rfl, rfl, rfl, rfl, rfl, rfl, rfl, rfl, rfl, rfl, rfl⟩ := oR15 hf
    exact z_zret E rfl rfl hw dX5_draftExchange_72
  · have hf := oI_neg hc hf
    refine lv_aload_n hx hb dX5_draftExchange_47 rfl (lv_at hl 0 rfl) ?_
    refine z_get E.1 hw in_wsX50 0 rfl rfl 5 (z_lt rfl) mw_445 (v := .ref a_draft) rfl dX5_draftExchange_48 ?_
    refine lv_iload_n hx hb dX5_draftExchange_51 rfl (lv_at hl 2 rfl) ?_
    refine lv_aload_n hx hb dX5_draftExchange_52 rfl (lv_at hl 0 rfl) ?_
    refine z_get E.1 hw in_wsX50 0 rfl rfl 4 (z_lt rfl) mw_411 (v := .ref a_market) rfl dX5_draftExchange_53 ?_
    refine z_get E.1 hw in_wsX20 1 rfl rfl 11 (z_lt rfl) mw_489 (v := .ref a_market_starts) rfl dX5_draftExchange_56 ?_
    refine lv_iload_n hx hb dX5_draftExchange_59 rfl (lv_at hl 1 rfl) ?_
    obtain ⟨h_30, hf⟩ := oA_elim hf
    refine z_iald E.1 hw 10 0 rfl rfl h_30 dX5_draftExchange_60 ?_
    obtain ⟨r_31, v_32, v_33, v_34, h_35, hf⟩ := oB4_elim hf
    refine z_callVi (ws' := [(a_this, .inr (5, [.ref a_text, .int v_textLength, .int v_errorAt, .ref a_reader, .ref a_market, .ref a_draft, .ref a_history, .ref a_planner, .ref a_trialPlanner, .ref a_insertion, .ref a_queue, .int v_planned])), (a_market, .inr (2, [.int v_market_pitches, .ref a_market_rows, .ref a_market_rents, .ref a_market_roofs, .int v_market_traders, .ref a_market_trades, .ref a_market_fronts, .ref a_market_limits, .ref a_market_needy, .ref a_market_clashes, .int v_market_covers, .ref a_market_starts, .ref a_market_standing, .int v_market_coversBusy])), (a_market_rows, .inl (cI, 24, .inl v_market_rows)), (a_market_rents, .inl (cI, 24, .inl v_market_rents)), (a_market_roofs, .inl (cZ, 24, .inl v_market_roofs)), (a_market_trades, .inl (cI, 8, .inl v_market_trades)), (a_market_fronts, .inl (cI, 8, .inl v_market_fronts)), (a_market_limits, .inl (cI, 8, .inl v_market_limits)), (a_market_needy, .inl (cZ, 8, .inl v_market_needy)), (a_market_clashes, .inl (cI, 8, .inl v_market_clashes)), (a_market_starts, .inl (cI, 8, .inl v_market_starts)), (a_market_standing, .inl (cI, 24, .inl v_market_standing)), (a_draft, .inr (2, [.int v_1, .ref a_draft_rows, .ref a_draft_rents, .ref a_draft_roofs, .int v_5, .ref a_draft_trades, .ref a_draft_fronts, .ref a_draft_limits, .ref a_draft_needy, .ref a_draft_clashes, .int v_11, .ref a_draft_starts, .ref a_draft_standing, .int v_34])), (a_draft_rows, .inl (cI, 24, .inl v_2)), (a_draft_rents, .inl (cI, 24, .inl v_3)), (a_draft_roofs, .inl (cZ, 24, .inl v_4)), (a_draft_trades, .inl (cI, 8, .inl v_6)), (a_draft_fronts, .inl (cI, 8, .inl v_7)), (a_draft_limits, .inl (cI, 8, .inl v_8)), (a_draft_needy, .inl (cZ, 8, .inl v_9)), (a_draft_clashes, .inl (cI, 8, .inl v_10)), (a_draft_starts, .inl (cI, 8, .inl v_32)), (a_draft_standing, .inl (cI, 24, .inl v_33))]) (wr := [(a_this, .inr (5, [.ref a_text, .int v_textLength, .int v_errorAt, .ref a_reader, .ref a_market, .ref a_draft, .ref a_history, .ref a_planner, .ref a_trialPlanner, .ref a_insertion, .ref a_queue, .int v_planned])), (a_market, .inr (2, [.int v_market_pitches, .ref a_market_rows, .ref a_market_rents, .ref a_market_roofs, .int v_market_traders, .ref a_market_trades, .ref a_market_fronts, .ref a_market_limits, .ref a_market_needy, .ref a_market_clashes, .int v_market_covers, .ref a_market_starts, .ref a_market_standing, .int v_market_coversBusy])), (a_market_rows, .inl (cI, 24, .inl v_market_rows)), (a_market_rents, .inl (cI, 24, .inl v_market_rents)), (a_market_roofs, .inl (cZ, 24, .inl v_market_roofs)), (a_market_trades, .inl (cI, 8, .inl v_market_trades)), (a_market_fronts, .inl (cI, 8, .inl v_market_fronts)), (a_market_limits, .inl (cI, 8, .inl v_market_limits)), (a_market_needy, .inl (cZ, 8, .inl v_market_needy)), (a_market_clashes, .inl (cI, 8, .inl v_market_clashes)), (a_market_starts, .inl (cI, 8, .inl v_market_starts)), (a_market_standing, .inl (cI, 24, .inl v_market_standing))]) (As := [.int x2, .int (v_market_starts (x1).toNatClampNeg)]) (rest := []) E.1 hl hw (c_X2_seatIfPossible h_35) (cwV 2 hts (z_gV mw_491 mw_130 mw_131 mw_9 mw_132) rfl rfl rfl (by decide +kernel) ⟨(Nat.le_of_ble_eq_true rfl), (Nat.le_of_ble_eq_true rfl)⟩) [12, 13, 14, 15, 16, 17, 18, 19, 20, 21, 22] [0, 1, 2, 3, 4, 5, 6, 7, 8, 9, 10, 11] rfl rfl rfl rfl rfl rfl rfl (q0 := 0) rfl rfl rfl (Nat.le_of_ble_eq_true rfl) dX5_draftExchange_61 ⟨Nat.le_of_ble_eq_true rfl, Nat.le_of_ble_eq_true rfl⟩ (fun H locs hw => ?_)
    refine lv_if_eq (tgt := 71) hx hb dX5_draftExchange_64 (by decide) (fun hc => ?_) (fun hc => ?_)
    · have hf := oI_pos hc hf
      refine lv_iconst (v := 0) hx hb dX5_draftExchange_71 (by decide) ?_
      obtain ⟨rfl, rfl, rfl, rfl, rfl, rfl, rfl, rfl, rfl, rfl, rfl, rfl, rfl, rfl, rfl⟩ := oR15 hf
      exact z_zret E rfl rfl hw dX5_draftExchange_72
    · have hf := oI_neg hc hf
      refine lv_iconst (v := 1) hx hb dX5_draftExchange_67 (by decide) ?_
      refine lv_goto (tgt := 72) hx hb dX5_draftExchange_68 (by decide) ?_
      obtain ⟨rfl, rfl, rfl, rfl, rfl, rfl, rfl, rfl, rfl, rfl, rfl, rfl, rfl, rfl, rfl⟩ := oR15 hf
      exact z_zret E rfl rfl hw dX5_draftExchange_72
end
/-! X5_errorPosition -/
section
variable {p : Program} {l : Launch} {e : Env} {s : State} {m : MethodId} {args : Array Value} {below : List Frame} {meth : Method} {c : Code} {D : va_G} {A : Nat → Prop} {cI cZ cM : ClassId} {a_this a_text a_reader a_market a_draft a_history a_planner a_trialPlanner a_insertion a_queue : Nat} {v_textLength : Int32} {v_planned : Int32} {r0 : Int32}
def rmX5_errorPosition : Room := { frames := 0, cells := 0, slots := 0, locals := 0 }
abbrev zwX5_errorPosition : List Cond := Cond.code yX5_errorPosition cX5_errorPosition 1 (some .int) :: wsAll
set_option maxHeartbeats 4000000 in
set_option maxRecDepth 100000 in
theorem c_X5_errorPosition {l : Launch} {D : va_G} {cI cZ cM : ClassId} {a_this a_text a_reader a_market a_draft a_history a_planner a_trialPlanner a_insertion a_queue : Nat} {v_textLength : Int32} {v_planned : Int32} {r0 : Int32} {sz : Nat} {v_errorAt : Int32} (hf : f_X5_errorPosition v_errorAt = some r0) : Met l yX5_errorPosition zwX5_errorPosition rmX5_errorPosition (zPc D (zT cI cZ cM) [.ref a_this] [(a_this, .inr (5, [.ref a_text, .int v_textLength, .int v_errorAt, .ref a_reader, .ref a_market, .ref a_draft, .ref a_history, .ref a_planner, .ref a_trialPlanner, .ref a_insertion, .ref a_queue, .int v_planned]))] sz) (zQi D (zT cI cZ cM) r0 [(a_this, .inr (5, [.ref a_text, .int v_textLength, .int v_errorAt, .ref a_reader, .ref a_market, .ref a_draft, .ref a_history, .ref a_planner, .ref a_trialPlanner, .ref a_insertion, .ref a_queue, .int v_planned]))] (va_A [(a_this, .inr (5, [.ref a_text, .int v_textLength, .int v_errorAt, .ref a_reader, .ref a_market, .ref a_draft, .ref a_history, .ref a_planner, .ref a_trialPlanner, .ref a_insertion, .ref a_queue, .int v_planned]))] sz)) 0 0 (va_A [(a_this, .inr (5, [.ref a_text, .int v_textLength, .int v_errorAt, .ref a_reader, .ref a_market, .ref a_draft, .ref a_history, .ref a_planner, .ref a_trialPlanner, .ref a_insertion, .ref a_queue, .int v_planned]))] sz) := by
  refine z_met (cc := cX5_errorPosition) (maxL := 1) (ret := (some .int)) (by decide) rfl (Nat.le_of_ble_eq_true rfl) ?_
  intro p e s m below meth c ls E hsz hw hl
  obtain ⟨⟨hx, hb, hml, hown, hts⟩, hr, hlocks⟩ := id E
  have hl : lv_has ls 1 [(0, .ref a_this)] := hl
  unfold f_X5_errorPosition at hf
  refine lv_aload_n hx hb dX5_errorPosition_0 rfl (lv_at hl 0 rfl) ?_
  refine z_get E.1 hw in_wsX50 0 rfl rfl 2 (z_lt rfl) mw_493 (v := .int v_errorAt) rfl dX5_errorPosition_1 ?_
  cases hf
  exact z_iret E rfl hw dX5_errorPosition_4
end
/-! X5_income -/
section
variable {p : Program} {l : Launch} {e : Env} {s : State} {m : MethodId} {args : Array Value} {below : List Frame} {meth : Method} {c : Code} {D : va_G} {A : Nat → Prop} {cI cZ cM : ClassId} {a_this a_text a_reader a_market a_draft a_history a_planner a_trialPlanner a_insertion a_queue a_market_rows a_market_rents a_market_roofs a_market_trades a_market_fronts a_market_limits a_market_needy a_market_clashes a_market_starts a_market_standing : Nat} {v_textLength : Int32} {v_errorAt : Int32} {v_planned : Int32} {v_market_covers : Int32} {v_market_coversBusy : Int32} {r0 : Int32}
def rmX5_income : Room := { frames := 3, cells := 0, slots := 0, locals := 68 }
abbrev zwX5_income : List Cond := Cond.code yX5_income cX5_income 1 (some .int) :: wsAll
set_option maxHeartbeats 4000000 in
set_option maxRecDepth 100000 in
theorem c_X5_income {l : Launch} {D : va_G} {cI cZ cM : ClassId} {a_this a_text a_reader a_market a_draft a_history a_planner a_trialPlanner a_insertion a_queue a_market_rows a_market_rents a_market_roofs a_market_trades a_market_fronts a_market_limits a_market_needy a_market_clashes a_market_starts a_market_standing : Nat} {v_textLength : Int32} {v_errorAt : Int32} {v_planned : Int32} {v_market_covers : Int32} {v_market_coversBusy : Int32} {r0 : Int32} {sz : Nat} {n : Nat} {v_market_pitches : Int32} {v_market_rents : Nat → Int32} {v_market_traders : Int32} {v_market_fronts : Nat → Int32} {v_market_starts : Nat → Int32} (hf : f_X5_income n v_market_pitches v_market_rents v_market_traders v_market_fronts v_market_starts = some r0) : Met l yX5_income zwX5_income rmX5_income (zPc D (zT cI cZ cM) [.ref a_this] [(a_this, .inr (5, [.ref a_text, .int v_textLength, .int v_errorAt, .ref a_reader, .ref a_market, .ref a_draft, .ref a_history, .ref a_planner, .ref a_trialPlanner, .ref a_insertion, .ref a_queue, .int v_planned])), (a_market, .inr (2, [.int v_market_pitches, .ref a_market_rows, .ref a_market_rents, .ref a_market_roofs, .int v_market_traders, .ref a_market_trades, .ref a_market_fronts, .ref a_market_limits, .ref a_market_needy, .ref a_market_clashes, .int v_market_covers, .ref a_market_starts, .ref a_market_standing, .int v_market_coversBusy])), (a_market_rents, .inl (cI, 24, .inl v_market_rents)), (a_market_fronts, .inl (cI, 8, .inl v_market_fronts)), (a_market_starts, .inl (cI, 8, .inl v_market_starts))] sz) (zQi D (zT cI cZ cM) r0 [(a_this, .inr (5, [.ref a_text, .int v_textLength, .int v_errorAt, .ref a_reader, .ref a_market, .ref a_draft, .ref a_history, .ref a_planner, .ref a_trialPlanner, .ref a_insertion, .ref a_queue, .int v_planned])), (a_market, .inr (2, [.int v_market_pitches, .ref a_market_rows, .ref a_market_rents, .ref a_market_roofs, .int v_market_traders, .ref a_market_trades, .ref a_market_fronts, .ref a_market_limits, .ref a_market_needy, .ref a_market_clashes, .int v_market_covers, .ref a_market_starts, .ref a_market_standing, .int v_market_coversBusy])), (a_market_rents, .inl (cI, 24, .inl v_market_rents)), (a_market_fronts, .inl (cI, 8, .inl v_market_fronts)), (a_market_starts, .inl (cI, 8, .inl v_market_starts))] (va_A [(a_this, .inr (5, [.ref a_text, .int v_textLength, .int v_errorAt, .ref a_reader, .ref a_market, .ref a_draft, .ref a_history, .ref a_planner, .ref a_trialPlanner, .ref a_insertion, .ref a_queue, .int v_planned])), (a_market, .inr (2, [.int v_market_pitches, .ref a_market_rows, .ref a_market_rents, .ref a_market_roofs, .int v_market_traders, .ref a_market_trades, .ref a_market_fronts, .ref a_market_limits, .ref a_market_needy, .ref a_market_clashes, .int v_market_covers, .ref a_market_starts, .ref a_market_standing, .int v_market_coversBusy])), (a_market_rents, .inl (cI, 24, .inl v_market_rents)), (a_market_fronts, .inl (cI, 8, .inl v_market_fronts)), (a_market_starts, .inl (cI, 8, .inl v_market_starts))] sz)) 0 0 (va_A [(a_this, .inr (5, [.ref a_text, .int v_textLength, .int v_errorAt, .ref a_reader, .ref a_market, .ref a_draft, .ref a_history, .ref a_planner, .ref a_trialPlanner, .ref a_insertion, .ref a_queue, .int v_planned])), (a_market, .inr (2, [.int v_market_pitches, .ref a_market_rows, .ref a_market_rents, .ref a_market_roofs, .int v_market_traders, .ref a_market_trades, .ref a_market_fronts, .ref a_market_limits, .ref a_market_needy, .ref a_market_clashes, .int v_market_covers, .ref a_market_starts, .ref a_market_standing, .int v_market_coversBusy])), (a_market_rents, .inl (cI, 24, .inl v_market_rents)), (a_market_fronts, .inl (cI, 8, .inl v_market_fronts)), (a_market_starts, .inl (cI, 8, .inl v_market_starts))] sz) := by
  refine z_met (cc := cX5_income) (maxL := 1) (ret := (some .int)) (by decide) rfl (Nat.le_of_ble_eq_true rfl) ?_
  intro p e s m below meth c ls E hsz hw hl
  obtain ⟨⟨hx, hb, hml, hown, hts⟩, hr, hlocks⟩ := id E
  have hl : lv_has ls 1 [(0, .ref a_this)] := hl
  unfold f_X5_income at hf
  refine lv_aload_n hx hb dX5_income_0 rfl (lv_at hl 0 rfl) ?_
  refine z_get E.1 hw in_wsX50 0 rfl rfl 4 (z_lt rfl) mw_411 (v := .ref a_market) rfl dX5_income_1 ?_
  obtain ⟨r_1, h_2, hf⟩ := oB_elim hf
  refine z_callVi (ws' := [(a_this, .inr (5, [.ref a_text, .int v_textLength, .int v_errorAt, .ref a_reader, .ref a_market, .ref a_draft, .ref a_history, .ref a_planner, .ref a_trialPlanner, .ref a_insertion, .ref a_queue, .int v_planned])), (a_market, .inr (2, [.int v_market_pitches, .ref a_market_rows, .ref a_market_rents, .ref a_market_roofs, .int v_market_traders, .ref a_market_trades, .ref a_market_fronts, .ref a_market_limits, .ref a_market_needy, .ref a_market_clashes, .int v_market_covers, .ref a_market_starts, .ref a_market_standing, .int v_market_coversBusy])), (a_market_rents, .inl (cI, 24, .inl v_market_rents)), (a_market_fronts, .inl (cI, 8, .inl v_market_fronts)), (a_market_starts, .inl (cI, 8, .inl v_market_starts))]) (wr := [(a_this, .inr (5, [.ref a_text, .int v_textLength, .int v_errorAt, .ref a_reader, .ref a_market, .ref a_draft, .ref a_history, .ref a_planner, .ref a_trialPlanner, .ref a_insertion, .ref a_queue, .int v_planned]))]) (As := []) (rest := []) E.1 hl hw (c_X2_totalRent h_2) (cwV 0 hts (z_gV mw_511 mw_105 mw_106 mw_9 mw_107) rfl rfl rfl (by decide +kernel) ⟨(Nat.le_of_ble_eq_true rfl), (Nat.le_of_ble_eq_true rfl)⟩) [1, 2, 3, 4] [0] rfl rfl rfl rfl rfl rfl rfl (q0 := 0) rfl rfl rfl (Nat.le_of_ble_eq_true rfl) dX5_income_4 ⟨Nat.le_of_ble_eq_true rfl, Nat.le_of_ble_eq_true rfl⟩ (fun H locs hw => ?_)
  cases hf
  exact z_iret E rfl hw dX5_income_7
end
/-! X5_isOutside -/
section
variable {p : Program} {l : Launch} {e : Env} {s : State} {m : MethodId} {args : Array Value} {below : List Frame} {meth : Method} {c : Code} {D : va_G} {A : Nat → Prop} {cI cZ cM : ClassId} {r0 : Int32}
def rmX5_isOutside : Room := { frames := 0, cells := 0, slots := 0, locals := 0 }
abbrev zwX5_isOutside : List Cond := Cond.code yX5_isOutside cX5_isOutside 3 (some .boolean) :: wsAll
set_option maxHeartbeats 4000000 in
set_option maxRecDepth 100000 in
theorem w_X5_isOutside_10 (E : zE p s m args meth c cX5_isOutside 3 (some .boolean) zwX5_isOutside RX5) : f_X5_isOutside_10 = some r0 → ∀ (H : Heap) (locs : List Loc) (ls : Array Slot), zW D (zT cI cZ cM) A s [] H locs → lv_has ls 3 [] → W p l e rmX5_isOutside s m args below meth c H locs 0 0 (MQ below (zQi D (zT cI cZ cM) r0 [] A) args s 0 0 A) (F0 m 10 ls []) := by
  obtain ⟨⟨hx, hb, hml, hown, hts⟩, hr, hlocks⟩ := id E
  intro  hf H locs ls hw hl
  unfold f_X5_isOutside_10 at hf
  refine lv_iconst (v := 1) hx hb dX5_isOutside_10 (by decide) ?_
  refine lv_goto (tgt := 15) hx hb dX5_isOutside_11 (by decide) ?_
  cases hf
  exact z_zret E rfl rfl hw dX5_isOutside_15
set_option maxHeartbeats 4000000 in
set_option maxRecDepth 100000 in
theorem c_X5_isOutside {l : Launch} {D : va_G} {cI cZ cM : ClassId} {r0 : Int32} {sz : Nat} {x0 : Int32} {x1 : Int32} {x2 : Int32} (hf : f_X5_isOutside x0 x1 x2 = some r0) : Met l yX5_isOutside zwX5_isOutside rmX5_isOutside (zPc D (zT cI cZ cM) [.int x0, .int x1, .int x2] [] sz) (zQi D (zT cI cZ cM) r0 [] (va_A [] sz)) 0 0 (va_A [] sz) := by
  refine z_met (cc := cX5_isOutside) (maxL := 3) (ret := (some .boolean)) (by decide) rfl (Nat.le_of_ble_eq_true rfl) ?_
  intro p e s m below meth c ls E hsz hw hl
  obtain ⟨⟨hx, hb, hml, hown, hts⟩, hr, hlocks⟩ := id E
  have hl : lv_has ls 3 [(0, .int x0), (1, .int x1), (2, .int x2)] := hl
  unfold f_X5_isOutside at hf
  refine lv_iload_n hx hb dX5_isOutside_0 rfl (lv_at hl 0 rfl) ?_
  refine lv_iload_n hx hb dX5_isOutside_1 rfl (lv_at hl 1 rfl) ?_
  refine lv_icmp_lt (tgt := 10) hx hb dX5_isOutside_2 (by decide) (fun hc => ?_) (fun hc => ?_)
  · have hf := oI_pos hc hf
    exact w_X5_isOutside_10 E   hf _ _ _ hw (lv_sub hl [] rfl)
  · have hf := oI_neg hc hf
    refine lv_iload_n hx hb dX5_isOutside_5 rfl (lv_at hl 0 rfl) ?_
    refine lv_iload_n hx hb dX5_isOutside_6 rfl (lv_at hl 2 rfl) ?_
    refine lv_icmp_le (tgt := 14) hx hb dX5_isOutside_7 (by decide) (fun hc => ?_) (fun hc => ?_)
    · have hf := oI_pos hc hf
      refine lv_iconst (v := 0) hx hb dX5_isOutside_14 (by decide) ?_
      cases hf
      exact z_zret E rfl rfl hw dX5_isOutside_15
    · have hf := oI_neg hc hf
      exact w_X5_isOutside_10 E   hf _ _ _ hw (lv_sub hl [] rfl)
end
/-! X5_isNoTrade -/
section
variable {p : Program} {l : Launch} {e : Env} {s : State} {m : MethodId} {args : Array Value} {below : List Frame} {meth : Method} {c : Code} {D : va_G} {A : Nat → Prop} {cI cZ cM : ClassId} {r0 : Int32}
def rmX5_isNoTrade : Room := { frames := 1, cells := 0, slots := 0, locals := 22 }
abbrev zwX5_isNoTrade : List Cond := Cond.code yX5_isNoTrade cX5_isNoTrade 1 (some .boolean) :: wsAll
set_option maxHeartbeats 4000000 in
set_option maxRecDepth 100000 in
theorem c_X5_isNoTrade {l : Launch} {D : va_G} {cI cZ cM : ClassId} {r0 : Int32} {sz : Nat} {x0 : Int32} (hf : f_X5_isNoTrade x0 = some r0) : Met l yX5_isNoTrade zwX5_isNoTrade rmX5_isNoTrade (zPc D (zT cI cZ cM) [.int x0] [] sz) (zQi D (zT cI cZ cM) r0 [] (va_A [] sz)) 0 0 (va_A [] sz) := by
  refine z_met (cc := cX5_isNoTrade) (maxL := 1) (ret := (some .boolean)) (by decide) rfl (Nat.le_of_ble_eq_true rfl) ?_
  intro p e s m below meth c ls E hsz hw hl
  obtain ⟨⟨hx, hb, hml, hown, hts⟩, hr, hlocks⟩ := id E
  have hl : lv_has ls 1 [(0, .int x0)] := hl
  unfold f_X5_isNoTrade at hf
  refine lv_iload_n hx hb dX5_isNoTrade_0 rfl (lv_at hl 0 rfl) ?_
  refine lv_iconst (v := 0) hx hb dX5_isNoTrade_1 (by decide) ?_
  refine lv_bipush (v := 7) hx hb dX5_isNoTrade_2 (by decide) ?_
  obtain ⟨r_1, h_2, hf⟩ := oB_elim hf
  refine z_callSi (ws' := []) (wr := []) (As := [.int x0, .int (0 : Int32), .int (7 : Int32)]) (rest := []) E.1 hl hw (c_X5_isOutside h_2) (va_cwS 3 hts (z_gS mw_418 mw_377 mw_378 mw_379) rfl rfl rfl (by decide +kernel) ⟨(Nat.le_of_ble_eq_true rfl), (Nat.le_of_ble_eq_true rfl)⟩) [] [] rfl rfl rfl rfl rfl rfl rfl rfl (Nat.le_of_ble_eq_true rfl) dX5_isNoTrade_4 ⟨Nat.le_of_ble_eq_true rfl, Nat.le_of_ble_eq_true rfl⟩ (fun H locs hw => ?_)
  obtain ⟨h_3, hf⟩ := oG_elim hf
  cases hf
  exact z_zret E rfl (z_nar h_3) hw dX5_isNoTrade_7
end
/-! X5_pitchCount -/
section
variable {p : Program} {l : Launch} {e : Env} {s : State} {m : MethodId} {args : Array Value} {below : List Frame} {meth : Method} {c : Code} {D : va_G} {A : Nat → Prop} {cI cZ cM : ClassId} {a_this a_text a_reader a_market a_draft a_history a_planner a_trialPlanner a_insertion a_queue a_market_rows a_market_rents a_market_roofs a_market_trades a_market_fronts a_market_limits a_market_needy a_market_clashes a_market_starts a_market_standing : Nat} {v_textLength : Int32} {v_errorAt : Int32} {v_planned : Int32} {v_market_traders : Int32} {v_market_covers : Int32} {v_market_coversBusy : Int32} {r0 : Int32}
def rmX5_pitchCount : Room := { frames := 0, cells := 0, slots := 0, locals := 0 }
abbrev zwX5_pitchCount : List Cond := Cond.code yX5_pitchCount cX5_pitchCount 1 (some .int) :: wsAll
set_option maxHeartbeats 4000000 in
set_option maxRecDepth 100000 in
theorem c_X5_pitchCount {l : Launch} {D : va_G} {cI cZ cM : ClassId} {a_this a_text a_reader a_market a_draft a_history a_planner a_trialPlanner a_insertion a_queue a_market_rows a_market_rents a_market_roofs a_market_trades a_market_fronts a_market_limits a_market_needy a_market_clashes a_market_starts a_market_standing : Nat} {v_textLength : Int32} {v_errorAt : Int32} {v_planned : Int32} {v_market_traders : Int32} {v_market_covers : Int32} {v_market_coversBusy : Int32} {r0 : Int32} {sz : Nat} {v_market_pitches : Int32} (hf : f_X5_pitchCount v_market_pitches = some r0) : Met l yX5_pitchCount zwX5_pitchCount rmX5_pitchCount (zPc D (zT cI cZ cM) [.ref a_this] [(a_this, .inr (5, [.ref a_text, .int v_textLength, .int v_errorAt, .ref a_reader, .ref a_market, .ref a_draft, .ref a_history, .ref a_planner, .ref a_trialPlanner, .ref a_insertion, .ref a_queue, .int v_planned])), (a_market, .inr (2, [.int v_market_pitches, .ref a_market_rows, .ref a_market_rents, .ref a_market_roofs, .int v_market_traders, .ref a_market_trades, .ref a_market_fronts, .ref a_market_limits, .ref a_market_needy, .ref a_market_clashes, .int v_market_covers, .ref a_market_starts, .ref a_market_standing, .int v_market_coversBusy]))] sz) (zQi D (zT cI cZ cM) r0 [(a_this, .inr (5, [.ref a_text, .int v_textLength, .int v_errorAt, .ref a_reader, .ref a_market, .ref a_draft, .ref a_history, .ref a_planner, .ref a_trialPlanner, .ref a_insertion, .ref a_queue, .int v_planned])), (a_market, .inr (2, [.int v_market_pitches, .ref a_market_rows, .ref a_market_rents, .ref a_market_roofs, .int v_market_traders, .ref a_market_trades, .ref a_market_fronts, .ref a_market_limits, .ref a_market_needy, .ref a_market_clashes, .int v_market_covers, .ref a_market_starts, .ref a_market_standing, .int v_market_coversBusy]))] (va_A [(a_this, .inr (5, [.ref a_text, .int v_textLength, .int v_errorAt, .ref a_reader, .ref a_market, .ref a_draft, .ref a_history, .ref a_planner, .ref a_trialPlanner, .ref a_insertion, .ref a_queue, .int v_planned])), (a_market, .inr (2, [.int v_market_pitches, .ref a_market_rows, .ref a_market_rents, .ref a_market_roofs, .int v_market_traders, .ref a_market_trades, .ref a_market_fronts, .ref a_market_limits, .ref a_market_needy, .ref a_market_clashes, .int v_market_covers, .ref a_market_starts, .ref a_market_standing, .int v_market_coversBusy]))] sz)) 0 0 (va_A [(a_this, .inr (5, [.ref a_text, .int v_textLength, .int v_errorAt, .ref a_reader, .ref a_market, .ref a_draft, .ref a_history, .ref a_planner, .ref a_trialPlanner, .ref a_insertion, .ref a_queue, .int v_planned])), (a_market, .inr (2, [.int v_market_pitches, .ref a_market_rows, .ref a_market_rents, .ref a_market_roofs, .int v_market_traders, .ref a_market_trades, .ref a_market_fronts, .ref a_market_limits, .ref a_market_needy, .ref a_market_clashes, .int v_market_covers, .ref a_market_starts, .ref a_market_standing, .int v_market_coversBusy]))] sz) := by
  refine z_met (cc := cX5_pitchCount) (maxL := 1) (ret := (some .int)) (by decide) rfl (Nat.le_of_ble_eq_true rfl) ?_
  intro p e s m below meth c ls E hsz hw hl
  obtain ⟨⟨hx, hb, hml, hown, hts⟩, hr, hlocks⟩ := id E
  have hl : lv_has ls 1 [(0, .ref a_this)] := hl
  unfold f_X5_pitchCount at hf
  refine lv_aload_n hx hb dX5_pitchCount_0 rfl (lv_at hl 0 rfl) ?_
  refine z_get E.1 hw in_wsX50 0 rfl rfl 4 (z_lt rfl) mw_411 (v := .ref a_market) rfl dX5_pitchCount_1 ?_
  refine z_get E.1 hw in_wsX20 1 rfl rfl 0 (z_lt rfl) mw_560 (v := .int v_market_pitches) rfl dX5_pitchCount_4 ?_
  cases hf
  exact z_iret E rfl hw dX5_pitchCount_7
end
/-! X5_readQueue -/
section
variable {p : Program} {l : Launch} {e : Env} {s : State} {m : MethodId} {args : Array Value} {below : List Frame} {meth : Method} {c : Code} {D : va_G} {A : Nat → Prop} {cI cZ cM : ClassId} {a_this a_text a_reader a_market a_draft a_history a_planner a_trialPlanner a_insertion a_queue a_market_rows a_market_rents a_market_roofs a_market_trades a_market_fronts a_market_limits a_market_needy a_market_clashes a_market_starts a_market_standing : Nat} {v_textLength : Int32} {v_errorAt : Int32} {v_planned : Int32} {v_market_pitches : Int32} {v_market_covers : Int32} {v_market_coversBusy : Int32} {r0 : Int32} {w_queue : Nat → Int32}
def rmX5_readQueue : Room := { frames := 1, cells := 0, slots := 0, locals := 21 }
abbrev zwX5_readQueue : List Cond := Cond.code yX5_readQueue cX5_readQueue 8 (some .int) :: wsAll
set_option maxHeartbeats 4000000 in
set_option maxRecDepth 100000 in
theorem w_X5_readQueue_16 {n : Nat} (E : zE p s m args meth c cX5_readQueue 8 (some .int) zwX5_readQueue RX5) : ∀ (fu : Nat), ∀ (x3 : Int32) (x4 : Int32) (x5 : Int64) (v_market_traders : Int32) (v_queue : Nat → Int32), f_X5_readQueue_16 n fu x3 x4 x5 v_market_traders v_queue = some (r0, w_queue) → ∀ (H : Heap) (locs : List Loc) (ls : Array Slot), zW D (zT cI cZ cM) A s [(a_this, .inr (5, [.ref a_text, .int v_textLength, .int v_errorAt, .ref a_reader, .ref a_market, .ref a_draft, .ref a_history, .ref a_planner, .ref a_trialPlanner, .ref a_insertion, .ref a_queue, .int v_planned])), (a_market, .inr (2, [.int v_market_pitches, .ref a_market_rows, .ref a_market_rents, .ref a_market_roofs, .int v_market_traders, .ref a_market_trades, .ref a_market_fronts, .ref a_market_limits, .ref a_market_needy, .ref a_market_clashes, .int v_market_covers, .ref a_market_starts, .ref a_market_standing, .int v_market_coversBusy])), (a_queue, .inl (cI, 8, .inl v_queue))] H locs → lv_has ls 8 [(0, .ref a_this), (3, .int x3), (4, .int x4), (5, .long x5)] → W p l e rmX5_readQueue s m args below meth c H locs 0 0 (MQ below (zQi D (zT cI cZ cM) r0 [(a_this, .inr (5, [.ref a_text, .int v_textLength, .int v_errorAt, .ref a_reader, .ref a_market, .ref a_draft, .ref a_history, .ref a_planner, .ref a_trialPlanner, .ref a_insertion, .ref a_queue, .int v_planned])), (a_market, .inr (2, [.int v_market_pitches, .ref a_market_rows, .ref a_market_rents, .ref a_market_roofs, .int v_market_traders, .ref a_market_trades, .ref a_market_fronts, .ref a_market_limits, .ref a_market_needy, .ref a_market_clashes, .int v_market_covers, .ref a_market_starts, .ref a_market_standing, .int v_market_coversBusy])), (a_queue, .inl (cI, 8, .inl w_queue))] A) args s 0 0 A) (F0 m 16 ls []) := by
  obtain ⟨⟨hx, hb, hml, hown, hts⟩, hr, hlocks⟩ := id E
  intro fu
  induction fu with
  | zero => intro x3 x4 x5 v_market_traders v_queue hf; rw [f_X5_readQueue_16.eq_1] at hf; cases hf
  | succ fu ih =>
    intro x3 x4 x5 v_market_traders v_queue hf H locs ls hw hl
    rw [f_X5_readQueue_16.eq_2] at hf
    refine lv_lload hx hb dX5_readQueue_16 (lv_at hl 3 rfl) ?_
    refine lv_lconst (v := 0) hx hb dX5_readQueue_18 (by decide) ?_
    refine W.lcmp hx hb dX5_readQueue_19 ?_
    refine lv_if_le (tgt := 94) hx hb dX5_readQueue_20 (by decide) (fun hc => ?_) (fun hc => ?_)
    · have hf := oI_pos hc hf
      refine lv_iload hx hb dX5_readQueue_94 (lv_at hl 2 rfl) ?_
      obtain ⟨rfl, rfl⟩ := oR2 hf
      exact z_iret E rfl hw dX5_readQueue_96
    · have hf := oI_neg hc hf
      refine lv_lload hx hb dX5_readQueue_23 (lv_at hl 3 rfl) ?_
      refine lv_ldc2 (v := 10) hx hb hown (hts _ mw_507) dX5_readQueue_25 ?_
      refine lv_lrem hx hb dX5_readQueue_28 (by decide) ?_
      refine lv_l2i hx hb dX5_readQueue_29 rfl ?_
      refine lv_iconst (v := 1) hx hb dX5_readQueue_30 (by decide) ?_
      refine lv_isub hx hb dX5_readQueue_31 ?_
      obtain ⟨y_1, e_y_1, hf⟩ := oL_elim hf
      refine z_top e_y_1 ?_
      refine lv_istore (lv' := [(7, .int y_1), (0, .ref a_this), (3, .int x3), (4, .int x4), (5, .long x5)]) hx hb dX5_readQueue_32 hl (z_lt rfl) rfl (fun ls hl => ?_)
      refine lv_aload_n hx hb dX5_readQueue_34 rfl (lv_at hl 1 rfl) ?_
      refine z_get E.1 hw in_wsX50 0 rfl rfl 4 (z_lt rfl) mw_411 (v := .ref a_market) rfl dX5_readQueue_35 ?_
      refine lv_iload hx hb dX5_readQueue_38 (lv_at hl 0 rfl) ?_
      obtain ⟨r_2, h_3, hf⟩ := oB_elim hf
      refine z_callVi (ws' := [(a_this, .inr (5, [.ref a_text, .int v_textLength, .int v_errorAt, .ref a_reader, .ref a_market, .ref a_draft, .ref a_history, .ref a_planner, .ref a_trialPlanner, .ref a_insertion, .ref a_queue, .int v_planned])), (a_market, .inr (2, [.int v_market_pitches, .ref a_market_rows, .ref a_market_rents, .ref a_market_roofs, .int v_market_traders, .ref a_market_trades, .ref a_market_fronts, .ref a_market_limits, .ref a_market_needy, .ref a_market_clashes, .int v_market_covers, .ref a_market_starts, .ref a_market_standing, .int v_market_coversBusy])), (a_queue, .inl (cI, 8, .inl v_queue))]) (wr := [(a_this, .inr (5, [.ref a_text, .int v_textLength, .int v_errorAt, .ref a_reader, .ref a_market, .ref a_draft, .ref a_history, .ref a_planner, .ref a_trialPlanner, .ref a_insertion, .ref a_queue, .int v_planned])), (a_queue, .inl (cI, 8, .inl v_queue))]) (As := [.int y_1]) (rest := []) E.1 hl hw (c_X2_hasTrader h_3) (cwV 1 hts (z_gV mw_482 mw_483 mw_484 mw_9 mw_162) rfl rfl rfl (by decide +kernel) ⟨(Nat.le_of_ble_eq_true rfl), (Nat.le_of_ble_eq_true rfl)⟩) [1] [0, 2] rfl rfl rfl rfl rfl rfl rfl (q0 := 0) rfl rfl rfl (Nat.le_of_ble_eq_true rfl) dX5_readQueue_40 ⟨Nat.le_of_ble_eq_true rfl, Nat.le_of_ble_eq_true rfl⟩ (fun H locs hw => ?_)
      refine lv_if_eq (tgt := 62) hx hb dX5_readQueue_43 (by decide) (fun hc => ?_) (fun hc => ?_)
      · have hf := oI_pos hc hf
        refine lv_iconst (v := -1) hx hb dX5_readQueue_62 (by decide) ?_
        obtain ⟨rfl, rfl⟩ := oR2 hf
        exact z_iret E rfl hw dX5_readQueue_63
      · have hf := oI_neg hc hf
        refine lv_iload_n hx hb dX5_readQueue_46 rfl (lv_at hl 2 rfl) ?_
        refine lv_iload hx hb dX5_readQueue_47 (lv_at hl 0 rfl) ?_
        refine lv_ishr hx hb dX5_readQueue_49 ?_
        refine lv_iconst (v := 1) hx hb dX5_readQueue_50 (by decide) ?_
        refine lv_iand hx hb dX5_readQueue_51 ?_
        refine lv_if_ne (tgt := 62) hx hb dX5_readQueue_52 (by decide) (fun hc => ?_) (fun hc => ?_)
        · have hf := oI_neg hc hf
          refine lv_iconst (v := -1) hx hb dX5_readQueue_62 (by decide) ?_
          obtain ⟨rfl, rfl⟩ := oR2 hf
          exact z_iret E rfl hw dX5_readQueue_63
        · have hf := oI_pos hc hf
          refine lv_iload hx hb dX5_readQueue_55 (lv_at hl 3 rfl) ?_
          refine lv_bipush (v := 8) hx hb dX5_readQueue_57 (by decide) ?_
          refine lv_icmp_lt (tgt := 64) hx hb dX5_readQueue_59 (by decide) (fun hc => ?_) (fun hc => ?_)
          · have hf := oI_pos hc hf
            refine lv_iload_n hx hb dX5_readQueue_64 rfl (lv_at hl 2 rfl) ?_
            refine lv_iconst (v := 1) hx hb dX5_readQueue_65 (by decide) ?_
            refine lv_iload hx hb dX5_readQueue_66 (lv_at hl 0 rfl) ?_
            refine lv_ishl hx hb dX5_readQueue_68 ?_
            refine lv_ior hx hb dX5_readQueue_69 ?_
            obtain ⟨y_4, e_y_4, hf⟩ := oL_elim hf
            refine z_top e_y_4 ?_
            refine lv_istore_n (lv' := [(3, .int y_4), (7, .int y_1), (0, .ref a_this), (4, .int x4), (5, .long x5)]) hx hb dX5_readQueue_70 rfl hl (z_lt rfl) rfl (fun ls hl => ?_)
            refine lv_aload_n hx hb dX5_readQueue_71 rfl (lv_at hl 2 rfl) ?_
            refine z_get E.1 hw in_wsX50 0 rfl rfl 10 (z_lt rfl) mw_502 (v := .ref a_queue) rfl dX5_readQueue_72 ?_
            refine lv_iload hx hb dX5_readQueue_75 (lv_at hl 3 rfl) ?_
            refine lv_iload hx hb dX5_readQueue_77 (lv_at hl 1 rfl) ?_
            obtain ⟨h_5, hf⟩ := oA_elim hf
            obtain ⟨v_6, e_v_6, hf⟩ := oL_elim hf
            refine z_iast (ws' := [(a_this, .inr (5, [.ref a_text, .int v_textLength, .int v_errorAt, .ref a_reader, .ref a_market, .ref a_draft, .ref a_history, .ref a_planner, .ref a_trialPlanner, .ref a_insertion, .ref a_queue, .int v_planned])), (a_market, .inr (2, [.int v_market_pitches, .ref a_market_rows, .ref a_market_rents, .ref a_market_roofs, .int v_market_traders, .ref a_market_trades, .ref a_market_fronts, .ref a_market_limits, .ref a_market_needy, .ref a_market_clashes, .int v_market_covers, .ref a_market_starts, .ref a_market_standing, .int v_market_coversBusy])), (a_queue, .inl (cI, 8, .inl v_6))]) E.1 hw 2 0 rfl rfl h_5 (by subst e_v_6; rfl) dX5_readQueue_79 (fun H locs hw => ?_)
            refine lv_iinc (v := (x4 + (1 : Int32))) (lv' := [(4, .int (x4 + (1 : Int32))), (3, .int y_4), (7, .int y_1), (0, .ref a_this), (5, .long x5)]) hx hb dX5_readQueue_80 hl (k := 3) rfl rfl (z_lt rfl) rfl (fun ls hl => ?_)
            refine lv_lload hx hb dX5_readQueue_83 (lv_at hl 4 rfl) ?_
            refine lv_ldc2 (v := 10) hx hb hown (hts _ mw_507) dX5_readQueue_85 ?_
            refine lv_ldiv hx hb dX5_readQueue_88 (by decide) ?_
            obtain ⟨y_7, e_y_7, hf⟩ := oL_elim hf
            refine z_topl e_y_7 ?_
            refine lv_lstore (lv' := [(5, .long y_7), (4, .int (x4 + (1 : Int32))), (3, .int y_4), (7, .int y_1), (0, .ref a_this)]) hx hb dX5_readQueue_89 hl (z_lt rfl) rfl (fun ls hl => ?_)
            refine lv_goto (tgt := 16) hx hb dX5_readQueue_91 (by decide) ?_
            exact ih _ _ _ _ _ hf _ _ _ hw (lv_sub hl [4, 2, 1, 0] rfl)
          · have hf := oI_neg hc hf
            refine lv_iconst (v := -1) hx hb dX5_readQueue_62 (by decide) ?_
            obtain ⟨rfl, rfl⟩ := oR2 hf
            exact z_iret E rfl hw dX5_readQueue_63
set_option maxHeartbeats 4000000 in
set_option maxRecDepth 100000 in
theorem c_X5_readQueue {l : Launch} {D : va_G} {cI cZ cM : ClassId} {a_this a_text a_reader a_market a_draft a_history a_planner a_trialPlanner a_insertion a_queue a_market_rows a_market_rents a_market_roofs a_market_trades a_market_fronts a_market_limits a_market_needy a_market_clashes a_market_starts a_market_standing : Nat} {v_textLength : Int32} {v_errorAt : Int32} {v_planned : Int32} {v_market_pitches : Int32} {v_market_covers : Int32} {v_market_coversBusy : Int32} {r0 : Int32} {w_queue : Nat → Int32} {sz : Nat} {n : Nat} {v_market_traders : Int32} {v_queue : Nat → Int32} {x1 : Int64} (hf : f_X5_readQueue n v_market_traders v_queue x1 = some (r0, w_queue)) : Met l yX5_readQueue zwX5_readQueue rmX5_readQueue (zPc D (zT cI cZ cM) [.ref a_this, .long x1] [(a_this, .inr (5, [.ref a_text, .int v_textLength, .int v_errorAt, .ref a_reader, .ref a_market, .ref a_draft, .ref a_history, .ref a_planner, .ref a_trialPlanner, .ref a_insertion, .ref a_queue, .int v_planned])), (a_market, .inr (2, [.int v_market_pitches, .ref a_market_rows, .ref a_market_rents, .ref a_market_roofs, .int v_market_traders, .ref a_market_trades, .ref a_market_fronts, .ref a_market_limits, .ref a_market_needy, .ref a_market_clashes, .int v_market_covers, .ref a_market_starts, .ref a_market_standing, .int v_market_coversBusy])), (a_queue, .inl (cI, 8, .inl v_queue))] sz) (zQi D (zT cI cZ cM) r0 [(a_this, .inr (5, [.ref a_text, .int v_textLength, .int v_errorAt, .ref a_reader, .ref a_market, .ref a_draft, .ref a_history, .ref a_planner, .ref a_trialPlanner, .ref a_insertion, .ref a_queue, .int v_planned])), (a_market, .inr (2, [.int v_market_pitches, .ref a_market_rows, .ref a_market_rents, .ref a_market_roofs, .int v_market_traders, .ref a_market_trades, .ref a_market_fronts, .ref a_market_limits, .ref a_market_needy, .ref a_market_clashes, .int v_market_covers, .ref a_market_starts, .ref a_market_standing, .int v_market_coversBusy])), (a_queue, .inl (cI, 8, .inl w_queue))] (va_A [(a_this, .inr (5, [.ref a_text, .int v_textLength, .int v_errorAt, .ref a_reader, .ref a_market, .ref a_draft, .ref a_history, .ref a_planner, .ref a_trialPlanner, .ref a_insertion, .ref a_queue, .int v_planned])), (a_market, .inr (2, [.int v_market_pitches, .ref a_market_rows, .ref a_market_rents, .ref a_market_roofs, .int v_market_traders, .ref a_market_trades, .ref a_market_fronts, .ref a_market_limits, .ref a_market_needy, .ref a_market_clashes, .int v_market_covers, .ref a_market_starts, .ref a_market_standing, .int v_market_coversBusy])), (a_queue, .inl (cI, 8, .inl v_queue))] sz)) 0 0 (va_A [(a_this, .inr (5, [.ref a_text, .int v_textLength, .int v_errorAt, .ref a_reader, .ref a_market, .ref a_draft, .ref a_history, .ref a_planner, .ref a_trialPlanner, .ref a_insertion, .ref a_queue, .int v_planned])), (a_market, .inr (2, [.int v_market_pitches, .ref a_market_rows, .ref a_market_rents, .ref a_market_roofs, .int v_market_traders, .ref a_market_trades, .ref a_market_fronts, .ref a_market_limits, .ref a_market_needy, .ref a_market_clashes, .int v_market_covers, .ref a_market_starts, .ref a_market_standing, .int v_market_coversBusy])), (a_queue, .inl (cI, 8, .inl v_queue))] sz) := by
  refine z_met (cc := cX5_readQueue) (maxL := 8) (ret := (some .int)) (by decide) rfl (Nat.le_of_ble_eq_true rfl) ?_
  intro p e s m below meth c ls E hsz hw hl
  obtain ⟨⟨hx, hb, hml, hown, hts⟩, hr, hlocks⟩ := id E
  have hl : lv_has ls 8 [(0, .ref a_this), (1, .long x1)] := hl
  unfold f_X5_readQueue at hf
  refine lv_lload_n hx hb dX5_readQueue_0 rfl (lv_at hl 1 rfl) ?_
  refine lv_lconst (v := 0) hx hb dX5_readQueue_1 (by decide) ?_
  refine W.lcmp hx hb dX5_readQueue_2 ?_
  refine lv_if_ge (tgt := 8) hx hb dX5_readQueue_3 (by decide) (fun hc => ?_) (fun hc => ?_)
  · have hf := oI_pos hc hf
    refine lv_iconst (v := 0) hx hb dX5_readQueue_8 (by decide) ?_
    refine lv_istore_n (lv' := [(3, .int (0 : Int32)), (0, .ref a_this), (1, .long x1)]) hx hb dX5_readQueue_9 rfl hl (z_lt rfl) rfl (fun ls hl => ?_)
    refine lv_iconst (v := 0) hx hb dX5_readQueue_10 (by decide) ?_
    refine lv_istore (lv' := [(4, .int (0 : Int32)), (3, .int (0 : Int32)), (0, .ref a_this), (1, .long x1)]) hx hb dX5_readQueue_11 hl (z_lt rfl) rfl (fun ls hl => ?_)
    refine lv_lload_n hx hb dX5_readQueue_13 rfl (lv_at hl 3 rfl) ?_
    refine lv_lstore (lv' := [(5, .long x1), (4, .int (0 : Int32)), (3, .int (0 : Int32)), (0, .ref a_this), (1, .long x1)]) hx hb dX5_readQueue_14 hl (z_lt rfl) rfl (fun ls hl => ?_)
    exact w_X5_readQueue_16 E  n _ _ _ _ _ hf _ _ _ hw (lv_sub hl [3, 2, 1, 0] rfl)
  · have hf := oI_neg hc hf
    refine lv_iconst (v := -1) hx hb dX5_readQueue_6 (by decide) ?_
    obtain ⟨rfl, rfl⟩ := oR2 hf
    exact z_iret E rfl hw dX5_readQueue_7
end
/-! X5_traderCount -/
section
variable {p : Program} {l : Launch} {e : Env} {s : State} {m : MethodId} {args : Array Value} {below : List Frame} {meth : Method} {c : Code} {D : va_G} {A : Nat → Prop} {cI cZ cM : ClassId} {a_this a_text a_reader a_market a_draft a_history a_planner a_trialPlanner a_insertion a_queue a_market_rows a_market_rents a_market_roofs a_market_trades a_market_fronts a_market_limits a_market_needy a_market_clashes a_market_starts a_market_standing : Nat} {v_textLength : Int32} {v_errorAt : Int32} {v_planned : Int32} {v_market_pitches : Int32} {v_market_covers : Int32} {v_market_coversBusy : Int32} {r0 : Int32}
def rmX5_traderCount : Room := { frames := 0, cells := 0, slots := 0, locals := 0 }
abbrev zwX5_traderCount : List Cond := Cond.code yX5_traderCount cX5_traderCount 1 (some .int) :: wsAll
set_option maxHeartbeats 4000000 in
set_option maxRecDepth 100000 in
theorem c_X5_traderCount {l : Launch} {D : va_G} {cI cZ cM : ClassId} {a_this a_text a_reader a_market a_draft a_history a_planner a_trialPlanner a_insertion a_queue a_market_rows a_market_rents a_market_roofs a_market_trades a_market_fronts a_market_limits a_market_needy a_market_clashes a_market_starts a_market_standing : Nat} {v_textLength : Int32} {v_errorAt : Int32} {v_planned : Int32} {v_market_pitches : Int32} {v_market_covers : Int32} {v_market_coversBusy : Int32} {r0 : Int32} {sz : Nat} {v_market_traders : Int32} (hf : f_X5_traderCount v_market_traders = some r0) : Met l yX5_traderCount zwX5_traderCount rmX5_traderCount (zPc D (zT cI cZ cM) [.ref a_this] [(a_this, .inr (5, [.ref a_text, .int v_textLength, .int v_errorAt, .ref a_reader, .ref a_market, .ref a_draft, .ref a_history, .ref a_planner, .ref a_trialPlanner, .ref a_insertion, .ref a_queue, .int v_planned])), (a_market, .inr (2, [.int v_market_pitches, .ref a_market_rows, .ref a_market_rents, .ref a_market_roofs, .int v_market_traders, .ref a_market_trades, .ref a_market_fronts, .ref a_market_limits, .ref a_market_needy, .ref a_market_clashes, .int v_market_covers, .ref a_market_starts, .ref a_market_standing, .int v_market_coversBusy]))] sz) (zQi D (zT cI cZ cM) r0 [(a_this, .inr (5, [.ref a_text, .int v_textLength, .int v_errorAt, .ref a_reader, .ref a_market, .ref a_draft, .ref a_history, .ref a_planner, .ref a_trialPlanner, .ref a_insertion, .ref a_queue, .int v_planned])), (a_market, .inr (2, [.int v_market_pitches, .ref a_market_rows, .ref a_market_rents, .ref a_market_roofs, .int v_market_traders, .ref a_market_trades, .ref a_market_fronts, .ref a_market_limits, .ref a_market_needy, .ref a_market_clashes, .int v_market_covers, .ref a_market_starts, .ref a_market_standing, .int v_market_coversBusy]))] (va_A [(a_this, .inr (5, [.ref a_text, .int v_textLength, .int v_errorAt, .ref a_reader, .ref a_market, .ref a_draft, .ref a_history, .ref a_planner, .ref a_trialPlanner, .ref a_insertion, .ref a_queue, .int v_planned])), (a_market, .inr (2, [.int v_market_pitches, .ref a_market_rows, .ref a_market_rents, .ref a_market_roofs, .int v_market_traders, .ref a_market_trades, .ref a_market_fronts, .ref a_market_limits, .ref a_market_needy, .ref a_market_clashes, .int v_market_covers, .ref a_market_starts, .ref a_market_standing, .int v_market_coversBusy]))] sz)) 0 0 (va_A [(a_this, .inr (5, [.ref a_text, .int v_textLength, .int v_errorAt, .ref a_reader, .ref a_market, .ref a_draft, .ref a_history, .ref a_planner, .ref a_trialPlanner, .ref a_insertion, .ref a_queue, .int v_planned])), (a_market, .inr (2, [.int v_market_pitches, .ref a_market_rows, .ref a_market_rents, .ref a_market_roofs, .int v_market_traders, .ref a_market_trades, .ref a_market_fronts, .ref a_market_limits, .ref a_market_needy, .ref a_market_clashes, .int v_market_covers, .ref a_market_starts, .ref a_market_standing, .int v_market_coversBusy]))] sz) := by
  refine z_met (cc := cX5_traderCount) (maxL := 1) (ret := (some .int)) (by decide) rfl (Nat.le_of_ble_eq_true rfl) ?_
  intro p e s m below meth c ls E hsz hw hl
  obtain ⟨⟨hx, hb, hml, hown, hts⟩, hr, hlocks⟩ := id E
  have hl : lv_has ls 1 [(0, .ref a_this)] := hl
  unfold f_X5_traderCount at hf
  refine lv_aload_n hx hb dX5_traderCount_0 rfl (lv_at hl 0 rfl) ?_
  refine z_get E.1 hw in_wsX50 0 rfl rfl 4 (z_lt rfl) mw_411 (v := .ref a_market) rfl dX5_traderCount_1 ?_
  refine z_get E.1 hw in_wsX20 1 rfl rfl 4 (z_lt rfl) mw_412 (v := .int v_market_traders) rfl dX5_traderCount_4 ?_
  cases hf
  exact z_iret E rfl hw dX5_traderCount_7
end
/-! X6_keeps -/
section
variable {p : Program} {l : Launch} {e : Env} {s : State} {m : MethodId} {args : Array Value} {below : List Frame} {meth : Method} {c : Code} {D : va_G} {A : Nat → Prop} {cI cZ cM : ClassId} {a_this a_a a_fresh a_kept a_buffer a_best a_rentBy a_bareBy a_aheadBy a_isEdge a_tried a_stands a_found a_foundOn a_moving : Nat} {v_thrown : Int32} {v_buffered : Int32} {v_size : Int32} {v_at : Int32} {v_behind : Int32} {v_kind : Int32} {v_wrong : Int32} {v_wrongAt : Int32} {v_errorAt : Int32} {v_number : Int64} {v_movingMany : Int32} {v_foundIncome : Int32} {v_foundMoves : Int32} {w_kept : Nat → Int32} {w_keptMany : Int32}
def rmX6_keeps : Room := { frames := 0, cells := 0, slots := 0, locals := 0 }
abbrev zwX6_keeps : List Cond := Cond.code yX6_keeps cX6_keeps 2 none :: wsAll
set_option maxHeartbeats 4000000 in
set_option maxRecDepth 100000 in
theorem w_X6_keeps_52 {n : Nat} (E : zE p s m args meth c cX6_keeps 2 none zwX6_keeps RX6) : ∀ (fu : Nat), ∀ (x1 : Int32) (v_a : Nat → Int32) (v_kept : Nat → Int32) (v_keptMany : Int32), f_X6_keeps_52 n fu x1 v_a v_kept v_keptMany = some (w_kept, w_keptMany) → ∀ (H : Heap) (locs : List Loc) (ls : Array Slot), zW D (zT cI cZ cM) A s [(a_this, .inr (6, [.ref a_a, .ref a_fresh, .ref a_kept, .int v_keptMany, .int v_thrown, .ref a_buffer, .int v_buffered, .int v_size, .int v_at, .int v_behind, .int v_kind, .int v_wrong, .int v_wrongAt, .int v_errorAt, .long v_number, .ref a_best, .ref a_rentBy, .ref a_bareBy, .ref a_aheadBy, .ref a_isEdge, .ref a_tried, .ref a_stands, .ref a_found, .ref a_foundOn, .ref a_moving, .int v_movingMany, .int v_foundIncome, .int v_foundMoves])), (a_a, .inl (cI, 180, .inl v_a)), (a_kept, .inl (cI, 1080, .inl v_kept))] H locs → lv_has ls 2 [(0, .ref a_this), (1, .int x1)] → W p l e rmX6_keeps s m args below meth c H locs 0 0 (MQ below (zQv D (zT cI cZ cM) [(a_this, .inr (6, [.ref a_a, .ref a_fresh, .ref a_kept, .int w_keptMany, .int v_thrown, .ref a_buffer, .int v_buffered, .int v_size, .int v_at, .int v_behind, .int v_kind, .int v_wrong, .int v_wrongAt, .int v_errorAt, .long v_number, .ref a_best, .ref a_rentBy, .ref a_bareBy, .ref a_aheadBy, .ref a_isEdge, .ref a_tried, .ref a_stands, .ref a_found, .ref a_foundOn, .ref a_moving, .int v_movingMany, .int v_foundIncome, .int v_foundMoves])), (a_a, .inl (cI, 180, .inl v_a)), (a_kept, .inl (cI, 1080, .inl w_kept))] A) args s 0 0 A) (F0 m 52 ls []) := by
  obtain ⟨⟨hx, hb, hml, hown, hts⟩, hr, hlocks⟩ := id E
  intro fu
  induction fu with
  | zero => intro x1 v_a v_kept v_keptMany hf; rw [f_X6_keeps_52.eq_1] at hf; cases hf
  | succ fu ih =>
    intro x1 v_a v_kept v_keptMany hf H locs ls hw hl
    rw [f_X6_keeps_52.eq_2] at hf
    refine lv_iload_n hx hb dX6_keeps_52 rfl (lv_at hl 1 rfl) ?_
    refine lv_sipush (v := 180) hx hb dX6_keeps_53 (by decide) ?_
    refine lv_icmp_ge (tgt := 86) hx hb dX6_keeps_56 (by decide) (fun hc => ?_) (fun hc => ?_)
    · have hf := oI_pos hc hf
      refine lv_aload_n hx hb dX6_keeps_86 rfl (lv_at hl 0 rfl) ?_
      refine lv_dup hx hb dX6_keeps_87 rfl ?_
      refine z_get E.1 hw in_wsX60 0 rfl rfl 3 (z_lt rfl) mw_604 (v := .int v_keptMany) rfl dX6_keeps_88 ?_
      refine lv_iconst (v := 1) hx hb dX6_keeps_91 (by decide) ?_
      refine lv_iadd hx hb dX6_keeps_92 ?_
      obtain ⟨y_1, e_y_1, hf⟩ := oL_elim hf
      refine z_top e_y_1 ?_
      refine z_put (ws' := [(a_this, .inr (6, [.ref a_a, .ref a_fresh, .ref a_kept, .int y_1, .int v_thrown, .ref a_buffer, .int v_buffered, .int v_size, .int v_at, .int v_behind, .int v_kind, .int v_wrong, .int v_wrongAt, .int v_errorAt, .long v_number, .ref a_best, .ref a_rentBy, .ref a_bareBy, .ref a_aheadBy, .ref a_isEdge, .ref a_tried, .ref a_stands, .ref a_found, .ref a_foundOn, .ref a_moving, .int v_movingMany, .int v_foundIncome, .int v_foundMoves])), (a_a, .inl (cI, 180, .inl v_a)), (a_kept, .inl (cI, 1080, .inl v_kept))]) E.1 hw in_wsX60 tyX6 tyX6_ok nmX6 0 rfl rfl 3 (z_lt rfl) mw_604 rfl rfl rfl (z_lt rfl) rfl dX6_keeps_93 (fun H locs hw => ?_)
      obtain ⟨rfl, rfl⟩ := oR2 hf
      exact z_vret E rfl hw dX6_keeps_96
    · have hf := oI_neg hc hf
      refine lv_aload_n hx hb dX6_keeps_59 rfl (lv_at hl 0 rfl) ?_
      refine z_get E.1 hw in_wsX60 0 rfl rfl 2 (z_lt rfl) mw_605 (v := .ref a_kept) rfl dX6_keeps_60 ?_
      refine lv_sipush (v := 180) hx hb dX6_keeps_63 (by decide) ?_
      refine lv_aload_n hx hb dX6_keeps_66 rfl (lv_at hl 0 rfl) ?_
      refine z_get E.1 hw in_wsX60 0 rfl rfl 3 (z_lt rfl) mw_604 (v := .int v_keptMany) rfl dX6_keeps_67 ?_
      refine lv_imul hx hb dX6_keeps_70 ?_
      refine lv_iload_n hx hb dX6_keeps_71 rfl (lv_at hl 1 rfl) ?_
      refine lv_iadd hx hb dX6_keeps_72 ?_
      refine lv_aload_n hx hb dX6_keeps_73 rfl (lv_at hl 0 rfl) ?_
      refine z_get E.1 hw in_wsX60 0 rfl rfl 0 (z_lt rfl) mw_594 (v := .ref a_a) rfl dX6_keeps_74 ?_
      refine lv_iload_n hx hb dX6_keeps_77 rfl (lv_at hl 1 rfl) ?_
      obtain ⟨h_2, hf⟩ := oA_elim hf
      refine z_iald E.1 hw 1 0 rfl rfl h_2 dX6_keeps_78 ?_
      obtain ⟨h_3, hf⟩ := oA_elim hf
      obtain ⟨v_4, e_v_4, hf⟩ := oL_elim hf
      refine z_iast (ws' := [(a_this, .inr (6, [.ref a_a, .ref a_fresh, .ref a_kept, .int v_keptMany, .int v_thrown, .ref a_buffer, .int v_buffered, .int v_size, .int v_at, .int v_behind, .int v_kind, .int v_wrong, .int v_wrongAt, .int v_errorAt, .long v_number, .ref a_best, .ref a_rentBy, .ref a_bareBy, .ref a_aheadBy, .ref a_isEdge, .ref a_tried, .ref a_stands, .ref a_found, .ref a_foundOn, .ref a_moving, .int v_movingMany, .int v_foundIncome, .int v_foundMoves])), (a_a, .inl (cI, 180, .inl v_a)), (a_kept, .inl (cI, 1080, .inl v_4))]) E.1 hw 2 0 rfl rfl h_3 (by subst e_v_4; rfl) dX6_keeps_79 (fun H locs hw => ?_)
      refine lv_iinc (v := (x1 + (1 : Int32))) (lv' := [(1, .int (x1 + (1 : Int32))), (0, .ref a_this)]) hx hb dX6_keeps_80 hl (k := 1) rfl rfl (z_lt rfl) rfl (fun ls hl => ?_)
      refine lv_goto (tgt := 52) hx hb dX6_keeps_83 (by decide) ?_
      exact ih _ _ _ _ hf _ _ _ hw (lv_sub hl [1, 0] rfl)
set_option maxHeartbeats 4000000 in
set_option maxRecDepth 100000 in
theorem w_X6_keeps_50 {n : Nat} (E : zE p s m args meth c cX6_keeps 2 none zwX6_keeps RX6) : ∀ (v_a : Nat → Int32) (v_kept : Nat → Int32) (v_keptMany : Int32), f_X6_keeps_50 n v_a v_kept v_keptMany = some (w_kept, w_keptMany) → ∀ (H : Heap) (locs : List Loc) (ls : Array Slot), zW D (zT cI cZ cM) A s [(a_this, .inr (6, [.ref a_a, .ref a_fresh, .ref a_kept, .int v_keptMany, .int v_thrown, .ref a_buffer, .int v_buffered, .int v_size, .int v_at, .int v_behind, .int v_kind, .int v_wrong, .int v_wrongAt, .int v_errorAt, .long v_number, .ref a_best, .ref a_rentBy, .ref a_bareBy, .ref a_aheadBy, .ref a_isEdge, .ref a_tried, .ref a_stands, .ref a_found, .ref a_foundOn, .ref a_moving, .int v_movingMany, .int v_foundIncome, .int v_foundMoves])), (a_a, .inl (cI, 180, .inl v_a)), (a_kept, .inl (cI, 1080, .inl v_kept))] H locs → lv_has ls 2 [(0, .ref a_this)] → W p l e rmX6_keeps s m args below meth c H locs 0 0 (MQ below (zQv D (zT cI cZ cM) [(a_this, .inr (6, [.ref a_a, .ref a_fresh, .ref a_kept, .int w_keptMany, .int v_thrown, .ref a_buffer, .int v_buffered, .int v_size, .int v_at, .int v_behind, .int v_kind, .int v_wrong, .int v_wrongAt, .int v_errorAt, .long v_number, .ref a_best, .ref a_rentBy, .ref a_bareBy, .ref a_aheadBy, .ref a_isEdge, .ref a_tried, .ref a_stands, .ref a_found, .ref a_foundOn, .ref a_moving, .int v_movingMany, .int v_foundIncome, .int v_foundMoves])), (a_a, .inl (cI, 180, .inl v_a)), (a_kept, .inl (cI, 1080, .inl w_kept))] A) args s 0 0 A) (F0 m 50 ls []) := by
  obtain ⟨⟨hx, hb, hml, hown, hts⟩, hr, hlocks⟩ := id E
  intro v_a v_kept v_keptMany hf H locs ls hw hl
  unfold f_X6_keeps_50 at hf
  refine lv_iconst (v := 0) hx hb dX6_keeps_50 (by decide) ?_
  refine lv_istore_n (lv' := [(1, .int (0 : Int32)), (0, .ref a_this)]) hx hb dX6_keeps_51 rfl hl (z_lt rfl) rfl (fun ls hl => ?_)
  exact w_X6_keeps_52 E  n _ _ _ _ hf _ _ _ hw (lv_sub hl [1, 0] rfl)
set_option maxHeartbeats 4000000 in
set_option maxRecDepth 100000 in
theorem w_X6_keeps_11 {n : Nat} (E : zE p s m args meth c cX6_keeps 2 none zwX6_keeps RX6) : ∀ (fu : Nat), ∀ (x1 : Int32) (v_a : Nat → Int32) (v_kept : Nat → Int32) (v_keptMany : Int32), f_X6_keeps_11 n fu x1 v_a v_kept v_keptMany = some (w_kept, w_keptMany) → ∀ (H : Heap) (locs : List Loc) (ls : Array Slot), zW D (zT cI cZ cM) A s [(a_this, .inr (6, [.ref a_a, .ref a_fresh, .ref a_kept, .int v_keptMany, .int v_thrown, .ref a_buffer, .int v_buffered, .int v_size, .int v_at, .int v_behind, .int v_kind, .int v_wrong, .int v_wrongAt, .int v_errorAt, .long v_number, .ref a_best, .ref a_rentBy, .ref a_bareBy, .ref a_aheadBy, .ref a_isEdge, .ref a_tried, .ref a_stands, .ref a_found, .ref a_foundOn, .ref a_moving, .int v_movingMany, .int v_foundIncome, .int v_foundMoves])), (a_a, .inl (cI, 180, .inl v_a)), (a_kept, .inl (cI, 1080, .inl v_kept))] H locs → lv_has ls 2 [(0, .ref a_this), (1, .int x1)] → W p l e rmX6_keeps s m args below meth c H locs 0 0 (MQ below (zQv D (zT cI cZ cM) [(a_this, .inr (6, [.ref a_a, .ref a_fresh, .ref a_kept, .int w_keptMany, .int v_thrown, .ref a_buffer, .int v_buffered, .int v_size, .int v_at, .int v_behind, .int v_kind, .int v_wrong, .int v_wrongAt, .int v_errorAt, .long v_number, .ref a_best, .ref a_rentBy, .ref a_bareBy, .ref a_aheadBy, .ref a_isEdge, .ref a_tried, .ref a_stands, .ref a_found, .ref a_foundOn, .ref a_moving, .int v_movingMany, .int v_foundIncome, .int v_foundMoves])), (a_a, .inl (cI, 180, .inl v_a)), (a_kept, .inl (cI, 1080, .inl w_kept))] A) args s 0 0 A) (F0 m 11 ls []) := by
  obtain ⟨⟨hx, hb, hml, hown, hts⟩, hr, hlocks⟩ := id E
  intro fu
  induction fu with
  | zero => intro x1 v_a v_kept v_keptMany hf; rw [f_X6_keeps_11.eq_1] at hf; cases hf
  | succ fu ih =>
    intro x1 v_a v_kept v_keptMany hf H locs ls hw hl
    rw [f_X6_keeps_11.eq_2] at hf
    refine lv_iload_n hx hb dX6_keeps_11 rfl (lv_at hl 1 rfl) ?_
    refine lv_sipush (v := 900) hx hb dX6_keeps_12 (by decide) ?_
    refine lv_icmp_ge (tgt := 40) hx hb dX6_keeps_15 (by decide) (fun hc => ?_) (fun hc => ?_)
    · have hf := oI_pos hc hf
      refine lv_aload_n hx hb dX6_keeps_40 rfl (lv_at hl 0 rfl) ?_
      refine lv_dup hx hb dX6_keeps_41 rfl ?_
      refine z_get E.1 hw in_wsX60 0 rfl rfl 3 (z_lt rfl) mw_604 (v := .int v_keptMany) rfl dX6_keeps_42 ?_
      refine lv_iconst (v := 1) hx hb dX6_keeps_45 (by decide) ?_
      refine lv_isub hx hb dX6_keeps_46 ?_
      obtain ⟨y_5, e_y_5, hf⟩ := oL_elim hf
      refine z_top e_y_5 ?_
      refine z_put (ws' := [(a_this, .inr (6, [.ref a_a, .ref a_fresh, .ref a_kept, .int y_5, .int v_thrown, .ref a_buffer, .int v_buffered, .int v_size, .int v_at, .int v_behind, .int v_kind, .int v_wrong, .int v_wrongAt, .int v_errorAt, .long v_number, .ref a_best, .ref a_rentBy, .ref a_bareBy, .ref a_aheadBy, .ref a_isEdge, .ref a_tried, .ref a_stands, .ref a_found, .ref a_foundOn, .ref a_moving, .int v_movingMany, .int v_foundIncome, .int v_foundMoves])), (a_a, .inl (cI, 180, .inl v_a)), (a_kept, .inl (cI, 1080, .inl v_kept))]) E.1 hw in_wsX60 tyX6 tyX6_ok nmX6 0 rfl rfl 3 (z_lt rfl) mw_604 rfl rfl rfl (z_lt rfl) rfl dX6_keeps_47 (fun H locs hw => ?_)
      exact w_X6_keeps_50 E  _ _ _ hf _ _ _ hw (lv_sub hl [0] rfl)
    · have hf := oI_neg hc hf
      refine lv_aload_n hx hb dX6_keeps_18 rfl (lv_at hl 0 rfl) ?_
      refine z_get E.1 hw in_wsX60 0 rfl rfl 2 (z_lt rfl) mw_605 (v := .ref a_kept) rfl dX6_keeps_19 ?_
      refine lv_iload_n hx hb dX6_keeps_22 rfl (lv_at hl 1 rfl) ?_
      refine lv_aload_n hx hb dX6_keeps_23 rfl (lv_at hl 0 rfl) ?_
      refine z_get E.1 hw in_wsX60 0 rfl rfl 2 (z_lt rfl) mw_605 (v := .ref a_kept) rfl dX6_keeps_24 ?_
      refine lv_iload_n hx hb dX6_keeps_27 rfl (lv_at hl 1 rfl) ?_
      refine lv_sipush (v := 180) hx hb dX6_keeps_28 (by decide) ?_
      refine lv_iadd hx hb dX6_keeps_31 ?_
      obtain ⟨h_6, hf⟩ := oA_elim hf
      refine z_iald E.1 hw 2 0 rfl rfl h_6 dX6_keeps_32 ?_
      obtain ⟨h_7, hf⟩ := oA_elim hf
      obtain ⟨v_8, e_v_8, hf⟩ := oL_elim hf
      refine z_iast (ws' := [(a_this, .inr (6, [.ref a_a, .ref a_fresh, .ref a_kept, .int v_keptMany, .int v_thrown, .ref a_buffer, .int v_buffered, .int v_size, .int v_at, .int v_behind, .int v_kind, .int v_wrong, .int v_wrongAt, .int v_errorAt, .long v_number, .ref a_best, .ref a_rentBy, .ref a_bareBy, .ref a_aheadBy, .ref a_isEdge, .ref a_tried, .ref a_stands, .ref a_found, .ref a_foundOn, .ref a_moving, .int v_movingMany, .int v_foundIncome, .int v_foundMoves])), (a_a, .inl (cI, 180, .inl v_a)), (a_kept, .inl (cI, 1080, .inl v_8))]) E.1 hw 2 0 rfl rfl h_7 (by subst e_v_8; rfl) dX6_keeps_33 (fun H locs hw => ?_)
      refine lv_iinc (v := (x1 + (1 : Int32))) (lv' := [(1, .int (x1 + (1 : Int32))), (0, .ref a_this)]) hx hb dX6_keeps_34 hl (k := 1) rfl rfl (z_lt rfl) rfl (fun ls hl => ?_)
      refine lv_goto (tgt := 11) hx hb dX6_keeps_37 (by decide) ?_
      exact ih _ _ _ _ hf _ _ _ hw (lv_sub hl [1, 0] rfl)
set_option maxHeartbeats 4000000 in
set_option maxRecDepth 100000 in
theorem c_X6_keeps {l : Launch} {D : va_G} {cI cZ cM : ClassId} {a_this a_a a_fresh a_kept a_buffer a_best a_rentBy a_bareBy a_aheadBy a_isEdge a_tried a_stands a_found a_foundOn a_moving : Nat} {v_thrown : Int32} {v_buffered : Int32} {v_size : Int32} {v_at : Int32} {v_behind : Int32} {v_kind : Int32} {v_wrong : Int32} {v_wrongAt : Int32} {v_errorAt : Int32} {v_number : Int64} {v_movingMany : Int32} {v_foundIncome : Int32} {v_foundMoves : Int32} {w_kept : Nat → Int32} {w_keptMany : Int32} {sz : Nat} {n : Nat} {v_a : Nat → Int32} {v_kept : Nat → Int32} {v_keptMany : Int32} (hf : f_X6_keeps n v_a v_kept v_keptMany = some (w_kept, w_keptMany)) : Met l yX6_keeps zwX6_keeps rmX6_keeps (zPc D (zT cI cZ cM) [.ref a_this] [(a_this, .inr (6, [.ref a_a, .ref a_fresh, .ref a_kept, .int v_keptMany, .int v_thrown, .ref a_buffer, .int v_buffered, .int v_size, .int v_at, .int v_behind, .int v_kind, .int v_wrong, .int v_wrongAt, .int v_errorAt, .long v_number, .ref a_best, .ref a_rentBy, .ref a_bareBy, .ref a_aheadBy, .ref a_isEdge, .ref a_tried, .ref a_stands, .ref a_found, .ref a_foundOn, .ref a_moving, .int v_movingMany, .int v_foundIncome, .int v_foundMoves])), (a_a, .inl (cI, 180, .inl v_a)), (a_kept, .inl (cI, 1080, .inl v_kept))] sz) (zQv D (zT cI cZ cM) [(a_this, .inr (6, [.ref a_a, .ref a_fresh, .ref a_kept, .int w_keptMany, .int v_thrown, .ref a_buffer, .int v_buffered, .int v_size, .int v_at, .int v_behind, .int v_kind, .int v_wrong, .int v_wrongAt, .int v_errorAt, .long v_number, .ref a_best, .ref a_rentBy, .ref a_bareBy, .ref a_aheadBy, .ref a_isEdge, .ref a_tried, .ref a_stands, .ref a_found, .ref a_foundOn, .ref a_moving, .int v_movingMany, .int v_foundIncome, .int v_foundMoves])), (a_a, .inl (cI, 180, .inl v_a)), (a_kept, .inl (cI, 1080, .inl w_kept))] (va_A [(a_this, .inr (6, [.ref a_a, .ref a_fresh, .ref a_kept, .int v_keptMany, .int v_thrown, .ref a_buffer, .int v_buffered, .int v_size, .int v_at, .int v_behind, .int v_kind, .int v_wrong, .int v_wrongAt, .int v_errorAt, .long v_number, .ref a_best, .ref a_rentBy, .ref a_bareBy, .ref a_aheadBy, .ref a_isEdge, .ref a_tried, .ref a_stands, .ref a_found, .ref a_foundOn, .ref a_moving, .int v_movingMany, .int v_foundIncome, .int v_foundMoves])), (a_a, .inl (cI, 180, .inl v_a)), (a_kept, .inl (cI, 1080, .inl v_kept))] sz)) 0 0 (va_A [(a_this, .inr (6, [.ref a_a, .ref a_fresh, .ref a_kept, .int v_keptMany, .int v_thrown, .ref a_buffer, .int v_buffered, .int v_size, .int v_at, .int v_behind, .int v_kind, .int v_wrong, .int v_wrongAt, .int v_errorAt, .long v_number, .ref a_best, .ref a_rentBy, .ref a_bareBy, .ref a_aheadBy, .ref a_isEdge, .ref a_tried, .ref a_stands, .ref a_found, .ref a_foundOn, .ref a_moving, .int v_movingMany, .int v_foundIncome, .int v_foundMoves])), (a_a, .inl (cI, 180, .inl v_a)), (a_kept, .inl (cI, 1080, .inl v_kept))] sz) := by
  refine z_met (cc := cX6_keeps) (maxL := 2) (ret := none) (by decide) rfl (Nat.le_of_ble_eq_true rfl) ?_
  intro p e s m below meth c ls E hsz hw hl
  obtain ⟨⟨hx, hb, hml, hown, hts⟩, hr, hlocks⟩ := id E
  have hl : lv_has ls 2 [(0, .ref a_this)] := hl
  unfold f_X6_keeps at hf
  refine lv_aload_n hx hb dX6_keeps_0 rfl (lv_at hl 0 rfl) ?_
  refine z_get E.1 hw in_wsX60 0 rfl rfl 3 (z_lt rfl) mw_604 (v := .int v_keptMany) rfl dX6_keeps_1 ?_
  refine lv_bipush (v := 6) hx hb dX6_keeps_4 (by decide) ?_
  refine lv_icmp_ne (tgt := 50) hx hb dX6_keeps_6 (by decide) (fun hc => ?_) (fun hc => ?_)
  · have hf := oI_neg hc hf
    exact w_X6_keeps_50 E  _ _ _ hf _ _ _ hw (lv_sub hl [0] rfl)
  · have hf := oI_pos hc hf
    refine lv_iconst (v := 0) hx hb dX6_keeps_9 (by decide) ?_
    refine lv_istore_n (lv' := [(1, .int (0 : Int32)), (0, .ref a_this)]) hx hb dX6_keeps_10 rfl hl (z_lt rfl) rfl (fun ls hl => ?_)
    exact w_X6_keeps_11 E  n _ _ _ _ hf _ _ _ hw (lv_sub hl [1, 0] rfl)
end
/-! X6_isIn -/
section
variable {p : Program} {l : Launch} {e : Env} {s : State} {m : MethodId} {args : Array Value} {below : List Frame} {meth : Method} {c : Code} {D : va_G} {A : Nat → Prop} {cI cZ cM : ClassId} {r0 : Int32}
def rmX6_isIn : Room := { frames := 0, cells := 0, slots := 0, locals := 0 }
abbrev zwX6_isIn : List Cond := Cond.code yX6_isIn cX6_isIn 6 (some .boolean) :: wsAll
set_option maxHeartbeats 4000000 in
set_option maxRecDepth 100000 in
theorem c_X6_isIn {l : Launch} {D : va_G} {cI cZ cM : ClassId} {r0 : Int32} {sz : Nat} {x0 : Int64} {x2 : Int64} {x4 : Int64} (hf : f_X6_isIn x0 x2 x4 = some r0) : Met l yX6_isIn zwX6_isIn rmX6_isIn (zPc D (zT cI cZ cM) [.long x0, .long x2, .long x4] [] sz) (zQi D (zT cI cZ cM) r0 [] (va_A [] sz)) 0 0 (va_A [] sz) := by
  refine z_met (cc := cX6_isIn) (maxL := 6) (ret := (some .boolean)) (by decide) rfl (Nat.le_of_ble_eq_true rfl) ?_
  intro p e s m below meth c ls E hsz hw hl
  obtain ⟨⟨hx, hb, hml, hown, hts⟩, hr, hlocks⟩ := id E
  have hl : lv_has ls 6 [(0, .long x0), (2, .long x2), (4, .long x4)] := hl
  unfold f_X6_isIn at hf
  refine lv_lload_n hx hb dX6_isIn_0 rfl (lv_at hl 0 rfl) ?_
  refine lv_lload_n hx hb dX6_isIn_1 rfl (lv_at hl 1 rfl) ?_
  refine W.lcmp hx hb dX6_isIn_2 ?_
  refine lv_if_lt (tgt := 17) hx hb dX6_isIn_3 (by decide) (fun hc => ?_) (fun hc => ?_)
  · have hf := oI_pos hc hf
    refine lv_iconst (v := 0) hx hb dX6_isIn_17 (by decide) ?_
    cases hf
    exact z_zret E rfl rfl hw dX6_isIn_18
  · have hf := oI_neg hc hf
    refine lv_lload_n hx hb dX6_isIn_6 rfl (lv_at hl 0 rfl) ?_
    refine lv_lload hx hb dX6_isIn_7 (lv_at hl 2 rfl) ?_
    refine W.lcmp hx hb dX6_isIn_9 ?_
    refine lv_if_gt (tgt := 17) hx hb dX6_isIn_10 (by decide) (fun hc => ?_) (fun hc => ?_)
    · have hf := oI_pos hc hf
      refine lv_iconst (v := 0) hx hb dX6_isIn_17 (by decide) ?_
      cases hf
      exact z_zret E rfl rfl hw dX6_isIn_18
    · have hf := oI_neg hc hf
      refine lv_iconst (v := 1) hx hb dX6_isIn_13 (by decide) ?_
      refine lv_goto (tgt := 18) hx hb dX6_isIn_14 (by decide) ?_
      cases hf
      exact z_zret E rfl rfl hw dX6_isIn_18
end
/-! X6_addTrader -/
section
variable {p : Program} {l : Launch} {e : Env} {s : State} {m : MethodId} {args : Array Value} {below : List Frame} {meth : Method} {c : Code} {D : va_G} {A : Nat → Prop} {cI cZ cM : ClassId} {a_this a_a a_fresh a_kept a_buffer a_best a_rentBy a_bareBy a_aheadBy a_isEdge a_tried a_stands a_found a_foundOn a_moving : Nat} {v_buffered : Int32} {v_size : Int32} {v_at : Int32} {v_behind : Int32} {v_kind : Int32} {v_wrong : Int32} {v_wrongAt : Int32} {v_errorAt : Int32} {v_number : Int64} {v_movingMany : Int32} {v_foundIncome : Int32} {v_foundMoves : Int32} {r0 : Int32} {w_a : Nat → Int32} {w_kept : Nat → Int32} {w_keptMany : Int32} {w_thrown : Int32}
def rmX6_addTrader : Room := { frames := 1, cells := 0, slots := 0, locals := 25 }
abbrev zwX6_addTrader : List Cond := Cond.code yX6_addTrader cX6_addTrader 6 (some .int) :: wsAll
set_option maxHeartbeats 4000000 in
set_option maxRecDepth 100000 in
theorem w_X6_addTrader_135 {n : Nat} (E : zE p s m args meth c cX6_addTrader 6 (some .int) zwX6_addTrader RX6) : ∀ (t1 : Int32) (t2 : Int32) (x5 : Int32) (v_a : Nat → Int32) (v_kept : Nat → Int32) (v_keptMany : Int32) (v_thrown : Int32), f_X6_addTrader_135 n t1 t2 x5 v_a v_kept v_keptMany v_thrown = some (r0, w_a, w_kept, w_keptMany, w_thrown) → ∀ (H : Heap) (locs : List Loc) (ls : Array Slot), zW D (zT cI cZ cM) A s [(a_this, .inr (6, [.ref a_a, .ref a_fresh, .ref a_kept, .int v_keptMany, .int v_thrown, .ref a_buffer, .int v_buffered, .int v_size, .int v_at, .int v_behind, .int v_kind, .int v_wrong, .int v_wrongAt, .int v_errorAt, .long v_number, .ref a_best, .ref a_rentBy, .ref a_bareBy, .ref a_aheadBy, .ref a_isEdge, .ref a_tried, .ref a_stands, .ref a_found, .ref a_foundOn, .ref a_moving, .int v_movingMany, .int v_foundIncome, .int v_foundMoves])), (a_a, .inl (cI, 180, .inl v_a)), (a_kept, .inl (cI, 1080, .inl v_kept))] H locs → lv_has ls 6 [(0, .ref a_this), (5, .int x5)] → W p l e rmX6_addTrader s m args below meth c H locs 0 0 (MQ below (zQi D (zT cI cZ cM) r0 [(a_this, .inr (6, [.ref a_a, .ref a_fresh, .ref a_kept, .int w_keptMany, .int w_thrown, .ref a_buffer, .int v_buffered, .int v_size, .int v_at, .int v_behind, .int v_kind, .int v_wrong, .int v_wrongAt, .int v_errorAt, .long v_number, .ref a_best, .ref a_rentBy, .ref a_bareBy, .ref a_aheadBy, .ref a_isEdge, .ref a_tried, .ref a_stands, .ref a_found, .ref a_foundOn, .ref a_moving, .int v_movingMany, .int v_foundIncome, .int v_foundMoves])), (a_a, .inl (cI, 180, .inl w_a)), (a_kept, .inl (cI, 1080, .inl w_kept))] A) args s 0 0 A) (F0 m 135 ls [.int t2, .int t1, .ref a_a]) := by
  obtain ⟨⟨hx, hb, hml, hown, hts⟩, hr, hlocks⟩ := id E
  intro t1 t2 x5 v_a v_kept v_keptMany v_thrown hf H locs ls hw hl
  unfold f_X6_addTrader_135 at hf
  obtain ⟨h_1, hf⟩ := oA_elim hf
  obtain ⟨v_2, e_v_2, hf⟩ := oL_elim hf
  refine z_iast (ws' := [(a_this, .inr (6, [.ref a_a, .ref a_fresh, .ref a_kept, .int v_keptMany, .int v_thrown, .ref a_buffer, .int v_buffered, .int v_size, .int v_at, .int v_behind, .int v_kind, .int v_wrong, .int v_wrongAt, .int v_errorAt, .long v_number, .ref a_best, .ref a_rentBy, .ref a_bareBy, .ref a_aheadBy, .ref a_isEdge, .ref a_tried, .ref a_stands, .ref a_found, .ref a_foundOn, .ref a_moving, .int v_movingMany, .int v_foundIncome, .int v_foundMoves])), (a_a, .inl (cI, 180, .inl v_2)), (a_kept, .inl (cI, 1080, .inl v_kept))]) E.1 hw 1 0 rfl rfl h_1 (by subst e_v_2; rfl) dX6_addTrader_135 (fun H locs hw => ?_)
  refine lv_aload_n hx hb dX6_addTrader_136 rfl (lv_at hl 0 rfl) ?_
  refine z_get E.1 hw in_wsX60 0 rfl rfl 0 (z_lt rfl) mw_594 (v := .ref a_a) rfl dX6_addTrader_137 ?_
  refine lv_bipush (v := 74) hx hb dX6_addTrader_140 (by decide) ?_
  refine lv_dup2_11 hx hb dX6_addTrader_142 rfl rfl ?_
  obtain ⟨h_3, hf⟩ := oA_elim hf
  refine z_iald E.1 hw 1 0 rfl rfl h_3 dX6_addTrader_143 ?_
  refine lv_iconst (v := 1) hx hb dX6_addTrader_144 (by decide) ?_
  refine lv_iadd hx hb dX6_addTrader_145 ?_
  obtain ⟨h_4, hf⟩ := oA_elim hf
  obtain ⟨v_5, e_v_5, hf⟩ := oL_elim hf
  refine z_iast (ws' := [(a_this, .inr (6, [.ref a_a, .ref a_fresh, .ref a_kept, .int v_keptMany, .int v_thrown, .ref a_buffer, .int v_buffered, .int v_size, .int v_at, .int v_behind, .int v_kind, .int v_wrong, .int v_wrongAt, .int v_errorAt, .long v_number, .ref a_best, .ref a_rentBy, .ref a_bareBy, .ref a_aheadBy, .ref a_isEdge, .ref a_tried, .ref a_stands, .ref a_found, .ref a_foundOn, .ref a_moving, .int v_movingMany, .int v_foundIncome, .int v_foundMoves])), (a_a, .inl (cI, 180, .inl v_5)), (a_kept, .inl (cI, 1080, .inl v_kept))]) E.1 hw 1 0 rfl rfl h_4 (by subst e_v_5; rfl) dX6_addTrader_146 (fun H locs hw => ?_)
  refine lv_iload hx hb dX6_addTrader_147 (lv_at hl 1 rfl) ?_
  obtain ⟨rfl, rfl, rfl, rfl, rfl⟩ := oR5 hf
  exact z_iret E rfl hw dX6_addTrader_149
set_option maxHeartbeats 4000000 in
set_option maxRecDepth 100000 in
theorem w_X6_addTrader_58 {n : Nat} (E : zE p s m args meth c cX6_addTrader 6 (some .int) zwX6_addTrader RX6) : ∀ (t1 : Int32) (x1 : Int32) (x2 : Int32) (x3 : Int32) (x4 : Int32) (v_a : Nat → Int32) (v_kept : Nat → Int32) (v_keptMany : Int32) (v_thrown : Int32), f_X6_addTrader_58 n t1 x1 x2 x3 x4 v_a v_kept v_keptMany v_thrown = some (r0, w_a, w_kept, w_keptMany, w_thrown) → ∀ (H : Heap) (locs : List Loc) (ls : Array Slot), zW D (zT cI cZ cM) A s [(a_this, .inr (6, [.ref a_a, .ref a_fresh, .ref a_kept, .int v_keptMany, .int v_thrown, .ref a_buffer, .int v_buffered, .int v_size, .int v_at, .int v_behind, .int v_kind, .int v_wrong, .int v_wrongAt, .int v_errorAt, .long v_number, .ref a_best, .ref a_rentBy, .ref a_bareBy, .ref a_aheadBy, .ref a_isEdge, .ref a_tried, .ref a_stands, .ref a_found, .ref a_foundOn, .ref a_moving, .int v_movingMany, .int v_foundIncome, .int v_foundMoves])), (a_a, .inl (cI, 180, .inl v_a)), (a_kept, .inl (cI, 1080, .inl v_kept))] H locs → lv_has ls 6 [(0, .ref a_this), (1, .int x1), (2, .int x2), (3, .int x3), (4, .int x4)] → W p l e rmX6_addTrader s m args below meth c H locs 0 0 (MQ below (zQi D (zT cI cZ cM) r0 [(a_this, .inr (6, [.ref a_a, .ref a_fresh, .ref a_kept, .int w_keptMany, .int w_thrown, .ref a_buffer, .int v_buffered, .int v_size, .int v_at, .int v_behind, .int v_kind, .int v_wrong, .int v_wrongAt, .int v_errorAt, .long v_number, .ref a_best, .ref a_rentBy, .ref a_bareBy, .ref a_aheadBy, .ref a_isEdge, .ref a_tried, .ref a_stands, .ref a_found, .ref a_foundOn, .ref a_moving, .int v_movingMany, .int v_foundIncome, .int v_foundMoves])), (a_a, .inl (cI, 180, .inl w_a)), (a_kept, .inl (cI, 1080, .inl w_kept))] A) args s 0 0 A) (F0 m 58 ls [.int t1, .ref a_this]) := by
  obtain ⟨⟨hx, hb, hml, hown, hts⟩, hr, hlocks⟩ := id E
  intro t1 x1 x2 x3 x4 v_a v_kept v_keptMany v_thrown hf H locs ls hw hl
  unfold f_X6_addTrader_58 at hf
  refine z_put (ws' := [(a_this, .inr (6, [.ref a_a, .ref a_fresh, .ref a_kept, .int v_keptMany, .int t1, .ref a_buffer, .int v_buffered, .int v_size, .int v_at, .int v_behind, .int v_kind, .int v_wrong, .int v_wrongAt, .int v_errorAt, .long v_number, .ref a_best, .ref a_rentBy, .ref a_bareBy, .ref a_aheadBy, .ref a_isEdge, .ref a_tried, .ref a_stands, .ref a_found, .ref a_foundOn, .ref a_moving, .int v_movingMany, .int v_foundIncome, .int v_foundMoves])), (a_a, .inl (cI, 180, .inl v_a)), (a_kept, .inl (cI, 1080, .inl v_kept))]) E.1 hw in_wsX60 tyX6 tyX6_ok nmX6 0 rfl rfl 4 (z_lt rfl) mw_595 rfl rfl rfl (z_lt rfl) rfl dX6_addTrader_58 (fun H locs hw => ?_)
  refine lv_aload_n hx hb dX6_addTrader_61 rfl (lv_at hl 0 rfl) ?_
  refine z_get E.1 hw in_wsX60 0 rfl rfl 4 (z_lt rfl) mw_595 (v := .int t1) rfl dX6_addTrader_62 ?_
  refine lv_if_le (tgt := 70) hx hb dX6_addTrader_65 (by decide) (fun hc => ?_) (fun hc => ?_)
  · have hf := oI_pos hc hf
    refine lv_aload_n hx hb dX6_addTrader_70 rfl (lv_at hl 0 rfl) ?_
    obtain ⟨v_6, v_7, h_8, hf⟩ := oB2_elim hf
    refine z_callVv (ws' := [(a_this, .inr (6, [.ref a_a, .ref a_fresh, .ref a_kept, .int v_7, .int t1, .ref a_buffer, .int v_buffered, .int v_size, .int v_at, .int v_behind, .int v_kind, .int v_wrong, .int v_wrongAt, .int v_errorAt, .long v_number, .ref a_best, .ref a_rentBy, .ref a_bareBy, .ref a_aheadBy, .ref a_isEdge, .ref a_tried, .ref a_stands, .ref a_found, .ref a_foundOn, .ref a_moving, .int v_movingMany, .int v_foundIncome, .int v_foundMoves])), (a_a, .inl (cI, 180, .inl v_a)), (a_kept, .inl (cI, 1080, .inl v_6))]) (wr := []) (As := []) (rest := []) E.1 hl hw (c_X6_keeps h_8) (cwV 0 hts (z_gV mw_600 mw_601 mw_602 mw_598 mw_603) rfl rfl rfl (by decide +kernel) ⟨(Nat.le_of_ble_eq_true rfl), (Nat.le_of_ble_eq_true rfl)⟩) [0, 1, 2] [] rfl rfl rfl rfl rfl rfl rfl (q0 := 0) rfl rfl rfl (Nat.le_of_ble_eq_true rfl) dX6_addTrader_71 ⟨Nat.le_of_ble_eq_true rfl, Nat.le_of_ble_eq_true rfl⟩ (fun H locs hw => ?_)
    refine lv_aload_n hx hb dX6_addTrader_74 rfl (lv_at hl 0 rfl) ?_
    refine z_get E.1 hw in_wsX60 0 rfl rfl 0 (z_lt rfl) mw_594 (v := .ref a_a) rfl dX6_addTrader_75 ?_
    refine lv_bipush (v := 74) hx hb dX6_addTrader_78 (by decide) ?_
    obtain ⟨h_9, hf⟩ := oA_elim hf
    refine z_iald E.1 hw 1 0 rfl rfl h_9 dX6_addTrader_80 ?_
    obtain ⟨y_10, e_y_10, hf⟩ := oL_elim hf
    refine z_top e_y_10 ?_
    refine lv_istore (lv' := [(5, .int y_10), (0, .ref a_this), (1, .int x1), (2, .int x2), (3, .int x3), (4, .int x4)]) hx hb dX6_addTrader_81 hl (z_lt rfl) rfl (fun ls hl => ?_)
    refine lv_aload_n hx hb dX6_addTrader_83 rfl (lv_at hl 1 rfl) ?_
    refine z_get E.1 hw in_wsX60 0 rfl rfl 0 (z_lt rfl) mw_594 (v := .ref a_a) rfl dX6_addTrader_84 ?_
    refine lv_bipush (v := 75) hx hb dX6_addTrader_87 (by decide) ?_
    refine lv_iload hx hb dX6_addTrader_89 (lv_at hl 0 rfl) ?_
    refine lv_iadd hx hb dX6_addTrader_91 ?_
    refine lv_iload_n hx hb dX6_addTrader_92 rfl (lv_at hl 2 rfl) ?_
    obtain ⟨h_11, hf⟩ := oA_elim hf
    obtain ⟨v_12, e_v_12, hf⟩ := oL_elim hf
    refine z_iast (ws' := [(a_this, .inr (6, [.ref a_a, .ref a_fresh, .ref a_kept, .int v_7, .int t1, .ref a_buffer, .int v_buffered, .int v_size, .int v_at, .int v_behind, .int v_kind, .int v_wrong, .int v_wrongAt, .int v_errorAt, .long v_number, .ref a_best, .ref a_rentBy, .ref a_bareBy, .ref a_aheadBy, .ref a_isEdge, .ref a_tried, .ref a_stands, .ref a_found, .ref a_foundOn, .ref a_moving, .int v_movingMany, .int v_foundIncome, .int v_foundMoves])), (a_a, .inl (cI, 180, .inl v_12)), (a_kept, .inl (cI, 1080, .inl v_6))]) E.1 hw 1 0 rfl rfl h_11 (by subst e_v_12; rfl) dX6_addTrader_93 (fun H locs hw => ?_)
    refine lv_aload_n hx hb dX6_addTrader_94 rfl (lv_at hl 1 rfl) ?_
    refine z_get E.1 hw in_wsX60 0 rfl rfl 0 (z_lt rfl) mw_594 (v := .ref a_a) rfl dX6_addTrader_95 ?_
    refine lv_bipush (v := 83) hx hb dX6_addTrader_98 (by decide) ?_
    refine lv_iload hx hb dX6_addTrader_100 (lv_at hl 0 rfl) ?_
    refine lv_iadd hx hb dX6_addTrader_102 ?_
    refine lv_iload_n hx hb dX6_addTrader_103 rfl (lv_at hl 3 rfl) ?_
    obtain ⟨h_13, hf⟩ := oA_elim hf
    obtain ⟨v_14, e_v_14, hf⟩ := oL_elim hf
    refine z_iast (ws' := [(a_this, .inr (6, [.ref a_a, .ref a_fresh, .ref a_kept, .int v_7, .int t1, .ref a_buffer, .int v_buffered, .int v_size, .int v_at, .int v_behind, .int v_kind, .int v_wrong, .int v_wrongAt, .int v_errorAt, .long v_number, .ref a_best, .ref a_rentBy, .ref a_bareBy, .ref a_aheadBy, .ref a_isEdge, .ref a_tried, .ref a_stands, .ref a_found, .ref a_foundOn, .ref a_moving, .int v_movingMany, .int v_foundIncome, .int v_foundMoves])), (a_a, .inl (cI, 180, .inl v_14)), (a_kept, .inl (cI, 1080, .inl v_6))]) E.1 hw 1 0 rfl rfl h_13 (by subst e_v_14; rfl) dX6_addTrader_104 (fun H locs hw => ?_)
    refine lv_aload_n hx hb dX6_addTrader_105 rfl (lv_at hl 1 rfl) ?_
    refine z_get E.1 hw in_wsX60 0 rfl rfl 0 (z_lt rfl) mw_594 (v := .ref a_a) rfl dX6_addTrader_106 ?_
    refine lv_bipush (v := 91) hx hb dX6_addTrader_109 (by decide) ?_
    refine lv_iload hx hb dX6_addTrader_111 (lv_at hl 0 rfl) ?_
    refine lv_iadd hx hb dX6_addTrader_113 ?_
    refine lv_iload_n hx hb dX6_addTrader_114 rfl (lv_at hl 4 rfl) ?_
    obtain ⟨h_15, hf⟩ := oA_elim hf
    obtain ⟨v_16, e_v_16, hf⟩ := oL_elim hf
    refine z_iast (ws' := [(a_this, .inr (6, [.ref a_a, .ref a_fresh, .ref a_kept, .int v_7, .int t1, .ref a_buffer, .int v_buffered, .int v_size, .int v_at, .int v_behind, .int v_kind, .int v_wrong, .int v_wrongAt, .int v_errorAt, .long v_number, .ref a_best, .ref a_rentBy, .ref a_bareBy, .ref a_aheadBy, .ref a_isEdge, .ref a_tried, .ref a_stands, .ref a_found, .ref a_foundOn, .ref a_moving, .int v_movingMany, .int v_foundIncome, .int v_foundMoves])), (a_a, .inl (cI, 180, .inl v_16)), (a_kept, .inl (cI, 1080, .inl v_6))]) E.1 hw 1 0 rfl rfl h_15 (by subst e_v_16; rfl) dX6_addTrader_115 (fun H locs hw => ?_)
    refine lv_aload_n hx hb dX6_addTrader_116 rfl (lv_at hl 1 rfl) ?_
    refine z_get E.1 hw in_wsX60 0 rfl rfl 0 (z_lt rfl) mw_594 (v := .ref a_a) rfl dX6_addTrader_117 ?_
    refine lv_bipush (v := 99) hx hb dX6_addTrader_120 (by decide) ?_
    refine lv_iload hx hb dX6_addTrader_122 (lv_at hl 0 rfl) ?_
    refine lv_iadd hx hb dX6_addTrader_124 ?_
    refine lv_iload hx hb dX6_addTrader_125 (lv_at hl 5 rfl) ?_
    refine lv_if_eq (tgt := 134) hx hb dX6_addTrader_127 (by decide) (fun hc => ?_) (fun hc => ?_)
    · have hf := oI_pos hc hf
      refine lv_iconst (v := 0) hx hb dX6_addTrader_134 (by decide) ?_
      exact w_X6_addTrader_135 E  _ _ _ _ _ _ _ hf _ _ _ hw (lv_sub hl [1, 0] rfl)
    · have hf := oI_neg hc hf
      refine lv_iconst (v := 1) hx hb dX6_addTrader_130 (by decide) ?_
      refine lv_goto (tgt := 135) hx hb dX6_addTrader_131 (by decide) ?_
      exact w_X6_addTrader_135 E  _ _ _ _ _ _ _ hf _ _ _ hw (lv_sub hl [1, 0] rfl)
  · have hf := oI_neg hc hf
    refine lv_iconst (v := 0) hx hb dX6_addTrader_68 (by decide) ?_
    obtain ⟨rfl, rfl, rfl, rfl, rfl⟩ := oR5 hf
    exact z_iret E rfl hw dX6_addTrader_69
set_option maxHeartbeats 4000000 in
set_option maxRecDepth 100000 in
theorem w_X6_addTrader_37 {n : Nat} (E : zE p s m args meth c cX6_addTrader 6 (some .int) zwX6_addTrader RX6) : ∀ (x1 : Int32) (x2 : Int32) (x3 : Int32) (x4 : Int32) (v_a : Nat → Int32) (v_kept : Nat → Int32) (v_keptMany : Int32) (v_thrown : Int32), f_X6_addTrader_37 n x1 x2 x3 x4 v_a v_kept v_keptMany v_thrown = some (r0, w_a, w_kept, w_keptMany, w_thrown) → ∀ (H : Heap) (locs : List Loc) (ls : Array Slot), zW D (zT cI cZ cM) A s [(a_this, .inr (6, [.ref a_a, .ref a_fresh, .ref a_kept, .int v_keptMany, .int v_thrown, .ref a_buffer, .int v_buffered, .int v_size, .int v_at, .int v_behind, .int v_kind, .int v_wrong, .int v_wrongAt, .int v_errorAt, .long v_number, .ref a_best, .ref a_rentBy, .ref a_bareBy, .ref a_aheadBy, .ref a_isEdge, .ref a_tried, .ref a_stands, .ref a_found, .ref a_foundOn, .ref a_moving, .int v_movingMany, .int v_foundIncome, .int v_foundMoves])), (a_a, .inl (cI, 180, .inl v_a)), (a_kept, .inl (cI, 1080, .inl v_kept))] H locs → lv_has ls 6 [(0, .ref a_this), (1, .int x1), (2, .int x2), (3, .int x3), (4, .int x4)] → W p l e rmX6_addTrader s m args below meth c H locs 0 0 (MQ below (zQi D (zT cI cZ cM) r0 [(a_this, .inr (6, [.ref a_a, .ref a_fresh, .ref a_kept, .int w_keptMany, .int w_thrown, .ref a_buffer, .int v_buffered, .int v_size, .int v_at, .int v_behind, .int v_kind, .int v_wrong, .int v_wrongAt, .int v_errorAt, .long v_number, .ref a_best, .ref a_rentBy, .ref a_bareBy, .ref a_aheadBy, .ref a_isEdge, .ref a_tried, .ref a_stands, .ref a_found, .ref a_foundOn, .ref a_moving, .int v_movingMany, .int v_foundIncome, .int v_foundMoves])), (a_a, .inl (cI, 180, .inl w_a)), (a_kept, .inl (cI, 1080, .inl w_kept))] A) args s 0 0 A) (F0 m 37 ls [.ref a_this]) := by
  obtain ⟨⟨hx, hb, hml, hown, hts⟩, hr, hlocks⟩ := id E
  intro x1 x2 x3 x4 v_a v_kept v_keptMany v_thrown hf H locs ls hw hl
  unfold f_X6_addTrader_37 at hf
  refine lv_iconst (v := 1) hx hb dX6_addTrader_37 (by decide) ?_
  refine lv_goto (tgt := 58) hx hb dX6_addTrader_38 (by decide) ?_
  exact w_X6_addTrader_58 E  _ _ _ _ _ _ _ _ _ hf _ _ _ hw (lv_sub hl [0, 1, 2, 3, 4] rfl)
set_option maxHeartbeats 4000000 in
set_option maxRecDepth 100000 in
theorem c_X6_addTrader {l : Launch} {D : va_G} {cI cZ cM : ClassId} {a_this a_a a_fresh a_kept a_buffer a_best a_rentBy a_bareBy a_aheadBy a_isEdge a_tried a_stands a_found a_foundOn a_moving : Nat} {v_buffered : Int32} {v_size : Int32} {v_at : Int32} {v_behind : Int32} {v_kind : Int32} {v_wrong : Int32} {v_wrongAt : Int32} {v_errorAt : Int32} {v_number : Int64} {v_movingMany : Int32} {v_foundIncome : Int32} {v_foundMoves : Int32} {r0 : Int32} {w_a : Nat → Int32} {w_kept : Nat → Int32} {w_keptMany : Int32} {w_thrown : Int32} {sz : Nat} {n : Nat} {v_a : Nat → Int32} {v_kept : Nat → Int32} {v_keptMany : Int32} {v_thrown : Int32} {x1 : Int32} {x2 : Int32} {x3 : Int32} {x4 : Int32} (hf : f_X6_addTrader n v_a v_kept v_keptMany v_thrown x1 x2 x3 x4 = some (r0, w_a, w_kept, w_keptMany, w_thrown)) : Met l yX6_addTrader zwX6_addTrader rmX6_addTrader (zPc D (zT cI cZ cM) [.ref a_this, .int x1, .int x2, .int x3, .int x4] [(a_this, .inr (6, [.ref a_a, .ref a_fresh, .ref a_kept, .int v_keptMany, .int v_thrown, .ref a_buffer, .int v_buffered, .int v_size, .int v_at, .int v_behind, .int v_kind, .int v_wrong, .int v_wrongAt, .int v_errorAt, .long v_number, .ref a_best, .ref a_rentBy, .ref a_bareBy, .ref a_aheadBy, .ref a_isEdge, .ref a_tried, .ref a_stands, .ref a_found, .ref a_foundOn, .ref a_moving, .int v_movingMany, .int v_foundIncome, .int v_foundMoves])), (a_a, .inl (cI, 180, .inl v_a)), (a_kept, .inl (cI, 1080, .inl v_kept))] sz) (zQi D (zT cI cZ cM) r0 [(a_this, .inr (6, [.ref a_a, .ref a_fresh, .ref a_kept, .int w_keptMany, .int w_thrown, .ref a_buffer, .int v_buffered, .int v_size, .int v_at, .int v_behind, .int v_kind, .int v_wrong, .int v_wrongAt, .int v_errorAt, .long v_number, .ref a_best, .ref a_rentBy, .ref a_bareBy, .ref a_aheadBy, .ref a_isEdge, .ref a_tried, .ref a_stands, .ref a_found, .ref a_foundOn, .ref a_moving, .int v_movingMany, .int v_foundIncome, .int v_foundMoves])), (a_a, .inl (cI, 180, .inl w_a)), (a_kept, .inl (cI, 1080, .inl w_kept))] (va_A [(a_this, .inr (6, [.ref a_a, .ref a_fresh, .ref a_kept, .int v_keptMany, .int v_thrown, .ref a_buffer, .int v_buffered, .int v_size, .int v_at, .int v_behind, .int v_kind, .int v_wrong, .int v_wrongAt, .int v_errorAt, .long v_number, .ref a_best, .ref a_rentBy, .ref a_bareBy, .ref a_aheadBy, .ref a_isEdge, .ref a_tried, .ref a_stands, .ref a_found, .ref a_foundOn, .ref a_moving, .int v_movingMany, .int v_foundIncome, .int v_foundMoves])), (a_a, .inl (cI, 180, .inl v_a)), (a_kept, .inl (cI, 1080, .inl v_kept))] sz)) 0 0 (va_A [(a_this, .inr (6, [.ref a_a, .ref a_fresh, .ref a_kept, .int v_keptMany, .int v_thrown, .ref a_buffer, .int v_buffered, .int v_size, .int v_at, .int v_behind, .int v_kind, .int v_wrong, .int v_wrongAt, .int v_errorAt, .long v_number, .ref a_best, .ref a_rentBy, .ref a_bareBy, .ref a_aheadBy, .ref a_isEdge, .ref a_tried, .ref a_stands, .ref a_found, .ref a_foundOn, .ref a_moving, .int v_movingMany, .int v_foundIncome, .int v_foundMoves])), (a_a, .inl (cI, 180, .inl v_a)), (a_kept, .inl (cI, 1080, .inl v_kept))] sz) := by
  refine z_met (cc := cX6_addTrader) (maxL := 6) (ret := (some .int)) (by decide) rfl (Nat.le_of_ble_eq_true rfl) ?_
  intro p e s m below meth c ls E hsz hw hl
  obtain ⟨⟨hx, hb, hml, hown, hts⟩, hr, hlocks⟩ := id E
  have hl : lv_has ls 6 [(0, .ref a_this), (1, .int x1), (2, .int x2), (3, .int x3), (4, .int x4)] := hl
  unfold f_X6_addTrader at hf
  refine lv_aload_n hx hb dX6_addTrader_0 rfl (lv_at hl 0 rfl) ?_
  refine lv_iload_n hx hb dX6_addTrader_1 rfl (lv_at hl 1 rfl) ?_
  refine lv_i2l hx hb dX6_addTrader_2 rfl ?_
  refine lv_lconst (v := 0) hx hb dX6_addTrader_3 (by decide) ?_
  refine lv_ldc2 (v := 7) hx hb hown (hts _ mw_591) dX6_addTrader_4 ?_
  obtain ⟨r_17, h_18, hf⟩ := oB_elim hf
  refine z_callSi (ws' := [(a_this, .inr (6, [.ref a_a, .ref a_fresh, .ref a_kept, .int v_keptMany, .int v_thrown, .ref a_buffer, .int v_buffered, .int v_size, .int v_at, .int v_behind, .int v_kind, .int v_wrong, .int v_wrongAt, .int v_errorAt, .long v_number, .ref a_best, .ref a_rentBy, .ref a_bareBy, .ref a_aheadBy, .ref a_isEdge, .ref a_tried, .ref a_stands, .ref a_found, .ref a_foundOn, .ref a_moving, .int v_movingMany, .int v_foundIncome, .int v_foundMoves])), (a_a, .inl (cI, 180, .inl v_a)), (a_kept, .inl (cI, 1080, .inl v_kept))]) (wr := [(a_this, .inr (6, [.ref a_a, .ref a_fresh, .ref a_kept, .int v_keptMany, .int v_thrown, .ref a_buffer, .int v_buffered, .int v_size, .int v_at, .int v_behind, .int v_kind, .int v_wrong, .int v_wrongAt, .int v_errorAt, .long v_number, .ref a_best, .ref a_rentBy, .ref a_bareBy, .ref a_aheadBy, .ref a_isEdge, .ref a_tried, .ref a_stands, .ref a_found, .ref a_foundOn, .ref a_moving, .int v_movingMany, .int v_foundIncome, .int v_foundMoves])), (a_a, .inl (cI, 180, .inl v_a)), (a_kept, .inl (cI, 1080, .inl v_kept))]) (As := [.long ((x1).toInt64), .long (0 : Int64), .long (7 : Int64)]) (rest := [.ref a_this]) E.1 hl hw (c_X6_isIn h_18) (va_cwS 3 hts (z_gS mw_596 mw_597 mw_598 mw_599) rfl rfl rfl (by decide +kernel) ⟨(Nat.le_of_ble_eq_true rfl), (Nat.le_of_ble_eq_true rfl)⟩) [] [0, 1, 2] rfl rfl rfl rfl rfl rfl rfl rfl (Nat.le_of_ble_eq_true rfl) dX6_addTrader_7 ⟨Nat.le_of_ble_eq_true rfl, Nat.le_of_ble_eq_true rfl⟩ (fun H locs hw => ?_)
  refine lv_if_eq (tgt := 37) hx hb dX6_addTrader_10 (by decide) (fun hc => ?_) (fun hc => ?_)
  · have hf := oI_pos hc hf
    exact w_X6_addTrader_37 E  _ _ _ _ _ _ _ _ hf _ _ _ hw (lv_sub hl [0, 1, 2, 3, 4] rfl)
  · have hf := oI_neg hc hf
    refine lv_iload_n hx hb dX6_addTrader_13 rfl (lv_at hl 2 rfl) ?_
    refine lv_i2l hx hb dX6_addTrader_14 rfl ?_
    refine lv_lconst (v := 1) hx hb dX6_addTrader_15 (by decide) ?_
    refine lv_ldc2 (v := 3) hx hb hown (hts _ mw_592) dX6_addTrader_16 ?_
    obtain ⟨r_19, h_20, hf⟩ := oB_elim hf
    refine z_callSi (ws' := [(a_this, .inr (6, [.ref a_a, .ref a_fresh, .ref a_kept, .int v_keptMany, .int v_thrown, .ref a_buffer, .int v_buffered, .int v_size, .int v_at, .int v_behind, .int v_kind, .int v_wrong, .int v_wrongAt, .int v_errorAt, .long v_number, .ref a_best, .ref a_rentBy, .ref a_bareBy, .ref a_aheadBy, .ref a_isEdge, .ref a_tried, .ref a_stands, .ref a_found, .ref a_foundOn, .ref a_moving, .int v_movingMany, .int v_foundIncome, .int v_foundMoves])), (a_a, .inl (cI, 180, .inl v_a)), (a_kept, .inl (cI, 1080, .inl v_kept))]) (wr := [(a_this, .inr (6, [.ref a_a, .ref a_fresh, .ref a_kept, .int v_keptMany, .int v_thrown, .ref a_buffer, .int v_buffered, .int v_size, .int v_at, .int v_behind, .int v_kind, .int v_wrong, .int v_wrongAt, .int v_errorAt, .long v_number, .ref a_best, .ref a_rentBy, .ref a_bareBy, .ref a_aheadBy, .ref a_isEdge, .ref a_tried, .ref a_stands, .ref a_found, .ref a_foundOn, .ref a_moving, .int v_movingMany, .int v_foundIncome, .int v_foundMoves])), (a_a, .inl (cI, 180, .inl v_a)), (a_kept, .inl (cI, 1080, .inl v_kept))]) (As := [.long ((x2).toInt64), .long (1 : Int64), .long (3 : Int64)]) (rest := [.ref a_this]) E.1 hl hw (c_X6_isIn h_20) (va_cwS 3 hts (z_gS mw_596 mw_597 mw_598 mw_599) rfl rfl rfl (by decide +kernel) ⟨(Nat.le_of_ble_eq_true rfl), (Nat.le_of_ble_eq_true rfl)⟩) [] [0, 1, 2] rfl rfl rfl rfl rfl rfl rfl rfl (Nat.le_of_ble_eq_true rfl) dX6_addTrader_19 ⟨Nat.le_of_ble_eq_true rfl, Nat.le_of_ble_eq_true rfl⟩ (fun H locs hw => ?_)
    refine lv_if_eq (tgt := 37) hx hb dX6_addTrader_22 (by decide) (fun hc => ?_) (fun hc => ?_)
    · have hf := oI_pos hc hf
      exact w_X6_addTrader_37 E  _ _ _ _ _ _ _ _ hf _ _ _ hw (lv_sub hl [0, 1, 2, 3, 4] rfl)
    · have hf := oI_neg hc hf
      refine lv_iload_n hx hb dX6_addTrader_25 rfl (lv_at hl 3 rfl) ?_
      refine lv_i2l hx hb dX6_addTrader_26 rfl ?_
      refine lv_lconst (v := 1) hx hb dX6_addTrader_27 (by decide) ?_
      refine lv_ldc2 (v := 9999) hx hb hown (hts _ mw_593) dX6_addTrader_28 ?_
      obtain ⟨r_21, h_22, hf⟩ := oB_elim hf
      refine z_callSi (ws' := [(a_this, .inr (6, [.ref a_a, .ref a_fresh, .ref a_kept, .int v_keptMany, .int v_thrown, .ref a_buffer, .int v_buffered, .int v_size, .int v_at, .int v_behind, .int v_kind, .int v_wrong, .int v_wrongAt, .int v_errorAt, .long v_number, .ref a_best, .ref a_rentBy, .ref a_bareBy, .ref a_aheadBy, .ref a_isEdge, .ref a_tried, .ref a_stands, .ref a_found, .ref a_foundOn, .ref a_moving, .int v_movingMany, .int v_foundIncome, .int v_foundMoves])), (a_a, .inl (cI, 180, .inl v_a)), (a_kept, .inl (cI, 1080, .inl v_kept))]) (wr := [(a_this, .inr (6, [.ref a_a, .ref a_fresh, .ref a_kept, .int v_keptMany, .int v_thrown, .ref a_buffer, .int v_buffered, .int v_size, .int v_at, .int v_behind, .int v_kind, .int v_wrong, .int v_wrongAt, .int v_errorAt, .long v_number, .ref a_best, .ref a_rentBy, .ref a_bareBy, .ref a_aheadBy, .ref a_isEdge, .ref a_tried, .ref a_stands, .ref a_found, .ref a_foundOn, .ref a_moving, .int v_movingMany, .int v_foundIncome, .int v_foundMoves])), (a_a, .inl (cI, 180, .inl v_a)), (a_kept, .inl (cI, 1080, .inl v_kept))]) (As := [.long ((x3).toInt64), .long (1 : Int64), .long (9999 : Int64)]) (rest := [.ref a_this]) E.1 hl hw (c_X6_isIn h_22) (va_cwS 3 hts (z_gS mw_596 mw_597 mw_598 mw_599) rfl rfl rfl (by decide +kernel) ⟨(Nat.le_of_ble_eq_true rfl), (Nat.le_of_ble_eq_true rfl)⟩) [] [0, 1, 2] rfl rfl rfl rfl rfl rfl rfl rfl (Nat.le_of_ble_eq_true rfl) dX6_addTrader_31 ⟨Nat.le_of_ble_eq_true rfl, Nat.le_of_ble_eq_true rfl⟩ (fun H locs hw => ?_)
      refine lv_if_ne (tgt := 41) hx hb dX6_addTrader_34 (by decide) (fun hc => ?_) (fun hc => ?_)
      · have hf := oI_neg hc hf
        refine lv_aload_n hx hb dX6_addTrader_41 rfl (lv_at hl 0 rfl) ?_
        refine z_get E.1 hw in_wsX60 0 rfl rfl 0 (z_lt rfl) mw_594 (v := .ref a_a) rfl dX6_addTrader_42 ?_
        refine lv_bipush (v := 74) hx hb dX6_addTrader_45 (by decide) ?_
        obtain ⟨h_23, hf⟩ := oA_elim hf
        refine z_iald E.1 hw 1 0 rfl rfl h_23 dX6_addTrader_47 ?_
        refine lv_bipush (v := 8) hx hb dX6_addTrader_48 (by decide) ?_
        refine lv_icmp_ne (tgt := 57) hx hb dX6_addTrader_50 (by decide) (fun hc => ?_) (fun hc => ?_)
        · have hf := oI_neg hc hf
          refine lv_iconst (v := 0) hx hb dX6_addTrader_57 (by decide) ?_
          exact w_X6_addTrader_58 E  _ _ _ _ _ _ _ _ _ hf _ _ _ hw (lv_sub hl [0, 1, 2, 3, 4] rfl)
        · have hf := oI_pos hc hf
          refine lv_iconst (v := 2) hx hb dX6_addTrader_53 (by decide) ?_
          refine lv_goto (tgt := 58) hx hb dX6_addTrader_54 (by decide) ?_
          exact w_X6_addTrader_58 E  _ _ _ _ _ _ _ _ _ hf _ _ _ hw (lv_sub hl [0, 1, 2, 3, 4] rfl)
      · have hf := oI_pos hc hf
        exact w_X6_addTrader_37 E  _ _ _ _ _ _ _ _ hf _ _ _ hw (lv_sub hl [0, 1, 2, 3, 4] rfl)
end
