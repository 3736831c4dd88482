/-! X2_areClashing -/
section
variable {p : Program} {l : Launch} {e : Env} {s : State} {m : MethodId} {args : Array Value} {below : List Frame} {meth : Method} {c : Code} {D : va_G} {A : Nat → Prop} {cI cZ cM : ClassId} {a_this a_rows a_rents a_roofs a_trades a_fronts a_limits a_needy a_clashes a_starts a_standing : Nat} {v_pitches : Int32} {v_traders : Int32} {v_covers : Int32} {v_coversBusy : Int32} {res : Int32}
def rmX2_areClashing : Room := { frames := 0, cells := 0, slots := 0, locals := 0 }
abbrev zwX2_areClashing : List Cond := Cond.code yX2_areClashing cX2_areClashing 3 (some .boolean) :: wsAll
set_option maxHeartbeats 4000000 in
set_option maxRecDepth 100000 in
theorem c_X2_areClashing {l : Launch} {D : va_G} {cI cZ cM : ClassId} {a_this a_rows a_rents a_roofs a_trades a_fronts a_limits a_needy a_clashes a_starts a_standing : Nat} {v_pitches : Int32} {v_traders : Int32} {v_covers : Int32} {v_coversBusy : Int32} {res : Int32} {sz : Nat} {v_clashes : Nat → Int32} {x1 : Int32} {x2 : Int32} (hf : f_X2_areClashing v_clashes x1 x2 = some res) : Met l yX2_areClashing zwX2_areClashing rmX2_areClashing (zPc D (zT cI cZ cM) [.ref a_this, .int x1, .int x2] [(a_this, .inr (2, [.int v_pitches, .ref a_rows, .ref a_rents, .ref a_roofs, .int v_traders, .ref a_trades, .ref a_fronts, .ref a_limits, .ref a_needy, .ref a_clashes, .int v_covers, .ref a_starts, .ref a_standing, .int v_coversBusy])), (a_clashes, .inl (cI, 8, .inl v_clashes))] sz) (zQi D (zT cI cZ cM) res [(a_this, .inr (2, [.int v_pitches, .ref a_rows, .ref a_rents, .ref a_roofs, .int v_traders, .ref a_trades, .ref a_fronts, .ref a_limits, .ref a_needy, .ref a_clashes, .int v_covers, .ref a_starts, .ref a_standing, .int v_coversBusy])), (a_clashes, .inl (cI, 8, .inl v_clashes))] (va_A [(a_this, .inr (2, [.int v_pitches, .ref a_rows, .ref a_rents, .ref a_roofs, .int v_traders, .ref a_trades, .ref a_fronts, .ref a_limits, .ref a_needy, .ref a_clashes, .int v_covers, .ref a_starts, .ref a_standing, .int v_coversBusy])), (a_clashes, .inl (cI, 8, .inl v_clashes))] sz)) 0 0 (va_A [(a_this, .inr (2, [.int v_pitches, .ref a_rows, .ref a_rents, .ref a_roofs, .int v_traders, .ref a_trades, .ref a_fronts, .ref a_limits, .ref a_needy, .ref a_clashes, .int v_covers, .ref a_starts, .ref a_standing, .int v_coversBusy])), (a_clashes, .inl (cI, 8, .inl v_clashes))] sz) := by
  refine z_met (cc := cX2_areClashing) (maxL := 3) (ret := (some .boolean)) (by decide) rfl (Nat.le_of_ble_eq_true rfl) ?_
  intro p e s m below meth c ls E hsz hw hl
  obtain ⟨⟨hx, hb, hml, hown, hts⟩, hr, hlocks⟩ := id E
  have hl : lv_has ls 3 [(0, .ref a_this), (1, .int x1), (2, .int x2)] := hl
  unfold f_X2_areClashing at hf
  refine lv_aload_n hx hb dX2_areClashing_0 rfl (lv_at hl 0 rfl) ?_
  refine z_get E.1 hw in_wsX20 0 rfl rfl 9 (z_lt rfl) mw_25 (v := .ref a_clashes) rfl dX2_areClashing_1 ?_
  refine lv_iload_n hx hb dX2_areClashing_4 rfl (lv_at hl 1 rfl) ?_
  obtain ⟨h_1, hf⟩ := oA_elim hf
  refine z_iald E.1 hw 1 0 rfl rfl h_1 dX2_areClashing_5 ?_
  refine lv_iload_n hx hb dX2_areClashing_6 rfl (lv_at hl 2 rfl) ?_
  refine lv_ishr hx hb dX2_areClashing_7 ?_
  refine lv_iconst (v := 1) hx hb dX2_areClashing_8 (by decide) ?_
  refine lv_iand hx hb dX2_areClashing_9 ?_
  refine lv_if_eq (tgt := 17) hx hb dX2_areClashing_10 (by decide) (fun hc => ?_) (fun hc => ?_)
  · have hf := oI_pos hc hf
    refine lv_iconst (v := 0) hx hb dX2_areClashing_17 (by decide) ?_
    cases hf
    exact z_zret E rfl z_n0 hw dX2_areClashing_18
  · have hf := oI_neg hc hf
    refine lv_iconst (v := 1) hx hb dX2_areClashing_13 (by decide) ?_
    refine lv_goto (tgt := 18) hx hb dX2_areClashing_14 (by decide) ?_
    cases hf
    exact z_zret E rfl z_n1 hw dX2_areClashing_18
end
/-! X2_countSeated -/
section
variable {p : Program} {l : Launch} {e : Env} {s : State} {m : MethodId} {args : Array Value} {below : List Frame} {meth : Method} {c : Code} {D : va_G} {A : Nat → Prop} {cI cZ cM : ClassId} {a_this a_rows a_rents a_roofs a_trades a_fronts a_limits a_needy a_clashes a_starts a_standing : Nat} {v_pitches : Int32} {v_covers : Int32} {v_coversBusy : Int32} {res : Int32}
def rmX2_countSeated : Room := { frames := 1, cells := 0, slots := 0, locals := 21 }
abbrev zwX2_countSeated : List Cond := Cond.code yX2_countSeated cX2_countSeated 3 (some .int) :: wsAll
set_option maxHeartbeats 4000000 in
set_option maxRecDepth 100000 in
theorem w_X2_countSeated_23 {n : Nat} (E : zE p s m args meth c cX2_countSeated 3 (some .int) zwX2_countSeated RX2) {k4 : Int32 → Int32 → Int32 → (Nat → Int32) → Option (Int32)} (hk4 : ∀ (x1 : Int32) (x2 : Int32) (v_traders : Int32) (v_starts : Nat → Int32), k4 x1 x2 v_traders v_starts = some res → ∀ (H : Heap) (locs : List Loc) (ls : Array Slot), zW D (zT cI cZ cM) A s [(a_this, .inr (2, [.int v_pitches, .ref a_rows, .ref a_rents, .ref a_roofs, .int v_traders, .ref a_trades, .ref a_fronts, .ref a_limits, .ref a_needy, .ref a_clashes, .int v_covers, .ref a_starts, .ref a_standing, .int v_coversBusy])), (a_starts, .inl (cI, 8, .inl v_starts))] H locs → lv_has ls 3 [(0, .ref a_this), (1, .int x1), (2, .int x2)] → W p l e rmX2_countSeated s m args below meth c H locs 0 0 (MQ below (zQi D (zT cI cZ cM) res [(a_this, .inr (2, [.int v_pitches, .ref a_rows, .ref a_rents, .ref a_roofs, .int v_traders, .ref a_trades, .ref a_fronts, .ref a_limits, .ref a_needy, .ref a_clashes, .int v_covers, .ref a_starts, .ref a_standing, .int v_coversBusy])), (a_starts, .inl (cI, 8, .inl v_starts))] A) args s 0 0 A) (F0 m 4 ls [])) : ∀ (x1 : Int32) (x2 : Int32) (v_traders : Int32) (v_starts : Nat → Int32), f_X2_countSeated_23 n k4 x1 x2 v_traders v_starts = some res → ∀ (H : Heap) (locs : List Loc) (ls : Array Slot), zW D (zT cI cZ cM) A s [(a_this, .inr (2, [.int v_pitches, .ref a_rows, .ref a_rents, .ref a_roofs, .int v_traders, .ref a_trades, .ref a_fronts, .ref a_limits, .ref a_needy, .ref a_clashes, .int v_covers, .ref a_starts, .ref a_standing, .int v_coversBusy])), (a_starts, .inl (cI, 8, .inl v_starts))] H locs → lv_has ls 3 [(0, .ref a_this), (1, .int x1), (2, .int x2)] → W p l e rmX2_countSeated s m args below meth c H locs 0 0 (MQ below (zQi D (zT cI cZ cM) res [(a_this, .inr (2, [.int v_pitches, .ref a_rows, .ref a_rents, .ref a_roofs, .int v_traders, .ref a_trades, .ref a_fronts, .ref a_limits, .ref a_needy, .ref a_clashes, .int v_covers, .ref a_starts, .ref a_standing, .int v_coversBusy])), (a_starts, .inl (cI, 8, .inl v_starts))] A) args s 0 0 A) (F0 m 23 ls []) := by
  obtain ⟨⟨hx, hb, hml, hown, hts⟩, hr, hlocks⟩ := id E
  intro x1 x2 v_traders v_starts hf H locs ls hw hl
  unfold f_X2_countSeated_23 at hf
  refine lv_iinc (v := (x2 + (1 : Int32))) (lv' := [(2, .int (x2 + (1 : Int32))), (0, .ref a_this), (1, .int x1)]) hx hb dX2_countSeated_23 hl (k := 2) rfl rfl (z_lt rfl) rfl (fun ls hl => ?_)
  refine lv_goto (tgt := 4) hx hb dX2_countSeated_26 (by decide) ?_
  exact hk4 _ _ _ _ hf _ _ _ hw (lv_sub hl [1, 2, 0] rfl)
set_option maxHeartbeats 4000000 in
set_option maxRecDepth 100000 in
theorem w_X2_countSeated_4 {n : Nat} (E : zE p s m args meth c cX2_countSeated 3 (some .int) zwX2_countSeated RX2) : ∀ (fu : Nat), ∀ (x1 : Int32) (x2 : Int32) (v_traders : Int32) (v_starts : Nat → Int32), f_X2_countSeated_4 n fu x1 x2 v_traders v_starts = some res → ∀ (H : Heap) (locs : List Loc) (ls : Array Slot), zW D (zT cI cZ cM) A s [(a_this, .inr (2, [.int v_pitches, .ref a_rows, .ref a_rents, .ref a_roofs, .int v_traders, .ref a_trades, .ref a_fronts, .ref a_limits, .ref a_needy, .ref a_clashes, .int v_covers, .ref a_starts, .ref a_standing, .int v_coversBusy])), (a_starts, .inl (cI, 8, .inl v_starts))] H locs → lv_has ls 3 [(0, .ref a_this), (1, .int x1), (2, .int x2)] → W p l e rmX2_countSeated s m args below meth c H locs 0 0 (MQ below (zQi D (zT cI cZ cM) res [(a_this, .inr (2, [.int v_pitches, .ref a_rows, .ref a_rents, .ref a_roofs, .int v_traders, .ref a_trades, .ref a_fronts, .ref a_limits, .ref a_needy, .ref a_clashes, .int v_covers, .ref a_starts, .ref a_standing, .int v_coversBusy])), (a_starts, .inl (cI, 8, .inl v_starts))] A) args s 0 0 A) (F0 m 4 ls []) := by
  obtain ⟨⟨hx, hb, hml, hown, hts⟩, hr, hlocks⟩ := id E
  intro fu
  induction fu with
  | zero => intro x1 x2 v_traders v_starts hf; rw [f_X2_countSeated_4.eq_1] at hf; cases hf
  | succ fu ih =>
    intro x1 x2 v_traders v_starts hf H locs ls hw hl
    rw [f_X2_countSeated_4.eq_2] at hf
    refine lv_iload_n hx hb dX2_countSeated_4 rfl (lv_at hl 2 rfl) ?_
    refine lv_aload_n hx hb dX2_countSeated_5 rfl (lv_at hl 0 rfl) ?_
    refine z_get E.1 hw in_wsX20 0 rfl rfl 4 (z_lt rfl) mw_20 (v := .int v_traders) rfl dX2_countSeated_6 ?_
    refine lv_icmp_ge (tgt := 29) hx hb dX2_countSeated_9 (by decide) (fun hc => ?_) (fun hc => ?_)
    · have hf := oI_pos hc hf
      refine lv_iload_n hx hb dX2_countSeated_29 rfl (lv_at hl 1 rfl) ?_
      cases hf
      exact z_iret E rfl hw dX2_countSeated_30
    · have hf := oI_neg hc hf
      refine lv_aload_n hx hb dX2_countSeated_12 rfl (lv_at hl 0 rfl) ?_
      refine lv_iload_n hx hb dX2_countSeated_13 rfl (lv_at hl 2 rfl) ?_
      obtain ⟨r_1, h_2, hf⟩ := oB_elim hf
      refine z_callVi (ws' := [(a_this, .inr (2, [.int v_pitches, .ref a_rows, .ref a_rents, .ref a_roofs, .int v_traders, .ref a_trades, .ref a_fronts, .ref a_limits, .ref a_needy, .ref a_clashes, .int v_covers, .ref a_starts, .ref a_standing, .int v_coversBusy])), (a_starts, .inl (cI, 8, .inl v_starts))]) (wr := []) (As := [.int x2]) (rest := []) E.1 hl hw (c_X2_isSeated h_2) (cwV 1 hts (z_gV mw_63 mw_64 mw_65 mw_9 mw_66) rfl rfl rfl (by decide +kernel) ⟨(Nat.le_of_ble_eq_true rfl), (Nat.le_of_ble_eq_true rfl)⟩) 2 [(0, 2)] [] rfl rfl rfl rfl rfl rfl (by decide +kernel) rfl (q0 := 0) rfl rfl rfl (Nat.le_of_ble_eq_true rfl) dX2_countSeated_14 ⟨Nat.le_of_ble_eq_true rfl, Nat.le_of_ble_eq_true rfl⟩ (fun H locs hw => ?_)
      refine lv_if_eq (tgt := 23) hx hb dX2_countSeated_17 (by decide) (fun hc => ?_) (fun hc => ?_)
      · have hf := oI_pos hc hf
        exact w_X2_countSeated_23 E ih _ _ _ _ hf _ _ _ hw (lv_sub hl [0, 1, 2] rfl)
      · have hf := oI_neg hc hf
        refine lv_iinc (v := (x1 + (1 : Int32))) (lv' := [(1, .int (x1 + (1 : Int32))), (0, .ref a_this), (2, .int x2)]) hx hb dX2_countSeated_20 hl (k := 1) rfl rfl (z_lt rfl) rfl (fun ls hl => ?_)
        exact w_X2_countSeated_23 E ih _ _ _ _ hf _ _ _ hw (lv_sub hl [1, 0, 2] rfl)
set_option maxHeartbeats 4000000 in
set_option maxRecDepth 100000 in
theorem c_X2_countSeated {l : Launch} {D : va_G} {cI cZ cM : ClassId} {a_this a_rows a_rents a_roofs a_trades a_fronts a_limits a_needy a_clashes a_starts a_standing : Nat} {v_pitches : Int32} {v_covers : Int32} {v_coversBusy : Int32} {res : Int32} {sz : Nat} {n : Nat} {v_traders : Int32} {v_starts : Nat → Int32} (hf : f_X2_countSeated n v_traders v_starts = some res) : Met l yX2_countSeated zwX2_countSeated rmX2_countSeated (zPc D (zT cI cZ cM) [.ref a_this] [(a_this, .inr (2, [.int v_pitches, .ref a_rows, .ref a_rents, .ref a_roofs, .int v_traders, .ref a_trades, .ref a_fronts, .ref a_limits, .ref a_needy, .ref a_clashes, .int v_covers, .ref a_starts, .ref a_standing, .int v_coversBusy])), (a_starts, .inl (cI, 8, .inl v_starts))] sz) (zQi D (zT cI cZ cM) res [(a_this, .inr (2, [.int v_pitches, .ref a_rows, .ref a_rents, .ref a_roofs, .int v_traders, .ref a_trades, .ref a_fronts, .ref a_limits, .ref a_needy, .ref a_clashes, .int v_covers, .ref a_starts, .ref a_standing, .int v_coversBusy])), (a_starts, .inl (cI, 8, .inl v_starts))] (va_A [(a_this, .inr (2, [.int v_pitches, .ref a_rows, .ref a_rents, .ref a_roofs, .int v_traders, .ref a_trades, .ref a_fronts, .ref a_limits, .ref a_needy, .ref a_clashes, .int v_covers, .ref a_starts, .ref a_standing, .int v_coversBusy])), (a_starts, .inl (cI, 8, .inl v_starts))] sz)) 0 0 (va_A [(a_this, .inr (2, [.int v_pitches, .ref a_rows, .ref a_rents, .ref a_roofs, .int v_traders, .ref a_trades, .ref a_fronts, .ref a_limits, .ref a_needy, .ref a_clashes, .int v_covers, .ref a_starts, .ref a_standing, .int v_coversBusy])), (a_starts, .inl (cI, 8, .inl v_starts))] sz) := by
  refine z_met (cc := cX2_countSeated) (maxL := 3) (ret := (some .int)) (by decide) rfl (Nat.le_of_ble_eq_true rfl) ?_
  intro p e s m below meth c ls E hsz hw hl
  obtain ⟨⟨hx, hb, hml, hown, hts⟩, hr, hlocks⟩ := id E
  have hl : lv_has ls 3 [(0, .ref a_this)] := hl
  unfold f_X2_countSeated at hf
  refine lv_iconst (v := 0) hx hb dX2_countSeated_0 (by decide) ?_
  refine lv_istore_n (lv' := [(1, .int (0 : Int32)), (0, .ref a_this)]) hx hb dX2_countSeated_1 rfl hl (z_lt rfl) rfl (fun ls hl => ?_)
  refine lv_iconst (v := 0) hx hb dX2_countSeated_2 (by decide) ?_
  refine lv_istore_n (lv' := [(2, .int (0 : Int32)), (1, .int (0 : Int32)), (0, .ref a_this)]) hx hb dX2_countSeated_3 rfl hl (z_lt rfl) rfl (fun ls hl => ?_)
  exact w_X2_countSeated_4 E  n _ _ _ _ hf _ _ _ hw (lv_sub hl [2, 1, 0] rfl)
end
/-! X2_enrol -/
section
variable {p : Program} {l : Launch} {e : Env} {s : State} {m : MethodId} {args : Array Value} {below : List Frame} {meth : Method} {c : Code} {D : va_G} {A : Nat → Prop} {cI cZ cM : ClassId} {a_this a_rows a_rents a_roofs a_trades a_fronts a_limits a_needy a_clashes a_starts a_standing : Nat} {v_pitches : Int32} {v_covers : Int32} {v_coversBusy : Int32} {res : Int32 × (Nat → Int32) × (Nat → Int32) × (Nat → Int32) × (Nat → Int32)}
def rmX2_enrol : Room := { frames := 0, cells := 0, slots := 0, locals := 0 }
abbrev zwX2_enrol : List Cond := Cond.code yX2_enrol cX2_enrol 5 none :: wsAll
set_option maxHeartbeats 4000000 in
set_option maxRecDepth 100000 in
theorem c_X2_enrol {l : Launch} {D : va_G} {cI cZ cM : ClassId} {a_this a_rows a_rents a_roofs a_trades a_fronts a_limits a_needy a_clashes a_starts a_standing : Nat} {v_pitches : Int32} {v_covers : Int32} {v_coversBusy : Int32} {res : Int32 × (Nat → Int32) × (Nat → Int32) × (Nat → Int32) × (Nat → Int32)} {sz : Nat} {v_traders : Int32} {v_trades : Nat → Int32} {v_fronts : Nat → Int32} {v_limits : Nat → Int32} {v_needy : Nat → Int32} {x1 : Int32} {x2 : Int32} {x3 : Int32} {x4 : Int32} (hf : f_X2_enrol v_traders v_trades v_fronts v_limits v_needy x1 x2 x3 x4 = some res) : Met l yX2_enrol zwX2_enrol rmX2_enrol (zPc D (zT cI cZ cM) [.ref a_this, .int x1, .int x2, .int x3, .int x4] [(a_this, .inr (2, [.int v_pitches, .ref a_rows, .ref a_rents, .ref a_roofs, .int v_traders, .ref a_trades, .ref a_fronts, .ref a_limits, .ref a_needy, .ref a_clashes, .int v_covers, .ref a_starts, .ref a_standing, .int v_coversBusy])), (a_trades, .inl (cI, 8, .inl v_trades)), (a_fronts, .inl (cI, 8, .inl v_fronts)), (a_limits, .inl (cI, 8, .inl v_limits)), (a_needy, .inl (cZ, 8, .inl v_needy))] sz) (zQv D (zT cI cZ cM) [(a_this, .inr (2, [.int v_pitches, .ref a_rows, .ref a_rents, .ref a_roofs, .int res.1, .ref a_trades, .ref a_fronts, .ref a_limits, .ref a_needy, .ref a_clashes, .int v_covers, .ref a_starts, .ref a_standing, .int v_coversBusy])), (a_trades, .inl (cI, 8, .inl res.2.1)), (a_fronts, .inl (cI, 8, .inl res.2.2.1)), (a_limits, .inl (cI, 8, .inl res.2.2.2.1)), (a_needy, .inl (cZ, 8, .inl res.2.2.2.2))] (va_A [(a_this, .inr (2, [.int v_pitches, .ref a_rows, .ref a_rents, .ref a_roofs, .int v_traders, .ref a_trades, .ref a_fronts, .ref a_limits, .ref a_needy, .ref a_clashes, .int v_covers, .ref a_starts, .ref a_standing, .int v_coversBusy])), (a_trades, .inl (cI, 8, .inl v_trades)), (a_fronts, .inl (cI, 8, .inl v_fronts)), (a_limits, .inl (cI, 8, .inl v_limits)), (a_needy, .inl (cZ, 8, .inl v_needy))] sz)) 0 0 (va_A [(a_this, .inr (2, [.int v_pitches, .ref a_rows, .ref a_rents, .ref a_roofs, .int v_traders, .ref a_trades, .ref a_fronts, .ref a_limits, .ref a_needy, .ref a_clashes, .int v_covers, .ref a_starts, .ref a_standing, .int v_coversBusy])), (a_trades, .inl (cI, 8, .inl v_trades)), (a_fronts, .inl (cI, 8, .inl v_fronts)), (a_limits, .inl (cI, 8, .inl v_limits)), (a_needy, .inl (cZ, 8, .inl v_needy))] sz) := by
  refine z_met (cc := cX2_enrol) (maxL := 5) (ret := none) (by decide) rfl (Nat.le_of_ble_eq_true rfl) ?_
  intro p e s m below meth c ls E hsz hw hl
  obtain ⟨⟨hx, hb, hml, hown, hts⟩, hr, hlocks⟩ := id E
  have hl : lv_has ls 5 [(0, .ref a_this), (1, .int x1), (2, .int x2), (3, .int x3), (4, .int x4)] := hl
  unfold f_X2_enrol at hf
  refine lv_aload_n hx hb dX2_enrol_0 rfl (lv_at hl 0 rfl) ?_
  refine z_get E.1 hw in_wsX20 0 rfl rfl 4 (z_lt rfl) mw_20 (v := .int v_traders) rfl dX2_enrol_1 ?_
  refine lv_bipush (v := 8) hx hb dX2_enrol_4 (by decide) ?_
  refine lv_icmp_ge (tgt := 60) hx hb dX2_enrol_6 (by decide) (fun hc => ?_) (fun hc => ?_)
  · have hf := oI_pos hc hf
    cases hf
    exact z_vret E rfl hw dX2_enrol_60
  · have hf := oI_neg hc hf
    refine lv_aload_n hx hb dX2_enrol_9 rfl (lv_at hl 0 rfl) ?_
    refine z_get E.1 hw in_wsX20 0 rfl rfl 5 (z_lt rfl) mw_21 (v := .ref a_trades) rfl dX2_enrol_10 ?_
    refine lv_aload_n hx hb dX2_enrol_13 rfl (lv_at hl 0 rfl) ?_
    refine z_get E.1 hw in_wsX20 0 rfl rfl 4 (z_lt rfl) mw_20 (v := .int v_traders) rfl dX2_enrol_14 ?_
    refine lv_iload_n hx hb dX2_enrol_17 rfl (lv_at hl 1 rfl) ?_
    obtain ⟨h_1, hf⟩ := oA_elim hf
    obtain ⟨v_2, e_v_2, hf⟩ := oL_elim hf
    refine z_iast (ws' := [(a_this, .inr (2, [.int v_pitches, .ref a_rows, .ref a_rents, .ref a_roofs, .int v_traders, .ref a_trades, .ref a_fronts, .ref a_limits, .ref a_needy, .ref a_clashes, .int v_covers, .ref a_starts, .ref a_standing, .int v_coversBusy])), (a_trades, .inl (cI, 8, .inl v_2)), (a_fronts, .inl (cI, 8, .inl v_fronts)), (a_limits, .inl (cI, 8, .inl v_limits)), (a_needy, .inl (cZ, 8, .inl v_needy))]) E.1 hw 1 0 rfl rfl h_1 (by subst e_v_2; rfl) dX2_enrol_18 (fun H locs hw => ?_)
    refine lv_aload_n hx hb dX2_enrol_19 rfl (lv_at hl 0 rfl) ?_
    refine z_get E.1 hw in_wsX20 0 rfl rfl 6 (z_lt rfl) mw_22 (v := .ref a_fronts) rfl dX2_enrol_20 ?_
    refine lv_aload_n hx hb dX2_enrol_23 rfl (lv_at hl 0 rfl) ?_
    refine z_get E.1 hw in_wsX20 0 rfl rfl 4 (z_lt rfl) mw_20 (v := .int v_traders) rfl dX2_enrol_24 ?_
    refine lv_iload_n hx hb dX2_enrol_27 rfl (lv_at hl 2 rfl) ?_
    obtain ⟨h_3, hf⟩ := oA_elim hf
    obtain ⟨v_4, e_v_4, hf⟩ := oL_elim hf
    refine z_iast (ws' := [(a_this, .inr (2, [.int v_pitches, .ref a_rows, .ref a_rents, .ref a_roofs, .int v_traders, .ref a_trades, .ref a_fronts, .ref a_limits, .ref a_needy, .ref a_clashes, .int v_covers, .ref a_starts, .ref a_standing, .int v_coversBusy])), (a_trades, .inl (cI, 8, .inl v_2)), (a_fronts, .inl (cI, 8, .inl v_4)), (a_limits, .inl (cI, 8, .inl v_limits)), (a_needy, .inl (cZ, 8, .inl v_needy))]) E.1 hw 2 0 rfl rfl h_3 (by subst e_v_4; rfl) dX2_enrol_28 (fun H locs hw => ?_)
    refine lv_aload_n hx hb dX2_enrol_29 rfl (lv_at hl 0 rfl) ?_
    refine z_get E.1 hw in_wsX20 0 rfl rfl 7 (z_lt rfl) mw_23 (v := .ref a_limits) rfl dX2_enrol_30 ?_
    refine lv_aload_n hx hb dX2_enrol_33 rfl (lv_at hl 0 rfl) ?_
    refine z_get E.1 hw in_wsX20 0 rfl rfl 4 (z_lt rfl) mw_20 (v := .int v_traders) rfl dX2_enrol_34 ?_
    refine lv_iload_n hx hb dX2_enrol_37 rfl (lv_at hl 3 rfl) ?_
    obtain ⟨h_5, hf⟩ := oA_elim hf
    obtain ⟨v_6, e_v_6, hf⟩ := oL_elim hf
    refine z_iast (ws' := [(a_this, .inr (2, [.int v_pitches, .ref a_rows, .ref a_rents, .ref a_roofs, .int v_traders, .ref a_trades, .ref a_fronts, .ref a_limits, .ref a_needy, .ref a_clashes, .int v_covers, .ref a_starts, .ref a_standing, .int v_coversBusy])), (a_trades, .inl (cI, 8, .inl v_2)), (a_fronts, .inl (cI, 8, .inl v_4)), (a_limits, .inl (cI, 8, .inl v_6)), (a_needy, .inl (cZ, 8, .inl v_needy))]) E.1 hw 3 0 rfl rfl h_5 (by subst e_v_6; rfl) dX2_enrol_38 (fun H locs hw => ?_)
    refine lv_aload_n hx hb dX2_enrol_39 rfl (lv_at hl 0 rfl) ?_
    refine z_get E.1 hw in_wsX20 0 rfl rfl 8 (z_lt rfl) mw_24 (v := .ref a_needy) rfl dX2_enrol_40 ?_
    refine lv_aload_n hx hb dX2_enrol_43 rfl (lv_at hl 0 rfl) ?_
    refine z_get E.1 hw in_wsX20 0 rfl rfl 4 (z_lt rfl) mw_20 (v := .int v_traders) rfl dX2_enrol_44 ?_
    refine lv_iload hx hb dX2_enrol_47 (lv_at hl 4 rfl) ?_
    obtain ⟨h_7, hf⟩ := oA_elim hf
    obtain ⟨v_8, e_v_8, hf⟩ := oL_elim hf
    refine z_zast (ws' := [(a_this, .inr (2, [.int v_pitches, .ref a_rows, .ref a_rents, .ref a_roofs, .int v_traders, .ref a_trades, .ref a_fronts, .ref a_limits, .ref a_needy, .ref a_clashes, .int v_covers, .ref a_starts, .ref a_standing, .int v_coversBusy])), (a_trades, .inl (cI, 8, .inl v_2)), (a_fronts, .inl (cI, 8, .inl v_4)), (a_limits, .inl (cI, 8, .inl v_6)), (a_needy, .inl (cZ, 8, .inl v_8))]) E.1 hw 4 1 rfl rfl h_7 (by subst e_v_8; rfl) dX2_enrol_49 (fun H locs hw => ?_)
    refine lv_aload_n hx hb dX2_enrol_50 rfl (lv_at hl 0 rfl) ?_
    refine lv_dup hx hb dX2_enrol_51 rfl ?_
    refine z_get E.1 hw in_wsX20 0 rfl rfl 4 (z_lt rfl) mw_20 (v := .int v_traders) rfl dX2_enrol_52 ?_
    refine lv_iconst (v := 1) hx hb dX2_enrol_55 (by decide) ?_
    refine lv_iadd hx hb dX2_enrol_56 ?_
    obtain ⟨y_9, e_y_9, hf⟩ := oL_elim hf
    refine z_top e_y_9 ?_
    refine z_put (ws' := [(a_this, .inr (2, [.int v_pitches, .ref a_rows, .ref a_rents, .ref a_roofs, .int y_9, .ref a_trades, .ref a_fronts, .ref a_limits, .ref a_needy, .ref a_clashes, .int v_covers, .ref a_starts, .ref a_standing, .int v_coversBusy])), (a_trades, .inl (cI, 8, .inl v_2)), (a_fronts, .inl (cI, 8, .inl v_4)), (a_limits, .inl (cI, 8, .inl v_6)), (a_needy, .inl (cZ, 8, .inl v_8))]) E.1 hw in_wsX20 tyX2 tyX2_ok nmX2 0 rfl rfl 4 (z_lt rfl) mw_20 rfl rfl rfl (z_lt rfl) rfl dX2_enrol_57 (fun H locs hw => ?_)
    cases hf
    exact z_vret E rfl hw dX2_enrol_60
end
/-! X2_hasPitch -/
section
variable {p : Program} {l : Launch} {e : Env} {s : State} {m : MethodId} {args : Array Value} {below : List Frame} {meth : Method} {c : Code} {D : va_G} {A : Nat → Prop} {cI cZ cM : ClassId} {a_this a_rows a_rents a_roofs a_trades a_fronts a_limits a_needy a_clashes a_starts a_standing : Nat} {v_traders : Int32} {v_covers : Int32} {v_coversBusy : Int32} {res : Int32}
def rmX2_hasPitch : Room := { frames := 0, cells := 0, slots := 0, locals := 0 }
abbrev zwX2_hasPitch : List Cond := Cond.code yX2_hasPitch cX2_hasPitch 2 (some .boolean) :: wsAll
set_option maxHeartbeats 4000000 in
set_option maxRecDepth 100000 in
theorem c_X2_hasPitch {l : Launch} {D : va_G} {cI cZ cM : ClassId} {a_this a_rows a_rents a_roofs a_trades a_fronts a_limits a_needy a_clashes a_starts a_standing : Nat} {v_traders : Int32} {v_covers : Int32} {v_coversBusy : Int32} {res : Int32} {sz : Nat} {v_pitches : Int32} {x1 : Int32} (hf : f_X2_hasPitch v_pitches x1 = some res) : Met l yX2_hasPitch zwX2_hasPitch rmX2_hasPitch (zPc D (zT cI cZ cM) [.ref a_this, .int x1] [(a_this, .inr (2, [.int v_pitches, .ref a_rows, .ref a_rents, .ref a_roofs, .int v_traders, .ref a_trades, .ref a_fronts, .ref a_limits, .ref a_needy, .ref a_clashes, .int v_covers, .ref a_starts, .ref a_standing, .int v_coversBusy]))] sz) (zQi D (zT cI cZ cM) res [(a_this, .inr (2, [.int v_pitches, .ref a_rows, .ref a_rents, .ref a_roofs, .int v_traders, .ref a_trades, .ref a_fronts, .ref a_limits, .ref a_needy, .ref a_clashes, .int v_covers, .ref a_starts, .ref a_standing, .int v_coversBusy]))] (va_A [(a_this, .inr (2, [.int v_pitches, .ref a_rows, .ref a_rents, .ref a_roofs, .int v_traders, .ref a_trades, .ref a_fronts, .ref a_limits, .ref a_needy, .ref a_clashes, .int v_covers, .ref a_starts, .ref a_standing, .int v_coversBusy]))] sz)) 0 0 (va_A [(a_this, .inr (2, [.int v_pitches, .ref a_rows, .ref a_rents, .ref a_roofs, .int v_traders, .ref a_trades, .ref a_fronts, .ref a_limits, .ref a_needy, .ref a_clashes, .int v_covers, .ref a_starts, .ref a_standing, .int v_coversBusy]))] sz) := by
  refine z_met (cc := cX2_hasPitch) (maxL := 2) (ret := (some .boolean)) (by decide) rfl (Nat.le_of_ble_eq_true rfl) ?_
  intro p e s m below meth c ls E hsz hw hl
  obtain ⟨⟨hx, hb, hml, hown, hts⟩, hr, hlocks⟩ := id E
  have hl : lv_has ls 2 [(0, .ref a_this), (1, .int x1)] := hl
  unfold f_X2_hasPitch at hf
  refine lv_iload_n hx hb dX2_hasPitch_0 rfl (lv_at hl 1 rfl) ?_
  refine lv_if_lt (tgt := 16) hx hb dX2_hasPitch_1 (by decide) (fun hc => ?_) (fun hc => ?_)
  · have hf := oI_pos hc hf
    refine lv_iconst (v := 0) hx hb dX2_hasPitch_16 (by decide) ?_
    cases hf
    exact z_zret E rfl z_n0 hw dX2_hasPitch_17
  · have hf := oI_neg hc hf
    refine lv_iload_n hx hb dX2_hasPitch_4 rfl (lv_at hl 1 rfl) ?_
    refine lv_aload_n hx hb dX2_hasPitch_5 rfl (lv_at hl 0 rfl) ?_
    refine z_get E.1 hw in_wsX20 0 rfl rfl 0 (z_lt rfl) mw_14 (v := .int v_pitches) rfl dX2_hasPitch_6 ?_
    refine lv_icmp_ge (tgt := 16) hx hb dX2_hasPitch_9 (by decide) (fun hc => ?_) (fun hc => ?_)
    · have hf := oI_pos hc hf
      refine lv_iconst (v := 0) hx hb dX2_hasPitch_16 (by decide) ?_
      cases hf
      exact z_zret E rfl z_n0 hw dX2_hasPitch_17
    · have hf := oI_neg hc hf
      refine lv_iconst (v := 1) hx hb dX2_hasPitch_12 (by decide) ?_
      refine lv_goto (tgt := 17) hx hb dX2_hasPitch_13 (by decide) ?_
      cases hf
      exact z_zret E rfl z_n1 hw dX2_hasPitch_17
end
/-! X2_hasTrader -/
section
variable {p : Program} {l : Launch} {e : Env} {s : State} {m : MethodId} {args : Array Value} {below : List Frame} {meth : Method} {c : Code} {D : va_G} {A : Nat → Prop} {cI cZ cM : ClassId} {a_this a_rows a_rents a_roofs a_trades a_fronts a_limits a_needy a_clashes a_starts a_standing : Nat} {v_pitches : Int32} {v_covers : Int32} {v_coversBusy : Int32} {res : Int32}
def rmX2_hasTrader : Room := { frames := 0, cells := 0, slots := 0, locals := 0 }
abbrev zwX2_hasTrader : List Cond := Cond.code yX2_hasTrader cX2_hasTrader 2 (some .boolean) :: wsAll
set_option maxHeartbeats 4000000 in
set_option maxRecDepth 100000 in
theorem c_X2_hasTrader {l : Launch} {D : va_G} {cI cZ cM : ClassId} {a_this a_rows a_rents a_roofs a_trades a_fronts a_limits a_needy a_clashes a_starts a_standing : Nat} {v_pitches : Int32} {v_covers : Int32} {v_coversBusy : Int32} {res : Int32} {sz : Nat} {v_traders : Int32} {x1 : Int32} (hf : f_X2_hasTrader v_traders x1 = some res) : Met l yX2_hasTrader zwX2_hasTrader rmX2_hasTrader (zPc D (zT cI cZ cM) [.ref a_this, .int x1] [(a_this, .inr (2, [.int v_pitches, .ref a_rows, .ref a_rents, .ref a_roofs, .int v_traders, .ref a_trades, .ref a_fronts, .ref a_limits, .ref a_needy, .ref a_clashes, .int v_covers, .ref a_starts, .ref a_standing, .int v_coversBusy]))] sz) (zQi D (zT cI cZ cM) res [(a_this, .inr (2, [.int v_pitches, .ref a_rows, .ref a_rents, .ref a_roofs, .int v_traders, .ref a_trades, .ref a_fronts, .ref a_limits, .ref a_needy, .ref a_clashes, .int v_covers, .ref a_starts, .ref a_standing, .int v_coversBusy]))] (va_A [(a_this, .inr (2, [.int v_pitches, .ref a_rows, .ref a_rents, .ref a_roofs, .int v_traders, .ref a_trades, .ref a_fronts, .ref a_limits, .ref a_needy, .ref a_clashes, .int v_covers, .ref a_starts, .ref a_standing, .int v_coversBusy]))] sz)) 0 0 (va_A [(a_this, .inr (2, [.int v_pitches, .ref a_rows, .ref a_rents, .ref a_roofs, .int v_traders, .ref a_trades, .ref a_fronts, .ref a_limits, .ref a_needy, .ref a_clashes, .int v_covers, .ref a_starts, .ref a_standing, .int v_coversBusy]))] sz) := by
  refine z_met (cc := cX2_hasTrader) (maxL := 2) (ret := (some .boolean)) (by decide) rfl (Nat.le_of_ble_eq_true rfl) ?_
  intro p e s m below meth c ls E hsz hw hl
  obtain ⟨⟨hx, hb, hml, hown, hts⟩, hr, hlocks⟩ := id E
  have hl : lv_has ls 2 [(0, .ref a_this), (1, .int x1)] := hl
  unfold f_X2_hasTrader at hf
  refine lv_iload_n hx hb dX2_hasTrader_0 rfl (lv_at hl 1 rfl) ?_
  refine lv_if_lt (tgt := 16) hx hb dX2_hasTrader_1 (by decide) (fun hc => ?_) (fun hc => ?_)
  · have hf := oI_pos hc hf
    refine lv_iconst (v := 0) hx hb dX2_hasTrader_16 (by decide) ?_
    cases hf
    exact z_zret E rfl z_n0 hw dX2_hasTrader_17
  · have hf := oI_neg hc hf
    refine lv_iload_n hx hb dX2_hasTrader_4 rfl (lv_at hl 1 rfl) ?_
    refine lv_aload_n hx hb dX2_hasTrader_5 rfl (lv_at hl 0 rfl) ?_
    refine z_get E.1 hw in_wsX20 0 rfl rfl 4 (z_lt rfl) mw_20 (v := .int v_traders) rfl dX2_hasTrader_6 ?_
    refine lv_icmp_ge (tgt := 16) hx hb dX2_hasTrader_9 (by decide) (fun hc => ?_) (fun hc => ?_)
    · have hf := oI_pos hc hf
      refine lv_iconst (v := 0) hx hb dX2_hasTrader_16 (by decide) ?_
      cases hf
      exact z_zret E rfl z_n0 hw dX2_hasTrader_17
    · have hf := oI_neg hc hf
      refine lv_iconst (v := 1) hx hb dX2_hasTrader_12 (by decide) ?_
      refine lv_goto (tgt := 17) hx hb dX2_hasTrader_13 (by decide) ?_
      cases hf
      exact z_zret E rfl z_n1 hw dX2_hasTrader_17
end
/-! X2_isPair -/
section
variable {p : Program} {l : Launch} {e : Env} {s : State} {m : MethodId} {args : Array Value} {below : List Frame} {meth : Method} {c : Code} {D : va_G} {A : Nat → Prop} {cI cZ cM : ClassId} {res : Int32}
def rmX2_isPair : Room := { frames := 0, cells := 0, slots := 0, locals := 0 }
abbrev zwX2_isPair : List Cond := Cond.code yX2_isPair cX2_isPair 4 (some .boolean) :: wsAll
set_option maxHeartbeats 4000000 in
set_option maxRecDepth 100000 in
theorem w_X2_isPair_20 (E : zE p s m args meth c cX2_isPair 4 (some .boolean) zwX2_isPair RX2) : f_X2_isPair_20 = some res → ∀ (H : Heap) (locs : List Loc) (ls : Array Slot), zW D (zT cI cZ cM) A s [] H locs → lv_has ls 4 [] → W p l e rmX2_isPair s m args below meth c H locs 0 0 (MQ below (zQi D (zT cI cZ cM) res [] A) args s 0 0 A) (F0 m 20 ls []) := by
  obtain ⟨⟨hx, hb, hml, hown, hts⟩, hr, hlocks⟩ := id E
  intro  hf H locs ls hw hl
  unfold f_X2_isPair_20 at hf
  refine lv_iconst (v := 1) hx hb dX2_isPair_20 (by decide) ?_
  refine lv_goto (tgt := 25) hx hb dX2_isPair_21 (by decide) ?_
  cases hf
  exact z_zret E rfl z_n1 hw dX2_isPair_25
set_option maxHeartbeats 4000000 in
set_option maxRecDepth 100000 in
theorem w_X2_isPair_10 (E : zE p s m args meth c cX2_isPair 4 (some .boolean) zwX2_isPair RX2) : ∀ (x0 : Int32) (x1 : Int32) (x2 : Int32) (x3 : Int32), f_X2_isPair_10 x0 x1 x2 x3 = some res → ∀ (H : Heap) (locs : List Loc) (ls : Array Slot), zW D (zT cI cZ cM) A s [] H locs → lv_has ls 4 [(0, .int x0), (1, .int x1), (2, .int x2), (3, .int x3)] → W p l e rmX2_isPair s m args below meth c H locs 0 0 (MQ below (zQi D (zT cI cZ cM) res [] A) args s 0 0 A) (F0 m 10 ls []) := by
  obtain ⟨⟨hx, hb, hml, hown, hts⟩, hr, hlocks⟩ := id E
  intro x0 x1 x2 x3 hf H locs ls hw hl
  unfold f_X2_isPair_10 at hf
  refine lv_iload_n hx hb dX2_isPair_10 rfl (lv_at hl 0 rfl) ?_
  refine lv_iload_n hx hb dX2_isPair_11 rfl (lv_at hl 3 rfl) ?_
  refine lv_icmp_ne (tgt := 24) hx hb dX2_isPair_12 (by decide) (fun hc => ?_) (fun hc => ?_)
  · have hf := oI_neg hc hf
    refine lv_iconst (v := 0) hx hb dX2_isPair_24 (by decide) ?_
    cases hf
    exact z_zret E rfl z_n0 hw dX2_isPair_25
  · have hf := oI_pos hc hf
    refine lv_iload_n hx hb dX2_isPair_15 rfl (lv_at hl 1 rfl) ?_
    refine lv_iload_n hx hb dX2_isPair_16 rfl (lv_at hl 2 rfl) ?_
    refine lv_icmp_ne (tgt := 24) hx hb dX2_isPair_17 (by decide) (fun hc => ?_) (fun hc => ?_)
    · have hf := oI_neg hc hf
      refine lv_iconst (v := 0) hx hb dX2_isPair_24 (by decide) ?_
      cases hf
      exact z_zret E rfl z_n0 hw dX2_isPair_25
    · have hf := oI_pos hc hf
      exact w_X2_isPair_20 E   hf _ _ _ hw (lv_sub hl [] rfl)
set_option maxHeartbeats 4000000 in
set_option maxRecDepth 100000 in
theorem c_X2_isPair {l : Launch} {D : va_G} {cI cZ cM : ClassId} {res : Int32} {sz : Nat} {x0 : Int32} {x1 : Int32} {x2 : Int32} {x3 : Int32} (hf : f_X2_isPair x0 x1 x2 x3 = some res) : Met l yX2_isPair zwX2_isPair rmX2_isPair (zPc D (zT cI cZ cM) [.int x0, .int x1, .int x2, .int x3] [] sz) (zQi D (zT cI cZ cM) res [] (va_A [] sz)) 0 0 (va_A [] sz) := by
  refine z_met (cc := cX2_isPair) (maxL := 4) (ret := (some .boolean)) (by decide) rfl (Nat.le_of_ble_eq_true rfl) ?_
  intro p e s m below meth c ls E hsz hw hl
  obtain ⟨⟨hx, hb, hml, hown, hts⟩, hr, hlocks⟩ := id E
  have hl : lv_has ls 4 [(0, .int x0), (1, .int x1), (2, .int x2), (3, .int x3)] := hl
  unfold f_X2_isPair at hf
  refine lv_iload_n hx hb dX2_isPair_0 rfl (lv_at hl 0 rfl) ?_
  refine lv_iload_n hx hb dX2_isPair_1 rfl (lv_at hl 2 rfl) ?_
  refine lv_icmp_ne (tgt := 10) hx hb dX2_isPair_2 (by decide) (fun hc => ?_) (fun hc => ?_)
  · have hf := oI_neg hc hf
    exact w_X2_isPair_10 E  _ _ _ _ hf _ _ _ hw (lv_sub hl [0, 1, 2, 3] rfl)
  · have hf := oI_pos hc hf
    refine lv_iload_n hx hb dX2_isPair_5 rfl (lv_at hl 1 rfl) ?_
    refine lv_iload_n hx hb dX2_isPair_6 rfl (lv_at hl 3 rfl) ?_
    refine lv_icmp_eq (tgt := 20) hx hb dX2_isPair_7 (by decide) (fun hc => ?_) (fun hc => ?_)
    · have hf := oI_pos hc hf
      exact w_X2_isPair_20 E   hf _ _ _ hw (lv_sub hl [] rfl)
    · have hf := oI_neg hc hf
      exact w_X2_isPair_10 E  _ _ _ _ hf _ _ _ hw (lv_sub hl [0, 1, 2, 3] rfl)
end
/-! X2_isSheltered -/
section
variable {p : Program} {l : Launch} {e : Env} {s : State} {m : MethodId} {args : Array Value} {below : List Frame} {meth : Method} {c : Code} {D : va_G} {A : Nat → Prop} {cI cZ cM : ClassId} {a_this a_rows a_rents a_roofs a_trades a_fronts a_limits a_needy a_clashes a_starts a_standing : Nat} {v_traders : Int32} {v_covers : Int32} {v_coversBusy : Int32} {res : Int32}
def rmX2_isSheltered : Room := { frames := 1, cells := 0, slots := 0, locals := 25 }
abbrev zwX2_isSheltered : List Cond := Cond.code yX2_isSheltered cX2_isSheltered 2 (some .boolean) :: wsAll
set_option maxHeartbeats 4000000 in
set_option maxRecDepth 100000 in
theorem w_X2_isSheltered_23 {n : Nat} {v_pitches : Int32} {v_roofs : Nat → Int32} {v_fronts : Nat → Int32} {v_needy : Nat → Int32} {v_starts : Nat → Int32} (E : zE p s m args meth c cX2_isSheltered 2 (some .boolean) zwX2_isSheltered RX2) : f_X2_isSheltered_23 n = some res → ∀ (H : Heap) (locs : List Loc) (ls : Array Slot), zW D (zT cI cZ cM) A s [(a_this, .inr (2, [.int v_pitches, .ref a_rows, .ref a_rents, .ref a_roofs, .int v_traders, .ref a_trades, .ref a_fronts, .ref a_limits, .ref a_needy, .ref a_clashes, .int v_covers, .ref a_starts, .ref a_standing, .int v_coversBusy])), (a_roofs, .inl (cZ, 24, .inl v_roofs)), (a_fronts, .inl (cI, 8, .inl v_fronts)), (a_needy, .inl (cZ, 8, .inl v_needy)), (a_starts, .inl (cI, 8, .inl v_starts))] H locs → lv_has ls 2 [] → W p l e rmX2_isSheltered s m args below meth c H locs 0 0 (MQ below (zQi D (zT cI cZ cM) res [(a_this, .inr (2, [.int v_pitches, .ref a_rows, .ref a_rents, .ref a_roofs, .int v_traders, .ref a_trades, .ref a_fronts, .ref a_limits, .ref a_needy, .ref a_clashes, .int v_covers, .ref a_starts, .ref a_standing, .int v_coversBusy])), (a_roofs, .inl (cZ, 24, .inl v_roofs)), (a_fronts, .inl (cI, 8, .inl v_fronts)), (a_needy, .inl (cZ, 8, .inl v_needy)), (a_starts, .inl (cI, 8, .inl v_starts))] A) args s 0 0 A) (F0 m 23 ls []) := by
  obtain ⟨⟨hx, hb, hml, hown, hts⟩, hr, hlocks⟩ := id E
  intro  hf H locs ls hw hl
  unfold f_X2_isSheltered_23 at hf
  refine lv_iconst (v := 1) hx hb dX2_isSheltered_23 (by decide) ?_
  refine lv_goto (tgt := 28) hx hb dX2_isSheltered_24 (by decide) ?_
  cases hf
  exact z_zret E rfl z_n1 hw dX2_isSheltered_28
set_option maxHeartbeats 4000000 in
set_option maxRecDepth 100000 in
theorem c_X2_isSheltered {l : Launch} {D : va_G} {cI cZ cM : ClassId} {a_this a_rows a_rents a_roofs a_trades a_fronts a_limits a_needy a_clashes a_starts a_standing : Nat} {v_traders : Int32} {v_covers : Int32} {v_coversBusy : Int32} {res : Int32} {sz : Nat} {n : Nat} {v_pitches : Int32} {v_roofs : Nat → Int32} {v_fronts : Nat → Int32} {v_needy : Nat → Int32} {v_starts : Nat → Int32} {x1 : Int32} (hf : f_X2_isSheltered n v_pitches v_roofs v_fronts v_needy v_starts x1 = some res) : Met l yX2_isSheltered zwX2_isSheltered rmX2_isSheltered (zPc D (zT cI cZ cM) [.ref a_this, .int x1] [(a_this, .inr (2, [.int v_pitches, .ref a_rows, .ref a_rents, .ref a_roofs, .int v_traders, .ref a_trades, .ref a_fronts, .ref a_limits, .ref a_needy, .ref a_clashes, .int v_covers, .ref a_starts, .ref a_standing, .int v_coversBusy])), (a_roofs, .inl (cZ, 24, .inl v_roofs)), (a_fronts, .inl (cI, 8, .inl v_fronts)), (a_needy, .inl (cZ, 8, .inl v_needy)), (a_starts, .inl (cI, 8, .inl v_starts))] sz) (zQi D (zT cI cZ cM) res [(a_this, .inr (2, [.int v_pitches, .ref a_rows, .ref a_rents, .ref a_roofs, .int v_traders, .ref a_trades, .ref a_fronts, .ref a_limits, .ref a_needy, .ref a_clashes, .int v_covers, .ref a_starts, .ref a_standing, .int v_coversBusy])), (a_roofs, .inl (cZ, 24, .inl v_roofs)), (a_fronts, .inl (cI, 8, .inl v_fronts)), (a_needy, .inl (cZ, 8, .inl v_needy)), (a_starts, .inl (cI, 8, .inl v_starts))] (va_A [(a_this, .inr (2, [.int v_pitches, .ref a_rows, .ref a_rents, .ref a_roofs, .int v_traders, .ref a_trades, .ref a_fronts, .ref a_limits, .ref a_needy, .ref a_clashes, .int v_covers, .ref a_starts, .ref a_standing, .int v_coversBusy])), (a_roofs, .inl (cZ, 24, .inl v_roofs)), (a_fronts, .inl (cI, 8, .inl v_fronts)), (a_needy, .inl (cZ, 8, .inl v_needy)), (a_starts, .inl (cI, 8, .inl v_starts))] sz)) 0 0 (va_A [(a_this, .inr (2, [.int v_pitches, .ref a_rows, .ref a_rents, .ref a_roofs, .int v_traders, .ref a_trades, .ref a_fronts, .ref a_limits, .ref a_needy, .ref a_clashes, .int v_covers, .ref a_starts, .ref a_standing, .int v_coversBusy])), (a_roofs, .inl (cZ, 24, .inl v_roofs)), (a_fronts, .inl (cI, 8, .inl v_fronts)), (a_needy, .inl (cZ, 8, .inl v_needy)), (a_starts, .inl (cI, 8, .inl v_starts))] sz) := by
  refine z_met (cc := cX2_isSheltered) (maxL := 2) (ret := (some .boolean)) (by decide) rfl (Nat.le_of_ble_eq_true rfl) ?_
  intro p e s m below meth c ls E hsz hw hl
  obtain ⟨⟨hx, hb, hml, hown, hts⟩, hr, hlocks⟩ := id E
  have hl : lv_has ls 2 [(0, .ref a_this), (1, .int x1)] := hl
  unfold f_X2_isSheltered at hf
  refine lv_aload_n hx hb dX2_isSheltered_0 rfl (lv_at hl 0 rfl) ?_
  refine z_get E.1 hw in_wsX20 0 rfl rfl 8 (z_lt rfl) mw_24 (v := .ref a_needy) rfl dX2_isSheltered_1 ?_
  refine lv_iload_n hx hb dX2_isSheltered_4 rfl (lv_at hl 1 rfl) ?_
  obtain ⟨h_1, hf⟩ := oA_elim hf
  refine z_zald E.1 hw 3 1 rfl rfl h_1 dX2_isSheltered_5 ?_
  refine lv_if_ne (tgt := 23) hx hb dX2_isSheltered_6 (by decide) (fun hc => ?_) (fun hc => ?_)
  · have hf := oI_neg hc hf
    exact w_X2_isSheltered_23 E   hf _ _ _ hw (lv_sub hl [] rfl)
  · have hf := oI_pos hc hf
    refine lv_aload_n hx hb dX2_isSheltered_9 rfl (lv_at hl 0 rfl) ?_
    refine lv_iload_n hx hb dX2_isSheltered_10 rfl (lv_at hl 1 rfl) ?_
    refine lv_aload_n hx hb dX2_isSheltered_11 rfl (lv_at hl 0 rfl) ?_
    refine z_get E.1 hw in_wsX20 0 rfl rfl 11 (z_lt rfl) mw_27 (v := .ref a_starts) rfl dX2_isSheltered_12 ?_
    refine lv_iload_n hx hb dX2_isSheltered_15 rfl (lv_at hl 1 rfl) ?_
    obtain ⟨h_2, hf⟩ := oA_elim hf
    refine z_iald E.1 hw 4 0 rfl rfl h_2 dX2_isSheltered_16 ?_
    obtain ⟨r_3, h_4, hf⟩ := oB_elim hf
    refine z_callVi (ws' := [(a_this, .inr (2, [.int v_pitches, .ref a_rows, .ref a_rents, .ref a_roofs, .int v_traders, .ref a_trades, .ref a_fronts, .ref a_limits, .ref a_needy, .ref a_clashes, .int v_covers, .ref a_starts, .ref a_standing, .int v_coversBusy])), (a_roofs, .inl (cZ, 24, .inl v_roofs)), (a_fronts, .inl (cI, 8, .inl v_fronts)), (a_needy, .inl (cZ, 8, .inl v_needy)), (a_starts, .inl (cI, 8, .inl v_starts))]) (wr := [(a_needy, .inl (cZ, 8, .inl v_needy)), (a_starts, .inl (cI, 8, .inl v_starts))]) (As := [.int x1, .int (v_starts (x1).toNatClampNeg)]) (rest := []) E.1 hl hw (c_X2_openPitches h_4) (cwV 2 hts (z_gV mw_87 mw_88 mw_89 mw_9 mw_90) rfl rfl rfl (by decide +kernel) ⟨(Nat.le_of_ble_eq_true rfl), (Nat.le_of_ble_eq_true rfl)⟩) 5 [(0, 3)] [(3, 2)] rfl rfl rfl rfl rfl rfl (by decide +kernel) rfl (q0 := 0) rfl rfl rfl (Nat.le_of_ble_eq_true rfl) dX2_isSheltered_17 ⟨Nat.le_of_ble_eq_true rfl, Nat.le_of_ble_eq_true rfl⟩ (fun H locs hw => ?_)
    refine lv_if_ne (tgt := 27) hx hb dX2_isSheltered_20 (by decide) (fun hc => ?_) (fun hc => ?_)
    · have hf := oI_neg hc hf
      refine lv_iconst (v := 0) hx hb dX2_isSheltered_27 (by decide) ?_
      cases hf
      exact z_zret E rfl z_n0 hw dX2_isSheltered_28
    · have hf := oI_pos hc hf
      exact w_X2_isSheltered_23 E   hf _ _ _ hw (lv_sub hl [] rfl)
end
/-! X2_putClash -/
section
variable {p : Program} {l : Launch} {e : Env} {s : State} {m : MethodId} {args : Array Value} {below : List Frame} {meth : Method} {c : Code} {D : va_G} {A : Nat → Prop} {cI cZ cM : ClassId} {a_this a_rows a_rents a_roofs a_trades a_fronts a_limits a_needy a_clashes a_starts a_standing : Nat} {v_pitches : Int32} {v_traders : Int32} {v_covers : Int32} {v_coversBusy : Int32} {res : (Nat → Int32)}
def rmX2_putClash : Room := { frames := 0, cells := 0, slots := 0, locals := 0 }
abbrev zwX2_putClash : List Cond := Cond.code yX2_putClash cX2_putClash 4 none :: wsAll
set_option maxHeartbeats 4000000 in
set_option maxRecDepth 100000 in
theorem c_X2_putClash {l : Launch} {D : va_G} {cI cZ cM : ClassId} {a_this a_rows a_rents a_roofs a_trades a_fronts a_limits a_needy a_clashes a_starts a_standing : Nat} {v_pitches : Int32} {v_traders : Int32} {v_covers : Int32} {v_coversBusy : Int32} {res : (Nat → Int32)} {sz : Nat} {v_clashes : Nat → Int32} {x1 : Int32} {x2 : Int32} {x3 : Int32} (hf : f_X2_putClash v_clashes x1 x2 x3 = some res) : Met l yX2_putClash zwX2_putClash rmX2_putClash (zPc D (zT cI cZ cM) [.ref a_this, .int x1, .int x2, .int x3] [(a_this, .inr (2, [.int v_pitches, .ref a_rows, .ref a_rents, .ref a_roofs, .int v_traders, .ref a_trades, .ref a_fronts, .ref a_limits, .ref a_needy, .ref a_clashes, .int v_covers, .ref a_starts, .ref a_standing, .int v_coversBusy])), (a_clashes, .inl (cI, 8, .inl v_clashes))] sz) (zQv D (zT cI cZ cM) [(a_this, .inr (2, [.int v_pitches, .ref a_rows, .ref a_rents, .ref a_roofs, .int v_traders, .ref a_trades, .ref a_fronts, .ref a_limits, .ref a_needy, .ref a_clashes, .int v_covers, .ref a_starts, .ref a_standing, .int v_coversBusy])), (a_clashes, .inl (cI, 8, .inl res))] (va_A [(a_this, .inr (2, [.int v_pitches, .ref a_rows, .ref a_rents, .ref a_roofs, .int v_traders, .ref a_trades, .ref a_fronts, .ref a_limits, .ref a_needy, .ref a_clashes, .int v_covers, .ref a_starts, .ref a_standing, .int v_coversBusy])), (a_clashes, .inl (cI, 8, .inl v_clashes))] sz)) 0 0 (va_A [(a_this, .inr (2, [.int v_pitches, .ref a_rows, .ref a_rents, .ref a_roofs, .int v_traders, .ref a_trades, .ref a_fronts, .ref a_limits, .ref a_needy, .ref a_clashes, .int v_covers, .ref a_starts, .ref a_standing, .int v_coversBusy])), (a_clashes, .inl (cI, 8, .inl v_clashes))] sz) := by
  refine z_met (cc := cX2_putClash) (maxL := 4) (ret := none) (by decide) rfl (Nat.le_of_ble_eq_true rfl) ?_
  intro p e s m below meth c ls E hsz hw hl
  obtain ⟨⟨hx, hb, hml, hown, hts⟩, hr, hlocks⟩ := id E
  have hl : lv_has ls 4 [(0, .ref a_this), (1, .int x1), (2, .int x2), (3, .int x3)] := hl
  unfold f_X2_putClash at hf
  refine lv_iload_n hx hb dX2_putClash_0 rfl (lv_at hl 3 rfl) ?_
  refine lv_if_eq (tgt := 31) hx hb dX2_putClash_1 (by decide) (fun hc => ?_) (fun hc => ?_)
  · have hf := oI_pos hc hf
    refine lv_aload_n hx hb dX2_putClash_31 rfl (lv_at hl 0 rfl) ?_
    refine z_get E.1 hw in_wsX20 0 rfl rfl 9 (z_lt rfl) mw_25 (v := .ref a_clashes) rfl dX2_putClash_32 ?_
    refine lv_iload_n hx hb dX2_putClash_35 rfl (lv_at hl 1 rfl) ?_
    refine lv_dup2_11 hx hb dX2_putClash_36 rfl rfl ?_
    obtain ⟨h_1, hf⟩ := oA_elim hf
    refine z_iald E.1 hw 1 0 rfl rfl h_1 dX2_putClash_37 ?_
    refine lv_iconst (v := 1) hx hb dX2_putClash_38 (by decide) ?_
    refine lv_iload_n hx hb dX2_putClash_39 rfl (lv_at hl 2 rfl) ?_
    refine lv_ishl hx hb dX2_putClash_40 ?_
    refine lv_iconst (v := -1) hx hb dX2_putClash_41 (by decide) ?_
    refine lv_ixor hx hb dX2_putClash_42 ?_
    refine lv_iand hx hb dX2_putClash_43 ?_
    obtain ⟨h_2, hf⟩ := oA_elim hf
    obtain ⟨v_3, e_v_3, hf⟩ := oL_elim hf
    refine z_iast (ws' := [(a_this, .inr (2, [.int v_pitches, .ref a_rows, .ref a_rents, .ref a_roofs, .int v_traders, .ref a_trades, .ref a_fronts, .ref a_limits, .ref a_needy, .ref a_clashes, .int v_covers, .ref a_starts, .ref a_standing, .int v_coversBusy])), (a_clashes, .inl (cI, 8, .inl v_3))]) E.1 hw 1 0 rfl rfl h_2 (by subst e_v_3; rfl) dX2_putClash_44 (fun H locs hw => ?_)
    refine lv_aload_n hx hb dX2_putClash_45 rfl (lv_at hl 0 rfl) ?_
    refine z_get E.1 hw in_wsX20 0 rfl rfl 9 (z_lt rfl) mw_25 (v := .ref a_clashes) rfl dX2_putClash_46 ?_
    refine lv_iload_n hx hb dX2_putClash_49 rfl (lv_at hl 2 rfl) ?_
    refine lv_dup2_11 hx hb dX2_putClash_50 rfl rfl ?_
    obtain ⟨h_4, hf⟩ := oA_elim hf
    refine z_iald E.1 hw 1 0 rfl rfl h_4 dX2_putClash_51 ?_
    refine lv_iconst (v := 1) hx hb dX2_putClash_52 (by decide) ?_
    refine lv_iload_n hx hb dX2_putClash_53 rfl (lv_at hl 1 rfl) ?_
    refine lv_ishl hx hb dX2_putClash_54 ?_
    refine lv_iconst (v := -1) hx hb dX2_putClash_55 (by decide) ?_
    refine lv_ixor hx hb dX2_putClash_56 ?_
    refine lv_iand hx hb dX2_putClash_57 ?_
    obtain ⟨h_5, hf⟩ := oA_elim hf
    obtain ⟨v_6, e_v_6, hf⟩ := oL_elim hf
    refine z_iast (ws' := [(a_this, .inr (2, [.int v_pitches, .ref a_rows, .ref a_rents, .ref a_roofs, .int v_traders, .ref a_trades, .ref a_fronts, .ref a_limits, .ref a_needy, .ref a_clashes, .int v_covers, .ref a_starts, .ref a_standing, .int v_coversBusy])), (a_clashes, .inl (cI, 8, .inl v_6))]) E.1 hw 1 0 rfl rfl h_5 (by subst e_v_6; rfl) dX2_putClash_58 (fun H locs hw => ?_)
    cases hf
    exact z_vret E rfl hw dX2_putClash_59
  · have hf := oI_neg hc hf
    refine lv_aload_n hx hb dX2_putClash_4 rfl (lv_at hl 0 rfl) ?_
    refine z_get E.1 hw in_wsX20 0 rfl rfl 9 (z_lt rfl) mw_25 (v := .ref a_clashes) rfl dX2_putClash_5 ?_
    refine lv_iload_n hx hb dX2_putClash_8 rfl (lv_at hl 1 rfl) ?_
    refine lv_dup2_11 hx hb dX2_putClash_9 rfl rfl ?_
    obtain ⟨h_7, hf⟩ := oA_elim hf
    refine z_iald E.1 hw 1 0 rfl rfl h_7 dX2_putClash_10 ?_
    refine lv_iconst (v := 1) hx hb dX2_putClash_11 (by decide) ?_
    refine lv_iload_n hx hb dX2_putClash_12 rfl (lv_at hl 2 rfl) ?_
    refine lv_ishl hx hb dX2_putClash_13 ?_
    refine lv_ior hx hb dX2_putClash_14 ?_
    obtain ⟨h_8, hf⟩ := oA_elim hf
    obtain ⟨v_9, e_v_9, hf⟩ := oL_elim hf
    refine z_iast (ws' := [(a_this, .inr (2, [.int v_pitches, .ref a_rows, .ref a_rents, .ref a_roofs, .int v_traders, .ref a_trades, .ref a_fronts, .ref a_limits, .ref a_needy, .ref a_clashes, .int v_covers, .ref a_starts, .ref a_standing, .int v_coversBusy])), (a_clashes, .inl (cI, 8, .inl v_9))]) E.1 hw 1 0 rfl rfl h_8 (by subst e_v_9; rfl) dX2_putClash_15 (fun H locs hw => ?_)
    refine lv_aload_n hx hb dX2_putClash_16 rfl (lv_at hl 0 rfl) ?_
    refine z_get E.1 hw in_wsX20 0 rfl rfl 9 (z_lt rfl) mw_25 (v := .ref a_clashes) rfl dX2_putClash_17 ?_
    refine lv_iload_n hx hb dX2_putClash_20 rfl (lv_at hl 2 rfl) ?_
    refine lv_dup2_11 hx hb dX2_putClash_21 rfl rfl ?_
    obtain ⟨h_10, hf⟩ := oA_elim hf
    refine z_iald E.1 hw 1 0 rfl rfl h_10 dX2_putClash_22 ?_
    refine lv_iconst (v := 1) hx hb dX2_putClash_23 (by decide) ?_
    refine lv_iload_n hx hb dX2_putClash_24 rfl (lv_at hl 1 rfl) ?_
    refine lv_ishl hx hb dX2_putClash_25 ?_
    refine lv_ior hx hb dX2_putClash_26 ?_
    obtain ⟨h_11, hf⟩ := oA_elim hf
    obtain ⟨v_12, e_v_12, hf⟩ := oL_elim hf
    refine z_iast (ws' := [(a_this, .inr (2, [.int v_pitches, .ref a_rows, .ref a_rents, .ref a_roofs, .int v_traders, .ref a_trades, .ref a_fronts, .ref a_limits, .ref a_needy, .ref a_clashes, .int v_covers, .ref a_starts, .ref a_standing, .int v_coversBusy])), (a_clashes, .inl (cI, 8, .inl v_12))]) E.1 hw 1 0 rfl rfl h_11 (by subst e_v_12; rfl) dX2_putClash_27 (fun H locs hw => ?_)
    refine lv_goto (tgt := 59) hx hb dX2_putClash_28 (by decide) ?_
    cases hf
    exact z_vret E rfl hw dX2_putClash_59
end
/-! X2_seatDearest -/
section
variable {p : Program} {l : Launch} {e : Env} {s : State} {m : MethodId} {args : Array Value} {below : List Frame} {meth : Method} {c : Code} {D : va_G} {A : Nat → Prop} {cI cZ cM : ClassId} {a_this a_rows a_rents a_roofs a_trades a_fronts a_limits a_needy a_clashes a_starts a_standing : Nat} {v_traders : Int32} {res : (Nat → Int32) × (Nat → Int32) × Int32}
def rmX2_seatDearest : Room := { frames := 4, cells := 0, slots := 0, locals := 95 }
abbrev zwX2_seatDearest : List Cond := Cond.code yX2_seatDearest cX2_seatDearest 3 none :: wsAll
set_option maxHeartbeats 4000000 in
set_option maxRecDepth 100000 in
theorem c_X2_seatDearest {l : Launch} {D : va_G} {cI cZ cM : ClassId} {a_this a_rows a_rents a_roofs a_trades a_fronts a_limits a_needy a_clashes a_starts a_standing : Nat} {v_traders : Int32} {res : (Nat → Int32) × (Nat → Int32) × Int32} {sz : Nat} {n : Nat} {v_pitches : Int32} {v_rows : Nat → Int32} {v_rents : Nat → Int32} {v_roofs : Nat → Int32} {v_trades : Nat → Int32} {v_fronts : Nat → Int32} {v_limits : Nat → Int32} {v_needy : Nat → Int32} {v_clashes : Nat → Int32} {v_covers : Int32} {v_starts : Nat → Int32} {v_standing : Nat → Int32} {v_coversBusy : Int32} {x1 : Int32} (hf : f_X2_seatDearest n v_pitches v_rows v_rents v_roofs v_trades v_fronts v_limits v_needy v_clashes v_covers v_starts v_standing v_coversBusy x1 = some res) : Met l yX2_seatDearest zwX2_seatDearest rmX2_seatDearest (zPc D (zT cI cZ cM) [.ref a_this, .int x1] [(a_this, .inr (2, [.int v_pitches, .ref a_rows, .ref a_rents, .ref a_roofs, .int v_traders, .ref a_trades, .ref a_fronts, .ref a_limits, .ref a_needy, .ref a_clashes, .int v_covers, .ref a_starts, .ref a_standing, .int v_coversBusy])), (a_rows, .inl (cI, 24, .inl v_rows)), (a_rents, .inl (cI, 24, .inl v_rents)), (a_roofs, .inl (cZ, 24, .inl v_roofs)), (a_trades, .inl (cI, 8, .inl v_trades)), (a_fronts, .inl (cI, 8, .inl v_fronts)), (a_limits, .inl (cI, 8, .inl v_limits)), (a_needy, .inl (cZ, 8, .inl v_needy)), (a_clashes, .inl (cI, 8, .inl v_clashes)), (a_starts, .inl (cI, 8, .inl v_starts)), (a_standing, .inl (cI, 24, .inl v_standing))] sz) (zQv D (zT cI cZ cM) [(a_this, .inr (2, [.int v_pitches, .ref a_rows, .ref a_rents, .ref a_roofs, .int v_traders, .ref a_trades, .ref a_fronts, .ref a_limits, .ref a_needy, .ref a_clashes, .int v_covers, .ref a_starts, .ref a_standing, .int res.2.2])), (a_rows, .inl (cI, 24, .inl v_rows)), (a_rents, .inl (cI, 24, .inl v_rents)), (a_roofs, .inl (cZ, 24, .inl v_roofs)), (a_trades, .inl (cI, 8, .inl v_trades)), (a_fronts, .inl (cI, 8, .inl v_fronts)), (a_limits, .inl (cI, 8, .inl v_limits)), (a_needy, .inl (cZ, 8, .inl v_needy)), (a_clashes, .inl (cI, 8, .inl v_clashes)), (a_starts, .inl (cI, 8, .inl res.1)), (a_standing, .inl (cI, 24, .inl res.2.1))] (va_A [(a_this, .inr (2, [.int v_pitches, .ref a_rows, .ref a_rents, .ref a_roofs, .int v_traders, .ref a_trades, .ref a_fronts, .ref a_limits, .ref a_needy, .ref a_clashes, .int v_covers, .ref a_starts, .ref a_standing, .int v_coversBusy])), (a_rows, .inl (cI, 24, .inl v_rows)), (a_rents, .inl (cI, 24, .inl v_rents)), (a_roofs, .inl (cZ, 24, .inl v_roofs)), (a_trades, .inl (cI, 8, .inl v_trades)), (a_fronts, .inl (cI, 8, .inl v_fronts)), (a_limits, .inl (cI, 8, .inl v_limits)), (a_needy, .inl (cZ, 8, .inl v_needy)), (a_clashes, .inl (cI, 8, .inl v_clashes)), (a_starts, .inl (cI, 8, .inl v_starts)), (a_standing, .inl (cI, 24, .inl v_standing))] sz)) 0 0 (va_A [(a_this, .inr (2, [.int v_pitches, .ref a_rows, .ref a_rents, .ref a_roofs, .int v_traders, .ref a_trades, .ref a_fronts, .ref a_limits, .ref a_needy, .ref a_clashes, .int v_covers, .ref a_starts, .ref a_standing, .int v_coversBusy])), (a_rows, .inl (cI, 24, .inl v_rows)), (a_rents, .inl (cI, 24, .inl v_rents)), (a_roofs, .inl (cZ, 24, .inl v_roofs)), (a_trades, .inl (cI, 8, .inl v_trades)), (a_fronts, .inl (cI, 8, .inl v_fronts)), (a_limits, .inl (cI, 8, .inl v_limits)), (a_needy, .inl (cZ, 8, .inl v_needy)), (a_clashes, .inl (cI, 8, .inl v_clashes)), (a_starts, .inl (cI, 8, .inl v_starts)), (a_standing, .inl (cI, 24, .inl v_standing))] sz) := by
  refine z_met (cc := cX2_seatDearest) (maxL := 3) (ret := none) (by decide) rfl (Nat.le_of_ble_eq_true rfl) ?_
  intro p e s m below meth c ls E hsz hw hl
  obtain ⟨⟨hx, hb, hml, hown, hts⟩, hr, hlocks⟩ := id E
  have hl : lv_has ls 3 [(0, .ref a_this), (1, .int x1)] := hl
  unfold f_X2_seatDearest at hf
  refine lv_aload_n hx hb dX2_seatDearest_0 rfl (lv_at hl 0 rfl) ?_
  refine lv_iload_n hx hb dX2_seatDearest_1 rfl (lv_at hl 1 rfl) ?_
  refine lv_iconst (v := -1) hx hb dX2_seatDearest_2 (by decide) ?_
  obtain ⟨r_1, h_2, hf⟩ := oB_elim hf
  refine z_callVi (ws' := [(a_this, .inr (2, [.int v_pitches, .ref a_rows, .ref a_rents, .ref a_roofs, .int v_traders, .ref a_trades, .ref a_fronts, .ref a_limits, .ref a_needy, .ref a_clashes, .int v_covers, .ref a_starts, .ref a_standing, .int v_coversBusy])), (a_rows, .inl (cI, 24, .inl v_rows)), (a_rents, .inl (cI, 24, .inl v_rents)), (a_roofs, .inl (cZ, 24, .inl v_roofs)), (a_trades, .inl (cI, 8, .inl v_trades)), (a_fronts, .inl (cI, 8, .inl v_fronts)), (a_limits, .inl (cI, 8, .inl v_limits)), (a_needy, .inl (cZ, 8, .inl v_needy)), (a_clashes, .inl (cI, 8, .inl v_clashes)), (a_starts, .inl (cI, 8, .inl v_starts)), (a_standing, .inl (cI, 24, .inl v_standing))]) (wr := []) (As := [.int x1, .int (-1 : Int32)]) (rest := []) E.1 hl hw (c_X2_dearestStart h_2) (cwV 2 hts (z_gV mw_163 mw_52 mw_53 mw_9 mw_54) rfl rfl rfl (by decide +kernel) ⟨(Nat.le_of_ble_eq_true rfl), (Nat.le_of_ble_eq_true rfl)⟩) 11 [(0, 11)] [] rfl rfl rfl rfl rfl rfl (by decide +kernel) rfl (q0 := 0) rfl rfl rfl (Nat.le_of_ble_eq_true rfl) dX2_seatDearest_3 ⟨Nat.le_of_ble_eq_true rfl, Nat.le_of_ble_eq_true rfl⟩ (fun H locs hw => ?_)
  refine lv_istore_n (lv' := [(2, .int r_1), (0, .ref a_this), (1, .int x1)]) hx hb dX2_seatDearest_6 rfl hl (z_lt rfl) rfl (fun ls hl => ?_)
  refine lv_iload_n hx hb dX2_seatDearest_7 rfl (lv_at hl 0 rfl) ?_
  refine lv_iconst (v := -1) hx hb dX2_seatDearest_8 (by decide) ?_
  refine lv_icmp_eq (tgt := 18) hx hb dX2_seatDearest_9 (by decide) (fun hc => ?_) (fun hc => ?_)
  · have hf := oI_pos hc hf
    cases hf
    exact z_vret E rfl hw dX2_seatDearest_18
  · have hf := oI_neg hc hf
    refine lv_aload_n hx hb dX2_seatDearest_12 rfl (lv_at hl 1 rfl) ?_
    refine lv_iload_n hx hb dX2_seatDearest_13 rfl (lv_at hl 2 rfl) ?_
    refine lv_iload_n hx hb dX2_seatDearest_14 rfl (lv_at hl 0 rfl) ?_
    obtain ⟨v_3, v_4, v_5, h_6, hf⟩ := oB3_elim hf
    refine z_callVv (ws' := [(a_this, .inr (2, [.int v_pitches, .ref a_rows, .ref a_rents, .ref a_roofs, .int v_traders, .ref a_trades, .ref a_fronts, .ref a_limits, .ref a_needy, .ref a_clashes, .int v_covers, .ref a_starts, .ref a_standing, .int v_5])), (a_rows, .inl (cI, 24, .inl v_rows)), (a_rents, .inl (cI, 24, .inl v_rents)), (a_roofs, .inl (cZ, 24, .inl v_roofs)), (a_trades, .inl (cI, 8, .inl v_trades)), (a_fronts, .inl (cI, 8, .inl v_fronts)), (a_limits, .inl (cI, 8, .inl v_limits)), (a_needy, .inl (cZ, 8, .inl v_needy)), (a_clashes, .inl (cI, 8, .inl v_clashes)), (a_starts, .inl (cI, 8, .inl v_3)), (a_standing, .inl (cI, 24, .inl v_4))]) (wr := [(a_rows, .inl (cI, 24, .inl v_rows)), (a_rents, .inl (cI, 24, .inl v_rents)), (a_trades, .inl (cI, 8, .inl v_trades)), (a_limits, .inl (cI, 8, .inl v_limits)), (a_clashes, .inl (cI, 8, .inl v_clashes))]) (As := [.int x1, .int r_1]) (rest := []) E.1 hl hw (c_X2_seat h_6) (cwV 2 hts (z_gV mw_129 mw_130 mw_131 mw_9 mw_132) rfl rfl rfl (by decide +kernel) ⟨(Nat.le_of_ble_eq_true rfl), (Nat.le_of_ble_eq_true rfl)⟩) 11 [(0, 1), (3, 1), (5, 1), (7, 1), (9, 2)] [(1, 2), (4, 1), (6, 1), (8, 1)] rfl rfl rfl rfl rfl rfl (by decide +kernel) rfl (q0 := 0) rfl rfl rfl (Nat.le_of_ble_eq_true rfl) dX2_seatDearest_15 ⟨Nat.le_of_ble_eq_true rfl, Nat.le_of_ble_eq_true rfl⟩ (fun H locs hw => ?_)
    cases hf
    exact z_vret E rfl hw dX2_seatDearest_18
end
/-! X2_standSideBySide -/
section
variable {p : Program} {l : Launch} {e : Env} {s : State} {m : MethodId} {args : Array Value} {below : List Frame} {meth : Method} {c : Code} {D : va_G} {A : Nat → Prop} {cI cZ cM : ClassId} {a_this a_rows a_rents a_roofs a_trades a_fronts a_limits a_needy a_clashes a_starts a_standing : Nat} {v_traders : Int32} {v_covers : Int32} {v_coversBusy : Int32} {res : Int32}
def rmX2_standSideBySide : Room := { frames := 1, cells := 0, slots := 0, locals := 23 }
abbrev zwX2_standSideBySide : List Cond := Cond.code yX2_standSideBySide cX2_standSideBySide 6 (some .boolean) :: wsAll
set_option maxHeartbeats 4000000 in
set_option maxRecDepth 100000 in
theorem w_X2_standSideBySide_84 {n : Nat} (E : zE p s m args meth c cX2_standSideBySide 6 (some .boolean) zwX2_standSideBySide RX2) {k2 : Int32 → Int32 → Int32 → Int32 → (Nat → Int32) → (Nat → Int32) → (Nat → Int32) → Option (Int32)} (hk2 : ∀ (x1 : Int32) (x2 : Int32) (x3 : Int32) (v_pitches : Int32) (v_rows : Nat → Int32) (v_trades : Nat → Int32) (v_standing : Nat → Int32), k2 x1 x2 x3 v_pitches v_rows v_trades v_standing = some res → ∀ (H : Heap) (locs : List Loc) (ls : Array Slot), zW D (zT cI cZ cM) A s [(a_this, .inr (2, [.int v_pitches, .ref a_rows, .ref a_rents, .ref a_roofs, .int v_traders, .ref a_trades, .ref a_fronts, .ref a_limits, .ref a_needy, .ref a_clashes, .int v_covers, .ref a_starts, .ref a_standing, .int v_coversBusy])), (a_rows, .inl (cI, 24, .inl v_rows)), (a_trades, .inl (cI, 8, .inl v_trades)), (a_standing, .inl (cI, 24, .inl v_standing))] H locs → lv_has ls 6 [(0, .ref a_this), (1, .int x1), (2, .int x2), (3, .int x3)] → W p l e rmX2_standSideBySide s m args below meth c H locs 0 0 (MQ below (zQi D (zT cI cZ cM) res [(a_this, .inr (2, [.int v_pitches, .ref a_rows, .ref a_rents, .ref a_roofs, .int v_traders, .ref a_trades, .ref a_fronts, .ref a_limits, .ref a_needy, .ref a_clashes, .int v_covers, .ref a_starts, .ref a_standing, .int v_coversBusy])), (a_rows, .inl (cI, 24, .inl v_rows)), (a_trades, .inl (cI, 8, .inl v_trades)), (a_standing, .inl (cI, 24, .inl v_standing))] A) args s 0 0 A) (F0 m 2 ls [])) : ∀ (x1 : Int32) (x2 : Int32) (x3 : Int32) (v_pitches : Int32) (v_rows : Nat → Int32) (v_trades : Nat → Int32) (v_standing : Nat → Int32), f_X2_standSideBySide_84 n k2 x1 x2 x3 v_pitches v_rows v_trades v_standing = some res → ∀ (H : Heap) (locs : List Loc) (ls : Array Slot), zW D (zT cI cZ cM) A s [(a_this, .inr (2, [.int v_pitches, .ref a_rows, .ref a_rents, .ref a_roofs, .int v_traders, .ref a_trades, .ref a_fronts, .ref a_limits, .ref a_needy, .ref a_clashes, .int v_covers, .ref a_starts, .ref a_standing, .int v_coversBusy])), (a_rows, .inl (cI, 24, .inl v_rows)), (a_trades, .inl (cI, 8, .inl v_trades)), (a_standing, .inl (cI, 24, .inl v_standing))] H locs → lv_has ls 6 [(0, .ref a_this), (1, .int x1), (2, .int x2), (3, .int x3)] → W p l e rmX2_standSideBySide s m args below meth c H locs 0 0 (MQ below (zQi D (zT cI cZ cM) res [(a_this, .inr (2, [.int v_pitches, .ref a_rows, .ref a_rents, .ref a_roofs, .int v_traders, .ref a_trades, .ref a_fronts, .ref a_limits, .ref a_needy, .ref a_clashes, .int v_covers, .ref a_starts, .ref a_standing, .int v_coversBusy])), (a_rows, .inl (cI, 24, .inl v_rows)), (a_trades, .inl (cI, 8, .inl v_trades)), (a_standing, .inl (cI, 24, .inl v_standing))] A) args s 0 0 A) (F0 m 84 ls []) := by
  obtain ⟨⟨hx, hb, hml, hown, hts⟩, hr, hlocks⟩ := id E
  intro x1 x2 x3 v_pitches v_rows v_trades v_standing hf H locs ls hw hl
  unfold f_X2_standSideBySide_84 at hf
  refine lv_iinc (v := (x3 + (1 : Int32))) (lv' := [(3, .int (x3 + (1 : Int32))), (0, .ref a_this), (1, .int x1), (2, .int x2)]) hx hb dX2_standSideBySide_84 hl (k := 3) rfl rfl (z_lt rfl) rfl (fun ls hl => ?_)
  refine lv_goto (tgt := 2) hx hb dX2_standSideBySide_87 (by decide) ?_
  exact hk2 _ _ _ _ _ _ _ hf _ _ _ hw (lv_sub hl [1, 2, 3, 0] rfl)
set_option maxHeartbeats 4000000 in
set_option maxRecDepth 100000 in
theorem w_X2_standSideBySide_2 {n : Nat} (E : zE p s m args meth c cX2_standSideBySide 6 (some .boolean) zwX2_standSideBySide RX2) : ∀ (fu : Nat), ∀ (x1 : Int32) (x2 : Int32) (x3 : Int32) (v_pitches : Int32) (v_rows : Nat → Int32) (v_trades : Nat → Int32) (v_standing : Nat → Int32), f_X2_standSideBySide_2 n fu x1 x2 x3 v_pitches v_rows v_trades v_standing = some res → ∀ (H : Heap) (locs : List Loc) (ls : Array Slot), zW D (zT cI cZ cM) A s [(a_this, .inr (2, [.int v_pitches, .ref a_rows, .ref a_rents, .ref a_roofs, .int v_traders, .ref a_trades, .ref a_fronts, .ref a_limits, .ref a_needy, .ref a_clashes, .int v_covers, .ref a_starts, .ref a_standing, .int v_coversBusy])), (a_rows, .inl (cI, 24, .inl v_rows)), (a_trades, .inl (cI, 8, .inl v_trades)), (a_standing, .inl (cI, 24, .inl v_standing))] H locs → lv_has ls 6 [(0, .ref a_this), (1, .int x1), (2, .int x2), (3, .int x3)] → W p l e rmX2_standSideBySide s m args below meth c H locs 0 0 (MQ below (zQi D (zT cI cZ cM) res [(a_this, .inr (2, [.int v_pitches, .ref a_rows, .ref a_rents, .ref a_roofs, .int v_traders, .ref a_trades, .ref a_fronts, .ref a_limits, .ref a_needy, .ref a_clashes, .int v_covers, .ref a_starts, .ref a_standing, .int v_coversBusy])), (a_rows, .inl (cI, 24, .inl v_rows)), (a_trades, .inl (cI, 8, .inl v_trades)), (a_standing, .inl (cI, 24, .inl v_standing))] A) args s 0 0 A) (F0 m 2 ls []) := by
  obtain ⟨⟨hx, hb, hml, hown, hts⟩, hr, hlocks⟩ := id E
  intro fu
  induction fu with
  | zero => intro x1 x2 x3 v_pitches v_rows v_trades v_standing hf; rw [f_X2_standSideBySide_2.eq_1] at hf; cases hf
  | succ fu ih =>
    intro x1 x2 x3 v_pitches v_rows v_trades v_standing hf H locs ls hw hl
    rw [f_X2_standSideBySide_2.eq_2] at hf
    refine lv_iload_n hx hb dX2_standSideBySide_2 rfl (lv_at hl 3 rfl) ?_
    refine lv_iconst (v := 1) hx hb dX2_standSideBySide_3 (by decide) ?_
    refine lv_iadd hx hb dX2_standSideBySide_4 ?_
    refine lv_aload_n hx hb dX2_standSideBySide_5 rfl (lv_at hl 0 rfl) ?_
    refine z_get E.1 hw in_wsX20 0 rfl rfl 0 (z_lt rfl) mw_14 (v := .int v_pitches) rfl dX2_standSideBySide_6 ?_
    refine lv_icmp_ge (tgt := 90) hx hb dX2_standSideBySide_9 (by decide) (fun hc => ?_) (fun hc => ?_)
    · have hf := oI_pos hc hf
      refine lv_iconst (v := 0) hx hb dX2_standSideBySide_90 (by decide) ?_
      cases hf
      exact z_zret E rfl z_n0 hw dX2_standSideBySide_91
    · have hf := oI_neg hc hf
      refine lv_aload_n hx hb dX2_standSideBySide_12 rfl (lv_at hl 0 rfl) ?_
      refine z_get E.1 hw in_wsX20 0 rfl rfl 12 (z_lt rfl) mw_28 (v := .ref a_standing) rfl dX2_standSideBySide_13 ?_
      refine lv_iload_n hx hb dX2_standSideBySide_16 rfl (lv_at hl 3 rfl) ?_
      obtain ⟨h_1, hf⟩ := oA_elim hf
      refine z_iald E.1 hw 3 0 rfl rfl h_1 dX2_standSideBySide_17 ?_
      obtain ⟨y_2, e_y_2, hf⟩ := oL_elim hf
      refine z_top e_y_2 ?_
      refine lv_istore (lv' := [(4, .int y_2), (0, .ref a_this), (1, .int x1), (2, .int x2), (3, .int x3)]) hx hb dX2_standSideBySide_18 hl (z_lt rfl) rfl (fun ls hl => ?_)
      refine lv_aload_n hx hb dX2_standSideBySide_20 rfl (lv_at hl 1 rfl) ?_
      refine z_get E.1 hw in_wsX20 0 rfl rfl 12 (z_lt rfl) mw_28 (v := .ref a_standing) rfl dX2_standSideBySide_21 ?_
      refine lv_iload_n hx hb dX2_standSideBySide_24 rfl (lv_at hl 4 rfl) ?_
      refine lv_iconst (v := 1) hx hb dX2_standSideBySide_25 (by decide) ?_
      refine lv_iadd hx hb dX2_standSideBySide_26 ?_
      obtain ⟨h_3, hf⟩ := oA_elim hf
      refine z_iald E.1 hw 3 0 rfl rfl h_3 dX2_standSideBySide_27 ?_
      obtain ⟨y_4, e_y_4, hf⟩ := oL_elim hf
      refine z_top e_y_4 ?_
      refine lv_istore (lv' := [(5, .int y_4), (4, .int y_2), (0, .ref a_this), (1, .int x1), (2, .int x2), (3, .int x3)]) hx hb dX2_standSideBySide_28 hl (z_lt rfl) rfl (fun ls hl => ?_)
      refine lv_iload hx hb dX2_standSideBySide_30 (lv_at hl 1 rfl) ?_
      refine lv_iload hx hb dX2_standSideBySide_32 (lv_at hl 0 rfl) ?_
      refine lv_icmp_eq (tgt := 84) hx hb dX2_standSideBySide_34 (by decide) (fun hc => ?_) (fun hc => ?_)
      · have hf := oI_pos hc hf
        exact w_X2_standSideBySide_84 E ih _ _ _ _ _ _ _ hf _ _ _ hw (lv_sub hl [2, 3, 4, 5] rfl)
      · have hf := oI_neg hc hf
        refine lv_iload hx hb dX2_standSideBySide_37 (lv_at hl 1 rfl) ?_
        refine lv_iconst (v := -1) hx hb dX2_standSideBySide_39 (by decide) ?_
        refine lv_icmp_eq (tgt := 84) hx hb dX2_standSideBySide_40 (by decide) (fun hc => ?_) (fun hc => ?_)
        · have hf := oI_pos hc hf
          exact w_X2_standSideBySide_84 E ih _ _ _ _ _ _ _ hf _ _ _ hw (lv_sub hl [2, 3, 4, 5] rfl)
        · have hf := oI_neg hc hf
          refine lv_iload hx hb dX2_standSideBySide_43 (lv_at hl 0 rfl) ?_
          refine lv_iconst (v := -1) hx hb dX2_standSideBySide_45 (by decide) ?_
          refine lv_icmp_eq (tgt := 84) hx hb dX2_standSideBySide_46 (by decide) (fun hc => ?_) (fun hc => ?_)
          · have hf := oI_pos hc hf
            exact w_X2_standSideBySide_84 E ih _ _ _ _ _ _ _ hf _ _ _ hw (lv_sub hl [2, 3, 4, 5] rfl)
          · have hf := oI_neg hc hf
            refine lv_aload_n hx hb dX2_standSideBySide_49 rfl (lv_at hl 2 rfl) ?_
            refine lv_iload_n hx hb dX2_standSideBySide_50 rfl (lv_at hl 5 rfl) ?_
            refine lv_iload_n hx hb dX2_standSideBySide_51 rfl (lv_at hl 5 rfl) ?_
            refine lv_iconst (v := 1) hx hb dX2_standSideBySide_52 (by decide) ?_
            refine lv_iadd hx hb dX2_standSideBySide_53 ?_
            obtain ⟨r_5, h_6, hf⟩ := oB_elim hf
            refine z_callVi (ws' := [(a_this, .inr (2, [.int v_pitches, .ref a_rows, .ref a_rents, .ref a_roofs, .int v_traders, .ref a_trades, .ref a_fronts, .ref a_limits, .ref a_needy, .ref a_clashes, .int v_covers, .ref a_starts, .ref a_standing, .int v_coversBusy])), (a_rows, .inl (cI, 24, .inl v_rows)), (a_trades, .inl (cI, 8, .inl v_trades)), (a_standing, .inl (cI, 24, .inl v_standing))]) (wr := [(a_trades, .inl (cI, 8, .inl v_trades)), (a_standing, .inl (cI, 24, .inl v_standing))]) (As := [.int x3, .int (x3 + (1 : Int32))]) (rest := []) E.1 hl hw (c_X2_shareRow h_6) (cwV 2 hts (z_gV mw_71 mw_72 mw_73 mw_9 mw_74) rfl rfl rfl (by decide +kernel) ⟨(Nat.le_of_ble_eq_true rfl), (Nat.le_of_ble_eq_true rfl)⟩) 4 [(0, 2)] [(2, 2)] rfl rfl rfl rfl rfl rfl (by decide +kernel) rfl (q0 := 0) rfl rfl rfl (Nat.le_of_ble_eq_true rfl) dX2_standSideBySide_54 ⟨Nat.le_of_ble_eq_true rfl, Nat.le_of_ble_eq_true rfl⟩ (fun H locs hw => ?_)
            refine lv_if_eq (tgt := 84) hx hb dX2_standSideBySide_57 (by decide) (fun hc => ?_) (fun hc => ?_)
            · have hf := oI_pos hc hf
              exact w_X2_standSideBySide_84 E ih _ _ _ _ _ _ _ hf _ _ _ hw (lv_sub hl [2, 3, 4, 5] rfl)
            · have hf := oI_neg hc hf
              refine lv_aload_n hx hb dX2_standSideBySide_60 rfl (lv_at hl 2 rfl) ?_
              refine z_get E.1 hw in_wsX20 0 rfl rfl 5 (z_lt rfl) mw_21 (v := .ref a_trades) rfl dX2_standSideBySide_61 ?_
              refine lv_iload hx hb dX2_standSideBySide_64 (lv_at hl 1 rfl) ?_
              obtain ⟨h_7, hf⟩ := oA_elim hf
              refine z_iald E.1 hw 2 0 rfl rfl h_7 dX2_standSideBySide_66 ?_
              refine lv_aload_n hx hb dX2_standSideBySide_67 rfl (lv_at hl 2 rfl) ?_
              refine z_get E.1 hw in_wsX20 0 rfl rfl 5 (z_lt rfl) mw_21 (v := .ref a_trades) rfl dX2_standSideBySide_68 ?_
              refine lv_iload hx hb dX2_standSideBySide_71 (lv_at hl 0 rfl) ?_
              obtain ⟨h_8, hf⟩ := oA_elim hf
              refine z_iald E.1 hw 2 0 rfl rfl h_8 dX2_standSideBySide_73 ?_
              refine lv_iload_n hx hb dX2_standSideBySide_74 rfl (lv_at hl 3 rfl) ?_
              refine lv_iload_n hx hb dX2_standSideBySide_75 rfl (lv_at hl 4 rfl) ?_
              obtain ⟨r_9, h_10, hf⟩ := oB_elim hf
              refine z_callSi (ws' := [(a_this, .inr (2, [.int v_pitches, .ref a_rows, .ref a_rents, .ref a_roofs, .int v_traders, .ref a_trades, .ref a_fronts, .ref a_limits, .ref a_needy, .ref a_clashes, .int v_covers, .ref a_starts, .ref a_standing, .int v_coversBusy])), (a_rows, .inl (cI, 24, .inl v_rows)), (a_trades, .inl (cI, 8, .inl v_trades)), (a_standing, .inl (cI, 24, .inl v_standing))]) (wr := [(a_this, .inr (2, [.int v_pitches, .ref a_rows, .ref a_rents, .ref a_roofs, .int v_traders, .ref a_trades, .ref a_fronts, .ref a_limits, .ref a_needy, .ref a_clashes, .int v_covers, .ref a_starts, .ref a_standing, .int v_coversBusy])), (a_rows, .inl (cI, 24, .inl v_rows)), (a_trades, .inl (cI, 8, .inl v_trades)), (a_standing, .inl (cI, 24, .inl v_standing))]) (As := [.int (v_trades (y_2).toNatClampNeg), .int (v_trades (y_4).toNatClampNeg), .int x1, .int x2]) (rest := []) E.1 hl hw (c_X2_isPair h_10) (va_cwS 4 hts (z_gS mw_165 mw_166 mw_9 mw_159) rfl rfl rfl (by decide +kernel) ⟨(Nat.le_of_ble_eq_true rfl), (Nat.le_of_ble_eq_true rfl)⟩) 4 [] [(0, 4)] rfl rfl rfl rfl rfl rfl (by decide +kernel) rfl rfl (Nat.le_of_ble_eq_true rfl) dX2_standSideBySide_76 ⟨Nat.le_of_ble_eq_true rfl, Nat.le_of_ble_eq_true rfl⟩ (fun H locs hw => ?_)
              refine lv_if_eq (tgt := 84) hx hb dX2_standSideBySide_79 (by decide) (fun hc => ?_) (fun hc => ?_)
              · have hf := oI_pos hc hf
                exact w_X2_standSideBySide_84 E ih _ _ _ _ _ _ _ hf _ _ _ hw (lv_sub hl [2, 3, 4, 5] rfl)
              · have hf := oI_neg hc hf
                refine lv_iconst (v := 1) hx hb dX2_standSideBySide_82 (by decide) ?_
                cases hf
                exact z_zret E rfl z_n1 hw dX2_standSideBySide_83
set_option maxHeartbeats 4000000 in
set_option maxRecDepth 100000 in
theorem c_X2_standSideBySide {l : Launch} {D : va_G} {cI cZ cM : ClassId} {a_this a_rows a_rents a_roofs a_trades a_fronts a_limits a_needy a_clashes a_starts a_standing : Nat} {v_traders : Int32} {v_covers : Int32} {v_coversBusy : Int32} {res : Int32} {sz : Nat} {n : Nat} {v_pitches : Int32} {v_rows : Nat → Int32} {v_trades : Nat → Int32} {v_standing : Nat → Int32} {x1 : Int32} {x2 : Int32} (hf : f_X2_standSideBySide n v_pitches v_rows v_trades v_standing x1 x2 = some res) : Met l yX2_standSideBySide zwX2_standSideBySide rmX2_standSideBySide (zPc D (zT cI cZ cM) [.ref a_this, .int x1, .int x2] [(a_this, .inr (2, [.int v_pitches, .ref a_rows, .ref a_rents, .ref a_roofs, .int v_traders, .ref a_trades, .ref a_fronts, .ref a_limits, .ref a_needy, .ref a_clashes, .int v_covers, .ref a_starts, .ref a_standing, .int v_coversBusy])), (a_rows, .inl (cI, 24, .inl v_rows)), (a_trades, .inl (cI, 8, .inl v_trades)), (a_standing, .inl (cI, 24, .inl v_standing))] sz) (zQi D (zT cI cZ cM) res [(a_this, .inr (2, [.int v_pitches, .ref a_rows, .ref a_rents, .ref a_roofs, .int v_traders, .ref a_trades, .ref a_fronts, .ref a_limits, .ref a_needy, .ref a_clashes, .int v_covers, .ref a_starts, .ref a_standing, .int v_coversBusy])), (a_rows, .inl (cI, 24, .inl v_rows)), (a_trades, .inl (cI, 8, .inl v_trades)), (a_standing, .inl (cI, 24, .inl v_standing))] (va_A [(a_this, .inr (2, [.int v_pitches, .ref a_rows, .ref a_rents, .ref a_roofs, .int v_traders, .ref a_trades, .ref a_fronts, .ref a_limits, .ref a_needy, .ref a_clashes, .int v_covers, .ref a_starts, .ref a_standing, .int v_coversBusy])), (a_rows, .inl (cI, 24, .inl v_rows)), (a_trades, .inl (cI, 8, .inl v_trades)), (a_standing, .inl (cI, 24, .inl v_standing))] sz)) 0 0 (va_A [(a_this, .inr (2, [.int v_pitches, .ref a_rows, .ref a_rents, .ref a_roofs, .int v_traders, .ref a_trades, .ref a_fronts, .ref a_limits, .ref a_needy, .ref a_clashes, .int v_covers, .ref a_starts, .ref a_standing, .int v_coversBusy])), (a_rows, .inl (cI, 24, .inl v_rows)), (a_trades, .inl (cI, 8, .inl v_trades)), (a_standing, .inl (cI, 24, .inl v_standing))] sz) := by
  refine z_met (cc := cX2_standSideBySide) (maxL := 6) (ret := (some .boolean)) (by decide) rfl (Nat.le_of_ble_eq_true rfl) ?_
  intro p e s m below meth c ls E hsz hw hl
  obtain ⟨⟨hx, hb, hml, hown, hts⟩, hr, hlocks⟩ := id E
  have hl : lv_has ls 6 [(0, .ref a_this), (1, .int x1), (2, .int x2)] := hl
  unfold f_X2_standSideBySide at hf
  refine lv_iconst (v := 0) hx hb dX2_standSideBySide_0 (by decide) ?_
  refine lv_istore_n (lv' := [(3, .int (0 : Int32)), (0, .ref a_this), (1, .int x1), (2, .int x2)]) hx hb dX2_standSideBySide_1 rfl hl (z_lt rfl) rfl (fun ls hl => ?_)
  exact w_X2_standSideBySide_2 E  n _ _ _ _ _ _ _ hf _ _ _ hw (lv_sub hl [1, 2, 3, 0] rfl)
end
/-! X2_unseatAll -/
section
variable {p : Program} {l : Launch} {e : Env} {s : State} {m : MethodId} {args : Array Value} {below : List Frame} {meth : Method} {c : Code} {D : va_G} {A : Nat → Prop} {cI cZ cM : ClassId} {a_this a_rows a_rents a_roofs a_trades a_fronts a_limits a_needy a_clashes a_starts a_standing : Nat} {v_covers : Int32} {res : (Nat → Int32) × (Nat → Int32) × Int32}
def rmX2_unseatAll : Room := { frames := 3, cells := 0, slots := 0, locals := 69 }
abbrev zwX2_unseatAll : List Cond := Cond.code yX2_unseatAll cX2_unseatAll 2 none :: wsAll
set_option maxHeartbeats 4000000 in
set_option maxRecDepth 100000 in
theorem w_X2_unseatAll_2 {n : Nat} (E : zE p s m args meth c cX2_unseatAll 2 none zwX2_unseatAll RX2) : ∀ (fu : Nat), ∀ (x1 : Int32) (v_pitches : Int32) (v_roofs : Nat → Int32) (v_traders : Int32) (v_fronts : Nat → Int32) (v_needy : Nat → Int32) (v_starts : Nat → Int32) (v_standing : Nat → Int32) (v_coversBusy : Int32), f_X2_unseatAll_2 n fu x1 v_pitches v_roofs v_traders v_fronts v_needy v_starts v_standing v_coversBusy = some res → ∀ (H : Heap) (locs : List Loc) (ls : Array Slot), zW D (zT cI cZ cM) A s [(a_this, .inr (2, [.int v_pitches, .ref a_rows, .ref a_rents, .ref a_roofs, .int v_traders, .ref a_trades, .ref a_fronts, .ref a_limits, .ref a_needy, .ref a_clashes, .int v_covers, .ref a_starts, .ref a_standing, .int v_coversBusy])), (a_roofs, .inl (cZ, 24, .inl v_roofs)), (a_fronts, .inl (cI, 8, .inl v_fronts)), (a_needy, .inl (cZ, 8, .inl v_needy)), (a_starts, .inl (cI, 8, .inl v_starts)), (a_standing, .inl (cI, 24, .inl v_standing))] H locs → lv_has ls 2 [(0, .ref a_this), (1, .int x1)] → W p l e rmX2_unseatAll s m args below meth c H locs 0 0 (MQ below (zQv D (zT cI cZ cM) [(a_this, .inr (2, [.int v_pitches, .ref a_rows, .ref a_rents, .ref a_roofs, .int v_traders, .ref a_trades, .ref a_fronts, .ref a_limits, .ref a_needy, .ref a_clashes, .int v_covers, .ref a_starts, .ref a_standing, .int res.2.2])), (a_roofs, .inl (cZ, 24, .inl v_roofs)), (a_fronts, .inl (cI, 8, .inl v_fronts)), (a_needy, .inl (cZ, 8, .inl v_needy)), (a_starts, .inl (cI, 8, .inl res.1)), (a_standing, .inl (cI, 24, .inl res.2.1))] A) args s 0 0 A) (F0 m 2 ls []) := by
  obtain ⟨⟨hx, hb, hml, hown, hts⟩, hr, hlocks⟩ := id E
  intro fu
  induction fu with
  | zero => intro x1 v_pitches v_roofs v_traders v_fronts v_needy v_starts v_standing v_coversBusy hf; rw [f_X2_unseatAll_2.eq_1] at hf; cases hf
  | succ fu ih =>
    intro x1 v_pitches v_roofs v_traders v_fronts v_needy v_starts v_standing v_coversBusy hf H locs ls hw hl
    rw [f_X2_unseatAll_2.eq_2] at hf
    refine lv_iload_n hx hb dX2_unseatAll_2 rfl (lv_at hl 1 rfl) ?_
    refine lv_aload_n hx hb dX2_unseatAll_3 rfl (lv_at hl 0 rfl) ?_
    refine z_get E.1 hw in_wsX20 0 rfl rfl 4 (z_lt rfl) mw_20 (v := .int v_traders) rfl dX2_unseatAll_4 ?_
    refine lv_icmp_ge (tgt := 21) hx hb dX2_unseatAll_7 (by decide) (fun hc => ?_) (fun hc => ?_)
    · have hf := oI_pos hc hf
      cases hf
      exact z_vret E rfl hw dX2_unseatAll_21
    · have hf := oI_neg hc hf
      refine lv_aload_n hx hb dX2_unseatAll_10 rfl (lv_at hl 0 rfl) ?_
      refine lv_iload_n hx hb dX2_unseatAll_11 rfl (lv_at hl 1 rfl) ?_
      obtain ⟨v_1, v_2, v_3, h_4, hf⟩ := oB3_elim hf
      refine z_callVv (ws' := [(a_this, .inr (2, [.int v_pitches, .ref a_rows, .ref a_rents, .ref a_roofs, .int v_traders, .ref a_trades, .ref a_fronts, .ref a_limits, .ref a_needy, .ref a_clashes, .int v_covers, .ref a_starts, .ref a_standing, .int v_3])), (a_roofs, .inl (cZ, 24, .inl v_roofs)), (a_fronts, .inl (cI, 8, .inl v_fronts)), (a_needy, .inl (cZ, 8, .inl v_needy)), (a_starts, .inl (cI, 8, .inl v_1)), (a_standing, .inl (cI, 24, .inl v_2))]) (wr := []) (As := [.int x1]) (rest := []) E.1 hl hw (c_X2_unseat h_4) (cwV 1 hts (z_gV mw_172 mw_138 mw_139 mw_9 mw_140) rfl rfl rfl (by decide +kernel) ⟨(Nat.le_of_ble_eq_true rfl), (Nat.le_of_ble_eq_true rfl)⟩) 6 [(0, 6)] [] rfl rfl rfl rfl rfl rfl (by decide +kernel) rfl (q0 := 0) rfl rfl rfl (Nat.le_of_ble_eq_true rfl) dX2_unseatAll_12 ⟨Nat.le_of_ble_eq_true rfl, Nat.le_of_ble_eq_true rfl⟩ (fun H locs hw => ?_)
      refine lv_iinc (v := (x1 + (1 : Int32))) (lv' := [(1, .int (x1 + (1 : Int32))), (0, .ref a_this)]) hx hb dX2_unseatAll_15 hl (k := 1) rfl rfl (z_lt rfl) rfl (fun ls hl => ?_)
      refine lv_goto (tgt := 2) hx hb dX2_unseatAll_18 (by decide) ?_
      exact ih _ _ _ _ _ _ _ _ _ hf _ _ _ hw (lv_sub hl [1, 0] rfl)
set_option maxHeartbeats 4000000 in
set_option maxRecDepth 100000 in
theorem c_X2_unseatAll {l : Launch} {D : va_G} {cI cZ cM : ClassId} {a_this a_rows a_rents a_roofs a_trades a_fronts a_limits a_needy a_clashes a_starts a_standing : Nat} {v_covers : Int32} {res : (Nat → Int32) × (Nat → Int32) × Int32} {sz : Nat} {n : Nat} {v_pitches : Int32} {v_roofs : Nat → Int32} {v_traders : Int32} {v_fronts : Nat → Int32} {v_needy : Nat → Int32} {v_starts : Nat → Int32} {v_standing : Nat → Int32} {v_coversBusy : Int32} (hf : f_X2_unseatAll n v_pitches v_roofs v_traders v_fronts v_needy v_starts v_standing v_coversBusy = some res) : Met l yX2_unseatAll zwX2_unseatAll rmX2_unseatAll (zPc D (zT cI cZ cM) [.ref a_this] [(a_this, .inr (2, [.int v_pitches, .ref a_rows, .ref a_rents, .ref a_roofs, .int v_traders, .ref a_trades, .ref a_fronts, .ref a_limits, .ref a_needy, .ref a_clashes, .int v_covers, .ref a_starts, .ref a_standing, .int v_coversBusy])), (a_roofs, .inl (cZ, 24, .inl v_roofs)), (a_fronts, .inl (cI, 8, .inl v_fronts)), (a_needy, .inl (cZ, 8, .inl v_needy)), (a_starts, .inl (cI, 8, .inl v_starts)), (a_standing, .inl (cI, 24, .inl v_standing))] sz) (zQv D (zT cI cZ cM) [(a_this, .inr (2, [.int v_pitches, .ref a_rows, .ref a_rents, .ref a_roofs, .int v_traders, .ref a_trades, .ref a_fronts, .ref a_limits, .ref a_needy, .ref a_clashes, .int v_covers, .ref a_starts, .ref a_standing, .int res.2.2])), (a_roofs, .inl (cZ, 24, .inl v_roofs)), (a_fronts, .inl (cI, 8, .inl v_fronts)), (a_needy, .inl (cZ, 8, .inl v_needy)), (a_starts, .inl (cI, 8, .inl res.1)), (a_standing, .inl (cI, 24, .inl res.2.1))] (va_A [(a_this, .inr (2, [.int v_pitches, .ref a_rows, .ref a_rents, .ref a_roofs, .int v_traders, .ref a_trades, .ref a_fronts, .ref a_limits, .ref a_needy, .ref a_clashes, .int v_covers, .ref a_starts, .ref a_standing, .int v_coversBusy])), (a_roofs, .inl (cZ, 24, .inl v_roofs)), (a_fronts, .inl (cI, 8, .inl v_fronts)), (a_needy, .inl (cZ, 8, .inl v_needy)), (a_starts, .inl (cI, 8, .inl v_starts)), (a_standing, .inl (cI, 24, .inl v_standing))] sz)) 0 0 (va_A [(a_this, .inr (2, [.int v_pitches, .ref a_rows, .ref a_rents, .ref a_roofs, .int v_traders, .ref a_trades, .ref a_fronts, .ref a_limits, .ref a_needy, .ref a_clashes, .int v_covers, .ref a_starts, .ref a_standing, .int v_coversBusy])), (a_roofs, .inl (cZ, 24, .inl v_roofs)), (a_fronts, .inl (cI, 8, .inl v_fronts)), (a_needy, .inl (cZ, 8, .inl v_needy)), (a_starts, .inl (cI, 8, .inl v_starts)), (a_standing, .inl (cI, 24, .inl v_standing))] sz) := by
  refine z_met (cc := cX2_unseatAll) (maxL := 2) (ret := none) (by decide) rfl (Nat.le_of_ble_eq_true rfl) ?_
  intro p e s m below meth c ls E hsz hw hl
  obtain ⟨⟨hx, hb, hml, hown, hts⟩, hr, hlocks⟩ := id E
  have hl : lv_has ls 2 [(0, .ref a_this)] := hl
  unfold f_X2_unseatAll at hf
  refine lv_iconst (v := 0) hx hb dX2_unseatAll_0 (by decide) ?_
  refine lv_istore_n (lv' := [(1, .int (0 : Int32)), (0, .ref a_this)]) hx hb dX2_unseatAll_1 rfl hl (z_lt rfl) rfl (fun ls hl => ?_)
  exact w_X2_unseatAll_2 E  n _ _ _ _ _ _ _ _ _ hf _ _ _ hw (lv_sub hl [1, 0] rfl)
end
/-! X2_turnAround -/
section
variable {p : Program} {l : Launch} {e : Env} {s : State} {m : MethodId} {args : Array Value} {below : List Frame} {meth : Method} {c : Code} {D : va_G} {A : Nat → Prop} {cI cZ cM : ClassId} {a_this a_rows a_rents a_roofs a_trades a_fronts a_limits a_needy a_clashes a_starts a_standing : Nat} {v_covers : Int32} {res : (Nat → Int32) × (Nat → Int32) × (Nat → Int32) × (Nat → Int32) × (Nat → Int32) × Int32}
def rmX2_turnAround : Room := { frames := 4, cells := 0, slots := 0, locals := 90 }
abbrev zwX2_turnAround : List Cond := Cond.code yX2_turnAround cX2_turnAround 6 none :: wsAll
set_option maxHeartbeats 4000000 in
set_option maxRecDepth 100000 in
theorem w_X2_turnAround_13 {n : Nat} {v_pitches : Int32} {v_traders : Int32} {v_fronts : Nat → Int32} {v_needy : Nat → Int32} (E : zE p s m args meth c cX2_turnAround 6 none zwX2_turnAround RX2) : ∀ (fu : Nat), ∀ (x1 : Int32) (x2 : Int32) (v_rows : Nat → Int32) (v_rents : Nat → Int32) (v_roofs : Nat → Int32) (v_starts : Nat → Int32) (v_standing : Nat → Int32) (v_coversBusy : Int32), f_X2_turnAround_13 n fu x1 x2 v_rows v_rents v_roofs v_starts v_standing v_coversBusy = some res → ∀ (H : Heap) (locs : List Loc) (ls : Array Slot), zW D (zT cI cZ cM) A s [(a_this, .inr (2, [.int v_pitches, .ref a_rows, .ref a_rents, .ref a_roofs, .int v_traders, .ref a_trades, .ref a_fronts, .ref a_limits, .ref a_needy, .ref a_clashes, .int v_covers, .ref a_starts, .ref a_standing, .int v_coversBusy])), (a_rows, .inl (cI, 24, .inl v_rows)), (a_rents, .inl (cI, 24, .inl v_rents)), (a_roofs, .inl (cZ, 24, .inl v_roofs)), (a_fronts, .inl (cI, 8, .inl v_fronts)), (a_needy, .inl (cZ, 8, .inl v_needy)), (a_starts, .inl (cI, 8, .inl v_starts)), (a_standing, .inl (cI, 24, .inl v_standing))] H locs → lv_has ls 6 [(0, .ref a_this), (1, .int x1), (2, .int x2)] → W p l e rmX2_turnAround s m args below meth c H locs 0 0 (MQ below (zQv D (zT cI cZ cM) [(a_this, .inr (2, [.int v_pitches, .ref a_rows, .ref a_rents, .ref a_roofs, .int v_traders, .ref a_trades, .ref a_fronts, .ref a_limits, .ref a_needy, .ref a_clashes, .int v_covers, .ref a_starts, .ref a_standing, .int res.2.2.2.2.2])), (a_rows, .inl (cI, 24, .inl res.1)), (a_rents, .inl (cI, 24, .inl res.2.1)), (a_roofs, .inl (cZ, 24, .inl res.2.2.1)), (a_fronts, .inl (cI, 8, .inl v_fronts)), (a_needy, .inl (cZ, 8, .inl v_needy)), (a_starts, .inl (cI, 8, .inl res.2.2.2.1)), (a_standing, .inl (cI, 24, .inl res.2.2.2.2.1))] A) args s 0 0 A) (F0 m 13 ls []) := by
  obtain ⟨⟨hx, hb, hml, hown, hts⟩, hr, hlocks⟩ := id E
  intro fu
  induction fu with
  | zero => intro x1 x2 v_rows v_rents v_roofs v_starts v_standing v_coversBusy hf; rw [f_X2_turnAround_13.eq_1] at hf; cases hf
  | succ fu ih =>
    intro x1 x2 v_rows v_rents v_roofs v_starts v_standing v_coversBusy hf H locs ls hw hl
    rw [f_X2_turnAround_13.eq_2] at hf
    refine lv_iload_n hx hb dX2_turnAround_13 rfl (lv_at hl 1 rfl) ?_
    refine lv_iload_n hx hb dX2_turnAround_14 rfl (lv_at hl 2 rfl) ?_
    refine lv_icmp_ge (tgt := 109) hx hb dX2_turnAround_15 (by decide) (fun hc => ?_) (fun hc => ?_)
    · have hf := oI_pos hc hf
      cases hf
      exact z_vret E rfl hw dX2_turnAround_109
    · have hf := oI_neg hc hf
      refine lv_aload_n hx hb dX2_turnAround_18 rfl (lv_at hl 0 rfl) ?_
      refine z_get E.1 hw in_wsX20 0 rfl rfl 1 (z_lt rfl) mw_16 (v := .ref a_rows) rfl dX2_turnAround_19 ?_
      refine lv_iload_n hx hb dX2_turnAround_22 rfl (lv_at hl 1 rfl) ?_
      obtain ⟨h_1, hf⟩ := oA_elim hf
      refine z_iald E.1 hw 1 0 rfl rfl h_1 dX2_turnAround_23 ?_
      obtain ⟨y_2, e_y_2, hf⟩ := oL_elim hf
      refine z_top e_y_2 ?_
      refine lv_istore_n (lv' := [(3, .int y_2), (0, .ref a_this), (1, .int x1), (2, .int x2)]) hx hb dX2_turnAround_24 rfl hl (z_lt rfl) rfl (fun ls hl => ?_)
      refine lv_aload_n hx hb dX2_turnAround_25 rfl (lv_at hl 1 rfl) ?_
      refine z_get E.1 hw in_wsX20 0 rfl rfl 1 (z_lt rfl) mw_16 (v := .ref a_rows) rfl dX2_turnAround_26 ?_
      refine lv_iload_n hx hb dX2_turnAround_29 rfl (lv_at hl 2 rfl) ?_
      refine lv_aload_n hx hb dX2_turnAround_30 rfl (lv_at hl 1 rfl) ?_
      refine z_get E.1 hw in_wsX20 0 rfl rfl 1 (z_lt rfl) mw_16 (v := .ref a_rows) rfl dX2_turnAround_31 ?_
      refine lv_iload_n hx hb dX2_turnAround_34 rfl (lv_at hl 3 rfl) ?_
      obtain ⟨h_3, hf⟩ := oA_elim hf
      refine z_iald E.1 hw 1 0 rfl rfl h_3 dX2_turnAround_35 ?_
      obtain ⟨h_4, hf⟩ := oA_elim hf
      obtain ⟨v_5, e_v_5, hf⟩ := oL_elim hf
      refine z_iast (ws' := [(a_this, .inr (2, [.int v_pitches, .ref a_rows, .ref a_rents, .ref a_roofs, .int v_traders, .ref a_trades, .ref a_fronts, .ref a_limits, .ref a_needy, .ref a_clashes, .int v_covers, .ref a_starts, .ref a_standing, .int v_coversBusy])), (a_rows, .inl (cI, 24, .inl v_5)), (a_rents, .inl (cI, 24, .inl v_rents)), (a_roofs, .inl (cZ, 24, .inl v_roofs)), (a_fronts, .inl (cI, 8, .inl v_fronts)), (a_needy, .inl (cZ, 8, .inl v_needy)), (a_starts, .inl (cI, 8, .inl v_starts)), (a_standing, .inl (cI, 24, .inl v_standing))]) E.1 hw 1 0 rfl rfl h_4 (by subst e_v_5; rfl) dX2_turnAround_36 (fun H locs hw => ?_)
      refine lv_aload_n hx hb dX2_turnAround_37 rfl (lv_at hl 1 rfl) ?_
      refine z_get E.1 hw in_wsX20 0 rfl rfl 1 (z_lt rfl) mw_16 (v := .ref a_rows) rfl dX2_turnAround_38 ?_
      refine lv_iload_n hx hb dX2_turnAround_41 rfl (lv_at hl 3 rfl) ?_
      refine lv_iload_n hx hb dX2_turnAround_42 rfl (lv_at hl 0 rfl) ?_
      obtain ⟨h_6, hf⟩ := oA_elim hf
      obtain ⟨v_7, e_v_7, hf⟩ := oL_elim hf
      refine z_iast (ws' := [(a_this, .inr (2, [.int v_pitches, .ref a_rows, .ref a_rents, .ref a_roofs, .int v_traders, .ref a_trades, .ref a_fronts, .ref a_limits, .ref a_needy, .ref a_clashes, .int v_covers, .ref a_starts, .ref a_standing, .int v_coversBusy])), (a_rows, .inl (cI, 24, .inl v_7)), (a_rents, .inl (cI, 24, .inl v_rents)), (a_roofs, .inl (cZ, 24, .inl v_roofs)), (a_fronts, .inl (cI, 8, .inl v_fronts)), (a_needy, .inl (cZ, 8, .inl v_needy)), (a_starts, .inl (cI, 8, .inl v_starts)), (a_standing, .inl (cI, 24, .inl v_standing))]) E.1 hw 1 0 rfl rfl h_6 (by subst e_v_7; rfl) dX2_turnAround_43 (fun H locs hw => ?_)
      refine lv_aload_n hx hb dX2_turnAround_44 rfl (lv_at hl 1 rfl) ?_
      refine z_get E.1 hw in_wsX20 0 rfl rfl 2 (z_lt rfl) mw_17 (v := .ref a_rents) rfl dX2_turnAround_45 ?_
      refine lv_iload_n hx hb dX2_turnAround_48 rfl (lv_at hl 2 rfl) ?_
      obtain ⟨h_8, hf⟩ := oA_elim hf
      refine z_iald E.1 hw 2 0 rfl rfl h_8 dX2_turnAround_49 ?_
      obtain ⟨y_9, e_y_9, hf⟩ := oL_elim hf
      refine z_top e_y_9 ?_
      refine lv_istore (lv' := [(4, .int y_9), (3, .int y_2), (0, .ref a_this), (1, .int x1), (2, .int x2)]) hx hb dX2_turnAround_50 hl (z_lt rfl) rfl (fun ls hl => ?_)
      refine lv_aload_n hx hb dX2_turnAround_52 rfl (lv_at hl 2 rfl) ?_
      refine z_get E.1 hw in_wsX20 0 rfl rfl 2 (z_lt rfl) mw_17 (v := .ref a_rents) rfl dX2_turnAround_53 ?_
      refine lv_iload_n hx hb dX2_turnAround_56 rfl (lv_at hl 3 rfl) ?_
      refine lv_aload_n hx hb dX2_turnAround_57 rfl (lv_at hl 2 rfl) ?_
      refine z_get E.1 hw in_wsX20 0 rfl rfl 2 (z_lt rfl) mw_17 (v := .ref a_rents) rfl dX2_turnAround_58 ?_
      refine lv_iload_n hx hb dX2_turnAround_61 rfl (lv_at hl 4 rfl) ?_
      obtain ⟨h_10, hf⟩ := oA_elim hf
      refine z_iald E.1 hw 2 0 rfl rfl h_10 dX2_turnAround_62 ?_
      obtain ⟨h_11, hf⟩ := oA_elim hf
      obtain ⟨v_12, e_v_12, hf⟩ := oL_elim hf
      refine z_iast (ws' := [(a_this, .inr (2, [.int v_pitches, .ref a_rows, .ref a_rents, .ref a_roofs, .int v_traders, .ref a_trades, .ref a_fronts, .ref a_limits, .ref a_needy, .ref a_clashes, .int v_covers, .ref a_starts, .ref a_standing, .int v_coversBusy])), (a_rows, .inl (cI, 24, .inl v_7)), (a_rents, .inl (cI, 24, .inl v_12)), (a_roofs, .inl (cZ, 24, .inl v_roofs)), (a_fronts, .inl (cI, 8, .inl v_fronts)), (a_needy, .inl (cZ, 8, .inl v_needy)), (a_starts, .inl (cI, 8, .inl v_starts)), (a_standing, .inl (cI, 24, .inl v_standing))]) E.1 hw 2 0 rfl rfl h_11 (by subst e_v_12; rfl) dX2_turnAround_63 (fun H locs hw => ?_)
      refine lv_aload_n hx hb dX2_turnAround_64 rfl (lv_at hl 2 rfl) ?_
      refine z_get E.1 hw in_wsX20 0 rfl rfl 2 (z_lt rfl) mw_17 (v := .ref a_rents) rfl dX2_turnAround_65 ?_
      refine lv_iload_n hx hb dX2_turnAround_68 rfl (lv_at hl 4 rfl) ?_
      refine lv_iload hx hb dX2_turnAround_69 (lv_at hl 0 rfl) ?_
      obtain ⟨h_13, hf⟩ := oA_elim hf
      obtain ⟨v_14, e_v_14, hf⟩ := oL_elim hf
      refine z_iast (ws' := [(a_this, .inr (2, [.int v_pitches, .ref a_rows, .ref a_rents, .ref a_roofs, .int v_traders, .ref a_trades, .ref a_fronts, .ref a_limits, .ref a_needy, .ref a_clashes, .int v_covers, .ref a_starts, .ref a_standing, .int v_coversBusy])), (a_rows, .inl (cI, 24, .inl v_7)), (a_rents, .inl (cI, 24, .inl v_14)), (a_roofs, .inl (cZ, 24, .inl v_roofs)), (a_fronts, .inl (cI, 8, .inl v_fronts)), (a_needy, .inl (cZ, 8, .inl v_needy)), (a_starts, .inl (cI, 8, .inl v_starts)), (a_standing, .inl (cI, 24, .inl v_standing))]) E.1 hw 2 0 rfl rfl h_13 (by subst e_v_14; rfl) dX2_turnAround_71 (fun H locs hw => ?_)
      refine lv_aload_n hx hb dX2_turnAround_72 rfl (lv_at hl 2 rfl) ?_
      refine z_get E.1 hw in_wsX20 0 rfl rfl 3 (z_lt rfl) mw_19 (v := .ref a_roofs) rfl dX2_turnAround_73 ?_
      refine lv_iload_n hx hb dX2_turnAround_76 rfl (lv_at hl 3 rfl) ?_
      obtain ⟨h_15, hf⟩ := oA_elim hf
      refine z_zald E.1 hw 3 1 rfl rfl h_15 dX2_turnAround_77 ?_
      obtain ⟨y_16, e_y_16, hf⟩ := oL_elim hf
      refine z_top e_y_16 ?_
      refine lv_istore (lv' := [(5, .int y_16), (4, .int y_9), (3, .int y_2), (0, .ref a_this), (1, .int x1), (2, .int x2)]) hx hb dX2_turnAround_78 hl (z_lt rfl) rfl (fun ls hl => ?_)
      refine lv_aload_n hx hb dX2_turnAround_80 rfl (lv_at hl 3 rfl) ?_
      refine z_get E.1 hw in_wsX20 0 rfl rfl 3 (z_lt rfl) mw_19 (v := .ref a_roofs) rfl dX2_turnAround_81 ?_
      refine lv_iload_n hx hb dX2_turnAround_84 rfl (lv_at hl 4 rfl) ?_
      refine lv_aload_n hx hb dX2_turnAround_85 rfl (lv_at hl 3 rfl) ?_
      refine z_get E.1 hw in_wsX20 0 rfl rfl 3 (z_lt rfl) mw_19 (v := .ref a_roofs) rfl dX2_turnAround_86 ?_
      refine lv_iload_n hx hb dX2_turnAround_89 rfl (lv_at hl 5 rfl) ?_
      obtain ⟨h_17, hf⟩ := oA_elim hf
      refine z_zald E.1 hw 3 1 rfl rfl h_17 dX2_turnAround_90 ?_
      obtain ⟨h_18, hf⟩ := oA_elim hf
      obtain ⟨v_19, e_v_19, hf⟩ := oL_elim hf
      refine z_zast (ws' := [(a_this, .inr (2, [.int v_pitches, .ref a_rows, .ref a_rents, .ref a_roofs, .int v_traders, .ref a_trades, .ref a_fronts, .ref a_limits, .ref a_needy, .ref a_clashes, .int v_covers, .ref a_starts, .ref a_standing, .int v_coversBusy])), (a_rows, .inl (cI, 24, .inl v_7)), (a_rents, .inl (cI, 24, .inl v_14)), (a_roofs, .inl (cZ, 24, .inl v_19)), (a_fronts, .inl (cI, 8, .inl v_fronts)), (a_needy, .inl (cZ, 8, .inl v_needy)), (a_starts, .inl (cI, 8, .inl v_starts)), (a_standing, .inl (cI, 24, .inl v_standing))]) E.1 hw 3 1 rfl rfl h_18 (by subst e_v_19; rfl) dX2_turnAround_91 (fun H locs hw => ?_)
      refine lv_aload_n hx hb dX2_turnAround_92 rfl (lv_at hl 3 rfl) ?_
      refine z_get E.1 hw in_wsX20 0 rfl rfl 3 (z_lt rfl) mw_19 (v := .ref a_roofs) rfl dX2_turnAround_93 ?_
      refine lv_iload_n hx hb dX2_turnAround_96 rfl (lv_at hl 5 rfl) ?_
      refine lv_iload hx hb dX2_turnAround_97 (lv_at hl 0 rfl) ?_
      obtain ⟨h_20, hf⟩ := oA_elim hf
      obtain ⟨v_21, e_v_21, hf⟩ := oL_elim hf
      refine z_zast (ws' := [(a_this, .inr (2, [.int v_pitches, .ref a_rows, .ref a_rents, .ref a_roofs, .int v_traders, .ref a_trades, .ref a_fronts, .ref a_limits, .ref a_needy, .ref a_clashes, .int v_covers, .ref a_starts, .ref a_standing, .int v_coversBusy])), (a_rows, .inl (cI, 24, .inl v_7)), (a_rents, .inl (cI, 24, .inl v_14)), (a_roofs, .inl (cZ, 24, .inl v_21)), (a_fronts, .inl (cI, 8, .inl v_fronts)), (a_needy, .inl (cZ, 8, .inl v_needy)), (a_starts, .inl (cI, 8, .inl v_starts)), (a_standing, .inl (cI, 24, .inl v_standing))]) E.1 hw 3 1 rfl rfl h_20 (by subst e_v_21; rfl) dX2_turnAround_99 (fun H locs hw => ?_)
      refine lv_iinc (v := (x1 + (1 : Int32))) (lv' := [(1, .int (x1 + (1 : Int32))), (5, .int y_16), (4, .int y_9), (3, .int y_2), (0, .ref a_this), (2, .int x2)]) hx hb dX2_turnAround_100 hl (k := 4) rfl rfl (z_lt rfl) rfl (fun ls hl => ?_)
      refine lv_iinc (v := (x2 + (-1 : Int32))) (lv' := [(2, .int (x2 + (-1 : Int32))), (1, .int (x1 + (1 : Int32))), (5, .int y_16), (4, .int y_9), (3, .int y_2), (0, .ref a_this)]) hx hb dX2_turnAround_103 hl (k := 5) rfl rfl (z_lt rfl) rfl (fun ls hl => ?_)
      refine lv_goto (tgt := 13) hx hb dX2_turnAround_106 (by decide) ?_
      exact ih _ _ _ _ _ _ _ _ hf _ _ _ hw (lv_sub hl [5, 1, 0] rfl)
set_option maxHeartbeats 4000000 in
set_option maxRecDepth 100000 in
theorem c_X2_turnAround {l : Launch} {D : va_G} {cI cZ cM : ClassId} {a_this a_rows a_rents a_roofs a_trades a_fronts a_limits a_needy a_clashes a_starts a_standing : Nat} {v_covers : Int32} {res : (Nat → Int32) × (Nat → Int32) × (Nat → Int32) × (Nat → Int32) × (Nat → Int32) × Int32} {sz : Nat} {n : Nat} {v_pitches : Int32} {v_rows : Nat → Int32} {v_rents : Nat → Int32} {v_roofs : Nat → Int32} {v_traders : Int32} {v_fronts : Nat → Int32} {v_needy : Nat → Int32} {v_starts : Nat → Int32} {v_standing : Nat → Int32} {v_coversBusy : Int32} (hf : f_X2_turnAround n v_pitches v_rows v_rents v_roofs v_traders v_fronts v_needy v_starts v_standing v_coversBusy = some res) : Met l yX2_turnAround zwX2_turnAround rmX2_turnAround (zPc D (zT cI cZ cM) [.ref a_this] [(a_this, .inr (2, [.int v_pitches, .ref a_rows, .ref a_rents, .ref a_roofs, .int v_traders, .ref a_trades, .ref a_fronts, .ref a_limits, .ref a_needy, .ref a_clashes, .int v_covers, .ref a_starts, .ref a_standing, .int v_coversBusy])), (a_rows, .inl (cI, 24, .inl v_rows)), (a_rents, .inl (cI, 24, .inl v_rents)), (a_roofs, .inl (cZ, 24, .inl v_roofs)), (a_fronts, .inl (cI, 8, .inl v_fronts)), (a_needy, .inl (cZ, 8, .inl v_needy)), (a_starts, .inl (cI, 8, .inl v_starts)), (a_standing, .inl (cI, 24, .inl v_standing))] sz) (zQv D (zT cI cZ cM) [(a_this, .inr (2, [.int v_pitches, .ref a_rows, .ref a_rents, .ref a_roofs, .int v_traders, .ref a_trades, .ref a_fronts, .ref a_limits, .ref a_needy, .ref a_clashes, .int v_covers, .ref a_starts, .ref a_standing, .int res.2.2.2.2.2])), (a_rows, .inl (cI, 24, .inl res.1)), (a_rents, .inl (cI, 24, .inl res.2.1)), (a_roofs, .inl (cZ, 24, .inl res.2.2.1)), (a_fronts, .inl (cI, 8, .inl v_fronts)), (a_needy, .inl (cZ, 8, .inl v_needy)), (a_starts, .inl (cI, 8, .inl res.2.2.2.1)), (a_standing, .inl (cI, 24, .inl res.2.2.2.2.1))] (va_A [(a_this, .inr (2, [.int v_pitches, .ref a_rows, .ref a_rents, .ref a_roofs, .int v_traders, .ref a_trades, .ref a_fronts, .ref a_limits, .ref a_needy, .ref a_clashes, .int v_covers, .ref a_starts, .ref a_standing, .int v_coversBusy])), (a_rows, .inl (cI, 24, .inl v_rows)), (a_rents, .inl (cI, 24, .inl v_rents)), (a_roofs, .inl (cZ, 24, .inl v_roofs)), (a_fronts, .inl (cI, 8, .inl v_fronts)), (a_needy, .inl (cZ, 8, .inl v_needy)), (a_starts, .inl (cI, 8, .inl v_starts)), (a_standing, .inl (cI, 24, .inl v_standing))] sz)) 0 0 (va_A [(a_this, .inr (2, [.int v_pitches, .ref a_rows, .ref a_rents, .ref a_roofs, .int v_traders, .ref a_trades, .ref a_fronts, .ref a_limits, .ref a_needy, .ref a_clashes, .int v_covers, .ref a_starts, .ref a_standing, .int v_coversBusy])), (a_rows, .inl (cI, 24, .inl v_rows)), (a_rents, .inl (cI, 24, .inl v_rents)), (a_roofs, .inl (cZ, 24, .inl v_roofs)), (a_fronts, .inl (cI, 8, .inl v_fronts)), (a_needy, .inl (cZ, 8, .inl v_needy)), (a_starts, .inl (cI, 8, .inl v_starts)), (a_standing, .inl (cI, 24, .inl v_standing))] sz) := by
  refine z_met (cc := cX2_turnAround) (maxL := 6) (ret := none) (by decide) rfl (Nat.le_of_ble_eq_true rfl) ?_
  intro p e s m below meth c ls E hsz hw hl
  obtain ⟨⟨hx, hb, hml, hown, hts⟩, hr, hlocks⟩ := id E
  have hl : lv_has ls 6 [(0, .ref a_this)] := hl
  unfold f_X2_turnAround at hf
  refine lv_aload_n hx hb dX2_turnAround_0 rfl (lv_at hl 0 rfl) ?_
  obtain ⟨v_22, v_23, v_24, h_25, hf⟩ := oB3_elim hf
  refine z_callVv (ws' := [(a_this, .inr (2, [.int v_pitches, .ref a_rows, .ref a_rents, .ref a_roofs, .int v_traders, .ref a_trades, .ref a_fronts, .ref a_limits, .ref a_needy, .ref a_clashes, .int v_covers, .ref a_starts, .ref a_standing, .int v_24])), (a_rows, .inl (cI, 24, .inl v_rows)), (a_rents, .inl (cI, 24, .inl v_rents)), (a_roofs, .inl (cZ, 24, .inl v_roofs)), (a_fronts, .inl (cI, 8, .inl v_fronts)), (a_needy, .inl (cZ, 8, .inl v_needy)), (a_starts, .inl (cI, 8, .inl v_22)), (a_standing, .inl (cI, 24, .inl v_23))]) (wr := [(a_rows, .inl (cI, 24, .inl v_rows)), (a_rents, .inl (cI, 24, .inl v_rents))]) (As := []) (rest := []) E.1 hl hw (c_X2_unseatAll h_25) (cwV 0 hts (z_gV mw_168 mw_169 mw_170 mw_9 mw_171) rfl rfl rfl (by decide +kernel) ⟨(Nat.le_of_ble_eq_true rfl), (Nat.le_of_ble_eq_true rfl)⟩) 8 [(0, 1), (3, 5)] [(1, 2)] rfl rfl rfl rfl rfl rfl (by decide +kernel) rfl (q0 := 0) rfl rfl rfl (Nat.le_of_ble_eq_true rfl) dX2_turnAround_1 ⟨Nat.le_of_ble_eq_true rfl, Nat.le_of_ble_eq_true rfl⟩ (fun H locs hw => ?_)
  refine lv_iconst (v := 0) hx hb dX2_turnAround_4 (by decide) ?_
  refine lv_istore_n (lv' := [(1, .int (0 : Int32)), (0, .ref a_this)]) hx hb dX2_turnAround_5 rfl hl (z_lt rfl) rfl (fun ls hl => ?_)
  refine lv_aload_n hx hb dX2_turnAround_6 rfl (lv_at hl 1 rfl) ?_
  refine z_get E.1 hw in_wsX20 0 rfl rfl 0 (z_lt rfl) mw_14 (v := .int v_pitches) rfl dX2_turnAround_7 ?_
  refine lv_iconst (v := 1) hx hb dX2_turnAround_10 (by decide) ?_
  refine lv_isub hx hb dX2_turnAround_11 ?_
  obtain ⟨y_26, e_y_26, hf⟩ := oL_elim hf
  refine z_top e_y_26 ?_
  refine lv_istore_n (lv' := [(2, .int y_26), (1, .int (0 : Int32)), (0, .ref a_this)]) hx hb dX2_turnAround_12 rfl hl (z_lt rfl) rfl (fun ls hl => ?_)
  exact w_X2_turnAround_13 E  n _ _ _ _ _ _ _ _ hf _ _ _ hw (lv_sub hl [2, 1, 0] rfl)
end
/-! X2_wipe -/
section
variable {p : Program} {l : Launch} {e : Env} {s : State} {m : MethodId} {args : Array Value} {below : List Frame} {meth : Method} {c : Code} {D : va_G} {A : Nat → Prop} {cI cZ cM : ClassId} {a_this a_rows a_rents a_roofs a_trades a_fronts a_limits a_needy a_clashes a_starts a_standing : Nat} {res : Int32 × Int32 × (Nat → Int32) × Int32 × (Nat → Int32) × (Nat → Int32) × Int32}
def rmX2_wipe : Room := { frames := 4, cells := 0, slots := 0, locals := 90 }
abbrev zwX2_wipe : List Cond := Cond.code yX2_wipe cX2_wipe 2 none :: wsAll
set_option maxHeartbeats 4000000 in
set_option maxRecDepth 100000 in
theorem w_X2_wipe_21 {n : Nat} {v_roofs : Nat → Int32} {v_fronts : Nat → Int32} {v_needy : Nat → Int32} (E : zE p s m args meth c cX2_wipe 2 none zwX2_wipe RX2) : ∀ (fu : Nat), ∀ (x1 : Int32) (v_pitches : Int32) (v_traders : Int32) (v_clashes : Nat → Int32) (v_covers : Int32) (v_starts : Nat → Int32) (v_standing : Nat → Int32) (v_coversBusy : Int32), f_X2_wipe_21 n fu x1 v_pitches v_traders v_clashes v_covers v_starts v_standing v_coversBusy = some res → ∀ (H : Heap) (locs : List Loc) (ls : Array Slot), zW D (zT cI cZ cM) A s [(a_this, .inr (2, [.int v_pitches, .ref a_rows, .ref a_rents, .ref a_roofs, .int v_traders, .ref a_trades, .ref a_fronts, .ref a_limits, .ref a_needy, .ref a_clashes, .int v_covers, .ref a_starts, .ref a_standing, .int v_coversBusy])), (a_roofs, .inl (cZ, 24, .inl v_roofs)), (a_fronts, .inl (cI, 8, .inl v_fronts)), (a_needy, .inl (cZ, 8, .inl v_needy)), (a_clashes, .inl (cI, 8, .inl v_clashes)), (a_starts, .inl (cI, 8, .inl v_starts)), (a_standing, .inl (cI, 24, .inl v_standing))] H locs → lv_has ls 2 [(0, .ref a_this), (1, .int x1)] → W p l e rmX2_wipe s m args below meth c H locs 0 0 (MQ below (zQv D (zT cI cZ cM) [(a_this, .inr (2, [.int res.1, .ref a_rows, .ref a_rents, .ref a_roofs, .int res.2.1, .ref a_trades, .ref a_fronts, .ref a_limits, .ref a_needy, .ref a_clashes, .int res.2.2.2.1, .ref a_starts, .ref a_standing, .int res.2.2.2.2.2.2])), (a_roofs, .inl (cZ, 24, .inl v_roofs)), (a_fronts, .inl (cI, 8, .inl v_fronts)), (a_needy, .inl (cZ, 8, .inl v_needy)), (a_clashes, .inl (cI, 8, .inl res.2.2.1)), (a_starts, .inl (cI, 8, .inl res.2.2.2.2.1)), (a_standing, .inl (cI, 24, .inl res.2.2.2.2.2.1))] A) args s 0 0 A) (F0 m 21 ls []) := by
  obtain ⟨⟨hx, hb, hml, hown, hts⟩, hr, hlocks⟩ := id E
  intro fu
  induction fu with
  | zero => intro x1 v_pitches v_traders v_clashes v_covers v_starts v_standing v_coversBusy hf; rw [f_X2_wipe_21.eq_1] at hf; cases hf
  | succ fu ih =>
    intro x1 v_pitches v_traders v_clashes v_covers v_starts v_standing v_coversBusy hf H locs ls hw hl
    rw [f_X2_wipe_21.eq_2] at hf
    refine lv_iload_n hx hb dX2_wipe_21 rfl (lv_at hl 1 rfl) ?_
    refine lv_bipush (v := 8) hx hb dX2_wipe_22 (by decide) ?_
    refine lv_icmp_ge (tgt := 40) hx hb dX2_wipe_24 (by decide) (fun hc => ?_) (fun hc => ?_)
    · have hf := oI_pos hc hf
      cases hf
      exact z_vret E rfl hw dX2_wipe_40
    · have hf := oI_neg hc hf
      refine lv_aload_n hx hb dX2_wipe_27 rfl (lv_at hl 0 rfl) ?_
      refine z_get E.1 hw in_wsX20 0 rfl rfl 9 (z_lt rfl) mw_25 (v := .ref a_clashes) rfl dX2_wipe_28 ?_
      refine lv_iload_n hx hb dX2_wipe_31 rfl (lv_at hl 1 rfl) ?_
      refine lv_iconst (v := 0) hx hb dX2_wipe_32 (by decide) ?_
      obtain ⟨h_1, hf⟩ := oA_elim hf
      obtain ⟨v_2, e_v_2, hf⟩ := oL_elim hf
      refine z_iast (ws' := [(a_this, .inr (2, [.int v_pitches, .ref a_rows, .ref a_rents, .ref a_roofs, .int v_traders, .ref a_trades, .ref a_fronts, .ref a_limits, .ref a_needy, .ref a_clashes, .int v_covers, .ref a_starts, .ref a_standing, .int v_coversBusy])), (a_roofs, .inl (cZ, 24, .inl v_roofs)), (a_fronts, .inl (cI, 8, .inl v_fronts)), (a_needy, .inl (cZ, 8, .inl v_needy)), (a_clashes, .inl (cI, 8, .inl v_2)), (a_starts, .inl (cI, 8, .inl v_starts)), (a_standing, .inl (cI, 24, .inl v_standing))]) E.1 hw 4 0 rfl rfl h_1 (by subst e_v_2; rfl) dX2_wipe_33 (fun H locs hw => ?_)
      refine lv_iinc (v := (x1 + (1 : Int32))) (lv' := [(1, .int (x1 + (1 : Int32))), (0, .ref a_this)]) hx hb dX2_wipe_34 hl (k := 1) rfl rfl (z_lt rfl) rfl (fun ls hl => ?_)
      refine lv_goto (tgt := 21) hx hb dX2_wipe_37 (by decide) ?_
      exact ih _ _ _ _ _ _ _ _ hf _ _ _ hw (lv_sub hl [1, 0] rfl)
set_option maxHeartbeats 4000000 in
set_option maxRecDepth 100000 in
theorem c_X2_wipe {l : Launch} {D : va_G} {cI cZ cM : ClassId} {a_this a_rows a_rents a_roofs a_trades a_fronts a_limits a_needy a_clashes a_starts a_standing : Nat} {res : Int32 × Int32 × (Nat → Int32) × Int32 × (Nat → Int32) × (Nat → Int32) × Int32} {sz : Nat} {n : Nat} {v_pitches : Int32} {v_roofs : Nat → Int32} {v_traders : Int32} {v_fronts : Nat → Int32} {v_needy : Nat → Int32} {v_clashes : Nat → Int32} {v_covers : Int32} {v_starts : Nat → Int32} {v_standing : Nat → Int32} {v_coversBusy : Int32} (hf : f_X2_wipe n v_pitches v_roofs v_traders v_fronts v_needy v_clashes v_covers v_starts v_standing v_coversBusy = some res) : Met l yX2_wipe zwX2_wipe rmX2_wipe (zPc D (zT cI cZ cM) [.ref a_this] [(a_this, .inr (2, [.int v_pitches, .ref a_rows, .ref a_rents, .ref a_roofs, .int v_traders, .ref a_trades, .ref a_fronts, .ref a_limits, .ref a_needy, .ref a_clashes, .int v_covers, .ref a_starts, .ref a_standing, .int v_coversBusy])), (a_roofs, .inl (cZ, 24, .inl v_roofs)), (a_fronts, .inl (cI, 8, .inl v_fronts)), (a_needy, .inl (cZ, 8, .inl v_needy)), (a_clashes, .inl (cI, 8, .inl v_clashes)), (a_starts, .inl (cI, 8, .inl v_starts)), (a_standing, .inl (cI, 24, .inl v_standing))] sz) (zQv D (zT cI cZ cM) [(a_this, .inr (2, [.int res.1, .ref a_rows, .ref a_rents, .ref a_roofs, .int res.2.1, .ref a_trades, .ref a_fronts, .ref a_limits, .ref a_needy, .ref a_clashes, .int res.2.2.2.1, .ref a_starts, .ref a_standing, .int res.2.2.2.2.2.2])), (a_roofs, .inl (cZ, 24, .inl v_roofs)), (a_fronts, .inl (cI, 8, .inl v_fronts)), (a_needy, .inl (cZ, 8, .inl v_needy)), (a_clashes, .inl (cI, 8, .inl res.2.2.1)), (a_starts, .inl (cI, 8, .inl res.2.2.2.2.1)), (a_standing, .inl (cI, 24, .inl res.2.2.2.2.2.1))] (va_A [(a_this, .inr (2, [.int v_pitches, .ref a_rows, .ref a_rents, .ref a_roofs, .int v_traders, .ref a_trades, .ref a_fronts, .ref a_limits, .ref a_needy, .ref a_clashes, .int v_covers, .ref a_starts, .ref a_standing, .int v_coversBusy])), (a_roofs, .inl (cZ, 24, .inl v_roofs)), (a_fronts, .inl (cI, 8, .inl v_fronts)), (a_needy, .inl (cZ, 8, .inl v_needy)), (a_clashes, .inl (cI, 8, .inl v_clashes)), (a_starts, .inl (cI, 8, .inl v_starts)), (a_standing, .inl (cI, 24, .inl v_standing))] sz)) 0 0 (va_A [(a_this, .inr (2, [.int v_pitches, .ref a_rows, .ref a_rents, .ref a_roofs, .int v_traders, .ref a_trades, .ref a_fronts, .ref a_limits, .ref a_needy, .ref a_clashes, .int v_covers, .ref a_starts, .ref a_standing, .int v_coversBusy])), (a_roofs, .inl (cZ, 24, .inl v_roofs)), (a_fronts, .inl (cI, 8, .inl v_fronts)), (a_needy, .inl (cZ, 8, .inl v_needy)), (a_clashes, .inl (cI, 8, .inl v_clashes)), (a_starts, .inl (cI, 8, .inl v_starts)), (a_standing, .inl (cI, 24, .inl v_standing))] sz) := by
  refine z_met (cc := cX2_wipe) (maxL := 2) (ret := none) (by decide) rfl (Nat.le_of_ble_eq_true rfl) ?_
  intro p e s m below meth c ls E hsz hw hl
  obtain ⟨⟨hx, hb, hml, hown, hts⟩, hr, hlocks⟩ := id E
  have hl : lv_has ls 2 [(0, .ref a_this)] := hl
  unfold f_X2_wipe at hf
  refine lv_aload_n hx hb dX2_wipe_0 rfl (lv_at hl 0 rfl) ?_
  obtain ⟨v_3, v_4, v_5, h_6, hf⟩ := oB3_elim hf
  refine z_callVv (ws' := [(a_this, .inr (2, [.int v_pitches, .ref a_rows, .ref a_rents, .ref a_roofs, .int v_traders, .ref a_trades, .ref a_fronts, .ref a_limits, .ref a_needy, .ref a_clashes, .int v_covers, .ref a_starts, .ref a_standing, .int v_5])), (a_roofs, .inl (cZ, 24, .inl v_roofs)), (a_fronts, .inl (cI, 8, .inl v_fronts)), (a_needy, .inl (cZ, 8, .inl v_needy)), (a_clashes, .inl (cI, 8, .inl v_clashes)), (a_starts, .inl (cI, 8, .inl v_3)), (a_standing, .inl (cI, 24, .inl v_4))]) (wr := [(a_clashes, .inl (cI, 8, .inl v_clashes))]) (As := []) (rest := []) E.1 hl hw (c_X2_unseatAll h_6) (cwV 0 hts (z_gV mw_168 mw_169 mw_170 mw_9 mw_171) rfl rfl rfl (by decide +kernel) ⟨(Nat.le_of_ble_eq_true rfl), (Nat.le_of_ble_eq_true rfl)⟩) 7 [(0, 4), (5, 2)] [(4, 1)] rfl rfl rfl rfl rfl rfl (by decide +kernel) rfl (q0 := 0) rfl rfl rfl (Nat.le_of_ble_eq_true rfl) dX2_wipe_1 ⟨Nat.le_of_ble_eq_true rfl, Nat.le_of_ble_eq_true rfl⟩ (fun H locs hw => ?_)
  refine lv_aload_n hx hb dX2_wipe_4 rfl (lv_at hl 0 rfl) ?_
  refine lv_iconst (v := 0) hx hb dX2_wipe_5 (by decide) ?_
  refine z_put (ws' := [(a_this, .inr (2, [.int (0 : Int32), .ref a_rows, .ref a_rents, .ref a_roofs, .int v_traders, .ref a_trades, .ref a_fronts, .ref a_limits, .ref a_needy, .ref a_clashes, .int v_covers, .ref a_starts, .ref a_standing, .int v_5])), (a_roofs, .inl (cZ, 24, .inl v_roofs)), (a_fronts, .inl (cI, 8, .inl v_fronts)), (a_needy, .inl (cZ, 8, .inl v_needy)), (a_clashes, .inl (cI, 8, .inl v_clashes)), (a_starts, .inl (cI, 8, .inl v_3)), (a_standing, .inl (cI, 24, .inl v_4))]) E.1 hw in_wsX20 tyX2 tyX2_ok nmX2 0 rfl rfl 0 (z_lt rfl) mw_14 rfl rfl rfl (z_lt rfl) rfl dX2_wipe_6 (fun H locs hw => ?_)
  refine lv_aload_n hx hb dX2_wipe_9 rfl (lv_at hl 0 rfl) ?_
  refine lv_iconst (v := 0) hx hb dX2_wipe_10 (by decide) ?_
  refine z_put (ws' := [(a_this, .inr (2, [.int (0 : Int32), .ref a_rows, .ref a_rents, .ref a_roofs, .int (0 : Int32), .ref a_trades, .ref a_fronts, .ref a_limits, .ref a_needy, .ref a_clashes, .int v_covers, .ref a_starts, .ref a_standing, .int v_5])), (a_roofs, .inl (cZ, 24, .inl v_roofs)), (a_fronts, .inl (cI, 8, .inl v_fronts)), (a_needy, .inl (cZ, 8, .inl v_needy)), (a_clashes, .inl (cI, 8, .inl v_clashes)), (a_starts, .inl (cI, 8, .inl v_3)), (a_standing, .inl (cI, 24, .inl v_4))]) E.1 hw in_wsX20 tyX2 tyX2_ok nmX2 0 rfl rfl 4 (z_lt rfl) mw_20 rfl rfl rfl (z_lt rfl) rfl dX2_wipe_11 (fun H locs hw => ?_)
  refine lv_aload_n hx hb dX2_wipe_14 rfl (lv_at hl 0 rfl) ?_
  refine lv_iconst (v := 0) hx hb dX2_wipe_15 (by decide) ?_
  refine z_put (ws' := [(a_this, .inr (2, [.int (0 : Int32), .ref a_rows, .ref a_rents, .ref a_roofs, .int (0 : Int32), .ref a_trades, .ref a_fronts, .ref a_limits, .ref a_needy, .ref a_clashes, .int (0 : Int32), .ref a_starts, .ref a_standing, .int v_5])), (a_roofs, .inl (cZ, 24, .inl v_roofs)), (a_fronts, .inl (cI, 8, .inl v_fronts)), (a_needy, .inl (cZ, 8, .inl v_needy)), (a_clashes, .inl (cI, 8, .inl v_clashes)), (a_starts, .inl (cI, 8, .inl v_3)), (a_standing, .inl (cI, 24, .inl v_4))]) E.1 hw in_wsX20 tyX2 tyX2_ok nmX2 0 rfl rfl 10 (z_lt rfl) mw_26 rfl rfl rfl (z_lt rfl) rfl dX2_wipe_16 (fun H locs hw => ?_)
  refine lv_iconst (v := 0) hx hb dX2_wipe_19 (by decide) ?_
  refine lv_istore_n (lv' := [(1, .int (0 : Int32)), (0, .ref a_this)]) hx hb dX2_wipe_20 rfl hl (z_lt rfl) rfl (fun ls hl => ?_)
  exact w_X2_wipe_21 E  n _ _ _ _ _ _ _ _ hf _ _ _ hw (lv_sub hl [1, 0] rfl)
end
/-! X3_canCome -/
section
variable {p : Program} {l : Launch} {e : Env} {s : State} {m : MethodId} {args : Array Value} {below : List Frame} {meth : Method} {c : Code} {D : va_G} {A : Nat → Prop} {cI cZ cM : ClassId} {a_this a_street a_table a_worths a_needs a_kindsBehind a_kindOf a_barred : Nat} {v_sets : Int32} {v_kinds : Int32} {v_levels : Int32} {res : Int32}
def rmX3_canCome : Room := { frames := 0, cells := 0, slots := 0, locals := 0 }
abbrev zwX3_canCome : List Cond := Cond.code yX3_canCome cX3_canCome 4 (some .boolean) :: wsAll
set_option maxHeartbeats 4000000 in
set_option maxRecDepth 100000 in
theorem c_X3_canCome {l : Launch} {D : va_G} {cI cZ cM : ClassId} {a_this a_street a_table a_worths a_needs a_kindsBehind a_kindOf a_barred : Nat} {v_sets : Int32} {v_kinds : Int32} {v_levels : Int32} {res : Int32} {sz : Nat} {v_worths : Nat → Int32} {x1 : Int32} {x2 : Int32} {x3 : Int32} (hf : f_X3_canCome v_worths x1 x2 x3 = some res) : Met l yX3_canCome zwX3_canCome rmX3_canCome (zPc D (zT cI cZ cM) [.ref a_this, .int x1, .int x2, .int x3] [(a_this, .inr (3, [.ref a_street, .ref a_table, .int v_sets, .int v_kinds, .int v_levels, .ref a_worths, .ref a_needs, .ref a_kindsBehind, .ref a_kindOf, .ref a_barred])), (a_worths, .inl (cI, 192, .inl v_worths))] sz) (zQi D (zT cI cZ cM) res [(a_this, .inr (3, [.ref a_street, .ref a_table, .int v_sets, .int v_kinds, .int v_levels, .ref a_worths, .ref a_needs, .ref a_kindsBehind, .ref a_kindOf, .ref a_barred])), (a_worths, .inl (cI, 192, .inl v_worths))] (va_A [(a_this, .inr (3, [.ref a_street, .ref a_table, .int v_sets, .int v_kinds, .int v_levels, .ref a_worths, .ref a_needs, .ref a_kindsBehind, .ref a_kindOf, .ref a_barred])), (a_worths, .inl (cI, 192, .inl v_worths))] sz)) 0 0 (va_A [(a_this, .inr (3, [.ref a_street, .ref a_table, .int v_sets, .int v_kinds, .int v_levels, .ref a_worths, .ref a_needs, .ref a_kindsBehind, .ref a_kindOf, .ref a_barred])), (a_worths, .inl (cI, 192, .inl v_worths))] sz) := by
  refine z_met (cc := cX3_canCome) (maxL := 4) (ret := (some .boolean)) (by decide) rfl (Nat.le_of_ble_eq_true rfl) ?_
  intro p e s m below meth c ls E hsz hw hl
  obtain ⟨⟨hx, hb, hml, hown, hts⟩, hr, hlocks⟩ := id E
  have hl : lv_has ls 4 [(0, .ref a_this), (1, .int x1), (2, .int x2), (3, .int x3)] := hl
  unfold f_X3_canCome at hf
  refine lv_iload_n hx hb dX3_canCome_0 rfl (lv_at hl 3 rfl) ?_
  refine lv_iload_n hx hb dX3_canCome_1 rfl (lv_at hl 1 rfl) ?_
  refine lv_ishr hx hb dX3_canCome_2 ?_
  refine lv_iconst (v := 1) hx hb dX3_canCome_3 (by decide) ?_
  refine lv_iand hx hb dX3_canCome_4 ?_
  refine lv_if_ne (tgt := 26) hx hb dX3_canCome_5 (by decide) (fun hc => ?_) (fun hc => ?_)
  · have hf := oI_neg hc hf
    refine lv_iconst (v := 0) hx hb dX3_canCome_26 (by decide) ?_
    cases hf
    exact z_zret E rfl z_n0 hw dX3_canCome_27
  · have hf := oI_pos hc hf
    refine lv_aload_n hx hb dX3_canCome_8 rfl (lv_at hl 0 rfl) ?_
    refine z_get E.1 hw in_wsX30 0 rfl rfl 5 (z_lt rfl) mw_175 (v := .ref a_worths) rfl dX3_canCome_9 ?_
    refine lv_iload_n hx hb dX3_canCome_12 rfl (lv_at hl 1 rfl) ?_
    refine lv_bipush (v := 24) hx hb dX3_canCome_13 (by decide) ?_
    refine lv_imul hx hb dX3_canCome_15 ?_
    refine lv_iload_n hx hb dX3_canCome_16 rfl (lv_at hl 2 rfl) ?_
    refine lv_iadd hx hb dX3_canCome_17 ?_
    obtain ⟨h_1, hf⟩ := oA_elim hf
    refine z_iald E.1 hw 1 0 rfl rfl h_1 dX3_canCome_18 ?_
    refine lv_if_le (tgt := 26) hx hb dX3_canCome_19 (by decide) (fun hc => ?_) (fun hc => ?_)
    · have hf := oI_pos hc hf
      refine lv_iconst (v := 0) hx hb dX3_canCome_26 (by decide) ?_
      cases hf
      exact z_zret E rfl z_n0 hw dX3_canCome_27
    · have hf := oI_neg hc hf
      refine lv_iconst (v := 1) hx hb dX3_canCome_22 (by decide) ?_
      refine lv_goto (tgt := 27) hx hb dX3_canCome_23 (by decide) ?_
      cases hf
      exact z_zret E rfl z_n1 hw dX3_canCome_27
end
/-! X3_cell -/
section
variable {p : Program} {l : Launch} {e : Env} {s : State} {m : MethodId} {args : Array Value} {below : List Frame} {meth : Method} {c : Code} {D : va_G} {A : Nat → Prop} {cI cZ cM : ClassId} {a_this a_street a_table a_worths a_needs a_kindsBehind a_kindOf a_barred : Nat} {res : Int32}
def rmX3_cell : Room := { frames := 0, cells := 0, slots := 0, locals := 0 }
abbrev zwX3_cell : List Cond := Cond.code yX3_cell cX3_cell 4 (some .int) :: wsAll
set_option maxHeartbeats 4000000 in
set_option maxRecDepth 100000 in
theorem c_X3_cell {l : Launch} {D : va_G} {cI cZ cM : ClassId} {a_this a_street a_table a_worths a_needs a_kindsBehind a_kindOf a_barred : Nat} {res : Int32} {sz : Nat} {v_sets : Int32} {v_kinds : Int32} {v_levels : Int32} {x1 : Int32} {x2 : Int32} {x3 : Int32} (hf : f_X3_cell v_sets v_kinds v_levels x1 x2 x3 = some res) : Met l yX3_cell zwX3_cell rmX3_cell (zPc D (zT cI cZ cM) [.ref a_this, .int x1, .int x2, .int x3] [(a_this, .inr (3, [.ref a_street, .ref a_table, .int v_sets, .int v_kinds, .int v_levels, .ref a_worths, .ref a_needs, .ref a_kindsBehind, .ref a_kindOf, .ref a_barred]))] sz) (zQi D (zT cI cZ cM) res [(a_this, .inr (3, [.ref a_street, .ref a_table, .int v_sets, .int v_kinds, .int v_levels, .ref a_worths, .ref a_needs, .ref a_kindsBehind, .ref a_kindOf, .ref a_barred]))] (va_A [(a_this, .inr (3, [.ref a_street, .ref a_table, .int v_sets, .int v_kinds, .int v_levels, .ref a_worths, .ref a_needs, .ref a_kindsBehind, .ref a_kindOf, .ref a_barred]))] sz)) 0 0 (va_A [(a_this, .inr (3, [.ref a_street, .ref a_table, .int v_sets, .int v_kinds, .int v_levels, .ref a_worths, .ref a_needs, .ref a_kindsBehind, .ref a_kindOf, .ref a_barred]))] sz) := by
  refine z_met (cc := cX3_cell) (maxL := 4) (ret := (some .int)) (by decide) rfl (Nat.le_of_ble_eq_true rfl) ?_
  intro p e s m below meth c ls E hsz hw hl
  obtain ⟨⟨hx, hb, hml, hown, hts⟩, hr, hlocks⟩ := id E
  have hl : lv_has ls 4 [(0, .ref a_this), (1, .int x1), (2, .int x2), (3, .int x3)] := hl
  unfold f_X3_cell at hf
  refine lv_iload_n hx hb dX3_cell_0 rfl (lv_at hl 1 rfl) ?_
  refine lv_aload_n hx hb dX3_cell_1 rfl (lv_at hl 0 rfl) ?_
  refine z_get E.1 hw in_wsX30 0 rfl rfl 2 (z_lt rfl) mw_177 (v := .int v_sets) rfl dX3_cell_2 ?_
  refine lv_imul hx hb dX3_cell_5 ?_
  refine lv_iload_n hx hb dX3_cell_6 rfl (lv_at hl 2 rfl) ?_
  refine lv_iadd hx hb dX3_cell_7 ?_
  refine lv_aload_n hx hb dX3_cell_8 rfl (lv_at hl 0 rfl) ?_
  refine z_get E.1 hw in_wsX30 0 rfl rfl 3 (z_lt rfl) mw_178 (v := .int v_kinds) rfl dX3_cell_9 ?_
  refine lv_imul hx hb dX3_cell_12 ?_
  refine lv_iload_n hx hb dX3_cell_13 rfl (lv_at hl 3 rfl) ?_
  refine lv_iadd hx hb dX3_cell_14 ?_
  refine lv_aload_n hx hb dX3_cell_15 rfl (lv_at hl 0 rfl) ?_
  refine z_get E.1 hw in_wsX30 0 rfl rfl 4 (z_lt rfl) mw_179 (v := .int v_levels) rfl dX3_cell_16 ?_
  refine lv_imul hx hb dX3_cell_19 ?_
  cases hf
  exact z_iret E rfl hw dX3_cell_20
end
/-! X3_cellAfter -/
section
variable {p : Program} {l : Launch} {e : Env} {s : State} {m : MethodId} {args : Array Value} {below : List Frame} {meth : Method} {c : Code} {D : va_G} {A : Nat → Prop} {cI cZ cM : ClassId} {a_this a_street a_table a_worths a_needs a_kindsBehind a_kindOf a_barred a_street_rows a_street_rents a_street_roofs a_street_trades a_street_fronts a_street_limits a_street_needy a_street_clashes a_street_starts a_street_standing : Nat} {v_street_pitches : Int32} {v_street_traders : Int32} {v_street_covers : Int32} {v_street_coversBusy : Int32} {res : Int32}
def rmX3_cellAfter : Room := { frames := 1, cells := 0, slots := 0, locals := 23 }
abbrev zwX3_cellAfter : List Cond := Cond.code yX3_cellAfter cX3_cellAfter 5 (some .int) :: wsAll
set_option maxHeartbeats 4000000 in
set_option maxRecDepth 100000 in
theorem c_X3_cellAfter {l : Launch} {D : va_G} {cI cZ cM : ClassId} {a_this a_street a_table a_worths a_needs a_kindsBehind a_kindOf a_barred a_street_rows a_street_rents a_street_roofs a_street_trades a_street_fronts a_street_limits a_street_needy a_street_clashes a_street_starts a_street_standing : Nat} {v_street_pitches : Int32} {v_street_traders : Int32} {v_street_covers : Int32} {v_street_coversBusy : Int32} {res : Int32} {sz : Nat} {v_street_fronts : Nat → Int32} {v_sets : Int32} {v_kinds : Int32} {v_levels : Int32} {v_kindsBehind : Nat → Int32} {x1 : Int32} {x2 : Int32} {x3 : Int32} (hf : f_X3_cellAfter v_street_fronts v_sets v_kinds v_levels v_kindsBehind x1 x2 x3 = some res) : Met l yX3_cellAfter zwX3_cellAfter rmX3_cellAfter (zPc D (zT cI cZ cM) [.ref a_this, .int x1, .int x2, .int x3] [(a_this, .inr (3, [.ref a_street, .ref a_table, .int v_sets, .int v_kinds, .int v_levels, .ref a_worths, .ref a_needs, .ref a_kindsBehind, .ref a_kindOf, .ref a_barred])), (a_street, .inr (2, [.int v_street_pitches, .ref a_street_rows, .ref a_street_rents, .ref a_street_roofs, .int v_street_traders, .ref a_street_trades, .ref a_street_fronts, .ref a_street_limits, .ref a_street_needy, .ref a_street_clashes, .int v_street_covers, .ref a_street_starts, .ref a_street_standing, .int v_street_coversBusy])), (a_street_fronts, .inl (cI, 8, .inl v_street_fronts)), (a_kindsBehind, .inl (cI, 192, .inl v_kindsBehind))] sz) (zQi D (zT cI cZ cM) res [(a_this, .inr (3, [.ref a_street, .ref a_table, .int v_sets, .int v_kinds, .int v_levels, .ref a_worths, .ref a_needs, .ref a_kindsBehind, .ref a_kindOf, .ref a_barred])), (a_street, .inr (2, [.int v_street_pitches, .ref a_street_rows, .ref a_street_rents, .ref a_street_roofs, .int v_street_traders, .ref a_street_trades, .ref a_street_fronts, .ref a_street_limits, .ref a_street_needy, .ref a_street_clashes, .int v_street_covers, .ref a_street_starts, .ref a_street_standing, .int v_street_coversBusy])), (a_street_fronts, .inl (cI, 8, .inl v_street_fronts)), (a_kindsBehind, .inl (cI, 192, .inl v_kindsBehind))] (va_A [(a_this, .inr (3, [.ref a_street, .ref a_table, .int v_sets, .int v_kinds, .int v_levels, .ref a_worths, .ref a_needs, .ref a_kindsBehind, .ref a_kindOf, .ref a_barred])), (a_street, .inr (2, [.int v_street_pitches, .ref a_street_rows, .ref a_street_rents, .ref a_street_roofs, .int v_street_traders, .ref a_street_trades, .ref a_street_fronts, .ref a_street_limits, .ref a_street_needy, .ref a_street_clashes, .int v_street_covers, .ref a_street_starts, .ref a_street_standing, .int v_street_coversBusy])), (a_street_fronts, .inl (cI, 8, .inl v_street_fronts)), (a_kindsBehind, .inl (cI, 192, .inl v_kindsBehind))] sz)) 0 0 (va_A [(a_this, .inr (3, [.ref a_street, .ref a_table, .int v_sets, .int v_kinds, .int v_levels, .ref a_worths, .ref a_needs, .ref a_kindsBehind, .ref a_kindOf, .ref a_barred])), (a_street, .inr (2, [.int v_street_pitches, .ref a_street_rows, .ref a_street_rents, .ref a_street_roofs, .int v_street_traders, .ref a_street_trades, .ref a_street_fronts, .ref a_street_limits, .ref a_street_needy, .ref a_street_clashes, .int v_street_covers, .ref a_street_starts, .ref a_street_standing, .int v_street_coversBusy])), (a_street_fronts, .inl (cI, 8, .inl v_street_fronts)), (a_kindsBehind, .inl (cI, 192, .inl v_kindsBehind))] sz) := by
  refine z_met (cc := cX3_cellAfter) (maxL := 5) (ret := (some .int)) (by decide) rfl (Nat.le_of_ble_eq_true rfl) ?_
  intro p e s m below meth c ls E hsz hw hl
  obtain ⟨⟨hx, hb, hml, hown, hts⟩, hr, hlocks⟩ := id E
  have hl : lv_has ls 5 [(0, .ref a_this), (1, .int x1), (2, .int x2), (3, .int x3)] := hl
  unfold f_X3_cellAfter at hf
  refine lv_aload_n hx hb dX3_cellAfter_0 rfl (lv_at hl 0 rfl) ?_
  refine z_get E.1 hw in_wsX30 0 rfl rfl 7 (z_lt rfl) mw_181 (v := .ref a_kindsBehind) rfl dX3_cellAfter_1 ?_
  refine lv_iload_n hx hb dX3_cellAfter_4 rfl (lv_at hl 1 rfl) ?_
  refine lv_bipush (v := 24) hx hb dX3_cellAfter_5 (by decide) ?_
  refine lv_imul hx hb dX3_cellAfter_7 ?_
  refine lv_iload_n hx hb dX3_cellAfter_8 rfl (lv_at hl 2 rfl) ?_
  refine lv_iadd hx hb dX3_cellAfter_9 ?_
  obtain ⟨h_1, hf⟩ := oA_elim hf
  refine z_iald E.1 hw 3 0 rfl rfl h_1 dX3_cellAfter_10 ?_
  obtain ⟨y_2, e_y_2, hf⟩ := oL_elim hf
  refine z_top e_y_2 ?_
  refine lv_istore (lv' := [(4, .int y_2), (0, .ref a_this), (1, .int x1), (2, .int x2), (3, .int x3)]) hx hb dX3_cellAfter_11 hl (z_lt rfl) rfl (fun ls hl => ?_)
  refine lv_aload_n hx hb dX3_cellAfter_13 rfl (lv_at hl 1 rfl) ?_
  refine lv_iload_n hx hb dX3_cellAfter_14 rfl (lv_at hl 3 rfl) ?_
  refine lv_aload_n hx hb dX3_cellAfter_15 rfl (lv_at hl 1 rfl) ?_
  refine z_get E.1 hw in_wsX30 0 rfl rfl 0 (z_lt rfl) mw_182 (v := .ref a_street) rfl dX3_cellAfter_16 ?_
  refine z_get E.1 hw in_wsX20 1 rfl rfl 6 (z_lt rfl) mw_183 (v := .ref a_street_fronts) rfl dX3_cellAfter_19 ?_
  refine lv_iload_n hx hb dX3_cellAfter_22 rfl (lv_at hl 2 rfl) ?_
  obtain ⟨h_3, hf⟩ := oA_elim hf
  refine z_iald E.1 hw 2 0 rfl rfl h_3 dX3_cellAfter_23 ?_
  refine lv_iadd hx hb dX3_cellAfter_24 ?_
  refine lv_iload_n hx hb dX3_cellAfter_25 rfl (lv_at hl 4 rfl) ?_
  refine lv_iconst (v := 1) hx hb dX3_cellAfter_26 (by decide) ?_
  refine lv_iload_n hx hb dX3_cellAfter_27 rfl (lv_at hl 2 rfl) ?_
  refine lv_ishl hx hb dX3_cellAfter_28 ?_
  refine lv_ior hx hb dX3_cellAfter_29 ?_
  refine lv_iload hx hb dX3_cellAfter_30 (lv_at hl 0 rfl) ?_
  obtain ⟨r_4, h_5, hf⟩ := oB_elim hf
  refine z_callVi (ws' := [(a_this, .inr (3, [.ref a_street, .ref a_table, .int v_sets, .int v_kinds, .int v_levels, .ref a_worths, .ref a_needs, .ref a_kindsBehind, .ref a_kindOf, .ref a_barred])), (a_street, .inr (2, [.int v_street_pitches, .ref a_street_rows, .ref a_street_rents, .ref a_street_roofs, .int v_street_traders, .ref a_street_trades, .ref a_street_fronts, .ref a_street_limits, .ref a_street_needy, .ref a_street_clashes, .int v_street_covers, .ref a_street_starts, .ref a_street_standing, .int v_street_coversBusy])), (a_street_fronts, .inl (cI, 8, .inl v_street_fronts)), (a_kindsBehind, .inl (cI, 192, .inl v_kindsBehind))]) (wr := [(a_street, .inr (2, [.int v_street_pitches, .ref a_street_rows, .ref a_street_rents, .ref a_street_roofs, .int v_street_traders, .ref a_street_trades, .ref a_street_fronts, .ref a_street_limits, .ref a_street_needy, .ref a_street_clashes, .int v_street_covers, .ref a_street_starts, .ref a_street_standing, .int v_street_coversBusy])), (a_street_fronts, .inl (cI, 8, .inl v_street_fronts)), (a_kindsBehind, .inl (cI, 192, .inl v_kindsBehind))]) (As := [.int (x2 + (v_street_fronts (x1).toNatClampNeg)), .int (x3 ||| ((1 : Int32) <<< (x1 &&& 31))), .int y_2]) (rest := []) E.1 hl hw (c_X3_cell h_5) (cwV 3 hts (z_gV mw_184 mw_185 mw_186 mw_187 mw_176) rfl rfl rfl (by decide +kernel) ⟨(Nat.le_of_ble_eq_true rfl), (Nat.le_of_ble_eq_true rfl)⟩) 4 [(0, 1)] [(1, 3)] rfl rfl rfl rfl rfl rfl (by decide +kernel) rfl (q0 := 0) rfl rfl rfl (Nat.le_of_ble_eq_true rfl) dX3_cellAfter_32 ⟨Nat.le_of_ble_eq_true rfl, Nat.le_of_ble_eq_true rfl⟩ (fun H locs hw => ?_)
  cases hf
  exact z_iret E rfl hw dX3_cellAfter_35
end
/-! X3_level -/
section
variable {p : Program} {l : Launch} {e : Env} {s : State} {m : MethodId} {args : Array Value} {below : List Frame} {meth : Method} {c : Code} {D : va_G} {A : Nat → Prop} {cI cZ cM : ClassId} {a_this a_street a_table a_worths a_needs a_kindsBehind a_kindOf a_barred : Nat} {v_sets : Int32} {v_kinds : Int32} {res : Int32}
def rmX3_level : Room := { frames := 1, cells := 0, slots := 0, locals := 21 }
abbrev zwX3_level : List Cond := Cond.code yX3_level cX3_level 2 (some .int) :: wsAll
set_option maxHeartbeats 4000000 in
set_option maxRecDepth 100000 in
theorem c_X3_level {l : Launch} {D : va_G} {cI cZ cM : ClassId} {a_this a_street a_table a_worths a_needs a_kindsBehind a_kindOf a_barred : Nat} {v_sets : Int32} {v_kinds : Int32} {res : Int32} {sz : Nat} {v_levels : Int32} {x1 : Int32} (hf : f_X3_level v_levels x1 = some res) : Met l yX3_level zwX3_level rmX3_level (zPc D (zT cI cZ cM) [.ref a_this, .int x1] [(a_this, .inr (3, [.ref a_street, .ref a_table, .int v_sets, .int v_kinds, .int v_levels, .ref a_worths, .ref a_needs, .ref a_kindsBehind, .ref a_kindOf, .ref a_barred]))] sz) (zQi D (zT cI cZ cM) res [(a_this, .inr (3, [.ref a_street, .ref a_table, .int v_sets, .int v_kinds, .int v_levels, .ref a_worths, .ref a_needs, .ref a_kindsBehind, .ref a_kindOf, .ref a_barred]))] (va_A [(a_this, .inr (3, [.ref a_street, .ref a_table, .int v_sets, .int v_kinds, .int v_levels, .ref a_worths, .ref a_needs, .ref a_kindsBehind, .ref a_kindOf, .ref a_barred]))] sz)) 0 0 (va_A [(a_this, .inr (3, [.ref a_street, .ref a_table, .int v_sets, .int v_kinds, .int v_levels, .ref a_worths, .ref a_needs, .ref a_kindsBehind, .ref a_kindOf, .ref a_barred]))] sz) := by
  refine z_met (cc := cX3_level) (maxL := 2) (ret := (some .int)) (by decide) rfl (Nat.le_of_ble_eq_true rfl) ?_
  intro p e s m below meth c ls E hsz hw hl
  obtain ⟨⟨hx, hb, hml, hown, hts⟩, hr, hlocks⟩ := id E
  have hl : lv_has ls 2 [(0, .ref a_this), (1, .int x1)] := hl
  unfold f_X3_level at hf
  refine lv_iload_n hx hb dX3_level_0 rfl (lv_at hl 1 rfl) ?_
  refine lv_aload_n hx hb dX3_level_1 rfl (lv_at hl 0 rfl) ?_
  refine z_get E.1 hw in_wsX30 0 rfl rfl 4 (z_lt rfl) mw_179 (v := .int v_levels) rfl dX3_level_2 ?_
  refine lv_iconst (v := 1) hx hb dX3_level_5 (by decide) ?_
  refine lv_isub hx hb dX3_level_6 ?_
  refine z_mmin E.1 hl mw_193 mw_194 mw_195 mw_196 (Nat.le_of_ble_eq_true rfl) (Nat.le_of_ble_eq_true rfl) (Nat.le_of_ble_eq_true rfl) (Nat.le_of_ble_eq_true rfl) dX3_level_7 ?_
  cases hf
  exact z_iret E rfl hw dX3_level_10
end
/-! X3_kindBeside -/
section
variable {p : Program} {l : Launch} {e : Env} {s : State} {m : MethodId} {args : Array Value} {below : List Frame} {meth : Method} {c : Code} {D : va_G} {A : Nat → Prop} {cI cZ cM : ClassId} {a_this a_street a_table a_worths a_needs a_kindsBehind a_kindOf a_barred a_street_rows a_street_rents a_street_roofs a_street_trades a_street_fronts a_street_limits a_street_needy a_street_clashes a_street_starts a_street_standing : Nat} {v_sets : Int32} {v_kinds : Int32} {v_levels : Int32} {v_street_traders : Int32} {v_street_covers : Int32} {v_street_coversBusy : Int32} {res : Int32}
def rmX3_kindBeside : Room := { frames := 1, cells := 0, slots := 0, locals := 22 }
abbrev zwX3_kindBeside : List Cond := Cond.code yX3_kindBeside cX3_kindBeside 4 (some .int) :: wsAll
set_option maxHeartbeats 4000000 in
set_option maxRecDepth 100000 in
theorem c_X3_kindBeside {l : Launch} {D : va_G} {cI cZ cM : ClassId} {a_this a_street a_table a_worths a_needs a_kindsBehind a_kindOf a_barred a_street_rows a_street_rents a_street_roofs a_street_trades a_street_fronts a_street_limits a_street_needy a_street_clashes a_street_starts a_street_standing : Nat} {v_sets : Int32} {v_kinds : Int32} {v_levels : Int32} {v_street_traders : Int32} {v_street_covers : Int32} {v_street_coversBusy : Int32} {res : Int32} {sz : Nat} {v_street_pitches : Int32} {v_street_rows : Nat → Int32} {v_kindOf : Nat → Int32} {x1 : Int32} {x2 : Int32} {x3 : Int32} (hf : f_X3_kindBeside v_street_pitches v_street_rows v_kindOf x1 x2 x3 = some res) : Met l yX3_kindBeside zwX3_kindBeside rmX3_kindBeside (zPc D (zT cI cZ cM) [.ref a_this, .int x1, .int x2, .int x3] [(a_this, .inr (3, [.ref a_street, .ref a_table, .int v_sets, .int v_kinds, .int v_levels, .ref a_worths, .ref a_needs, .ref a_kindsBehind, .ref a_kindOf, .ref a_barred])), (a_street, .inr (2, [.int v_street_pitches, .ref a_street_rows, .ref a_street_rents, .ref a_street_roofs, .int v_street_traders, .ref a_street_trades, .ref a_street_fronts, .ref a_street_limits, .ref a_street_needy, .ref a_street_clashes, .int v_street_covers, .ref a_street_starts, .ref a_street_standing, .int v_street_coversBusy])), (a_street_rows, .inl (cI, 24, .inl v_street_rows)), (a_kindOf, .inl (cI, 8, .inl v_kindOf))] sz) (zQi D (zT cI cZ cM) res [(a_this, .inr (3, [.ref a_street, .ref a_table, .int v_sets, .int v_kinds, .int v_levels, .ref a_worths, .ref a_needs, .ref a_kindsBehind, .ref a_kindOf, .ref a_barred])), (a_street, .inr (2, [.int v_street_pitches, .ref a_street_rows, .ref a_street_rents, .ref a_street_roofs, .int v_street_traders, .ref a_street_trades, .ref a_street_fronts, .ref a_street_limits, .ref a_street_needy, .ref a_street_clashes, .int v_street_covers, .ref a_street_starts, .ref a_street_standing, .int v_street_coversBusy])), (a_street_rows, .inl (cI, 24, .inl v_street_rows)), (a_kindOf, .inl (cI, 8, .inl v_kindOf))] (va_A [(a_this, .inr (3, [.ref a_street, .ref a_table, .int v_sets, .int v_kinds, .int v_levels, .ref a_worths, .ref a_needs, .ref a_kindsBehind, .ref a_kindOf, .ref a_barred])), (a_street, .inr (2, [.int v_street_pitches, .ref a_street_rows, .ref a_street_rents, .ref a_street_roofs, .int v_street_traders, .ref a_street_trades, .ref a_street_fronts, .ref a_street_limits, .ref a_street_needy, .ref a_street_clashes, .int v_street_covers, .ref a_street_starts, .ref a_street_standing, .int v_street_coversBusy])), (a_street_rows, .inl (cI, 24, .inl v_street_rows)), (a_kindOf, .inl (cI, 8, .inl v_kindOf))] sz)) 0 0 (va_A [(a_this, .inr (3, [.ref a_street, .ref a_table, .int v_sets, .int v_kinds, .int v_levels, .ref a_worths, .ref a_needs, .ref a_kindsBehind, .ref a_kindOf, .ref a_barred])), (a_street, .inr (2, [.int v_street_pitches, .ref a_street_rows, .ref a_street_rents, .ref a_street_roofs, .int v_street_traders, .ref a_street_trades, .ref a_street_fronts, .ref a_street_limits, .ref a_street_needy, .ref a_street_clashes, .int v_street_covers, .ref a_street_starts, .ref a_street_standing, .int v_street_coversBusy])), (a_street_rows, .inl (cI, 24, .inl v_street_rows)), (a_kindOf, .inl (cI, 8, .inl v_kindOf))] sz) := by
  refine z_met (cc := cX3_kindBeside) (maxL := 4) (ret := (some .int)) (by decide) rfl (Nat.le_of_ble_eq_true rfl) ?_
  intro p e s m below meth c ls E hsz hw hl
  obtain ⟨⟨hx, hb, hml, hown, hts⟩, hr, hlocks⟩ := id E
  have hl : lv_has ls 4 [(0, .ref a_this), (1, .int x1), (2, .int x2), (3, .int x3)] := hl
  unfold f_X3_kindBeside at hf
  refine lv_aload_n hx hb dX3_kindBeside_0 rfl (lv_at hl 0 rfl) ?_
  refine z_get E.1 hw in_wsX30 0 rfl rfl 0 (z_lt rfl) mw_182 (v := .ref a_street) rfl dX3_kindBeside_1 ?_
  refine lv_iload_n hx hb dX3_kindBeside_4 rfl (lv_at hl 2 rfl) ?_
  refine lv_iload_n hx hb dX3_kindBeside_5 rfl (lv_at hl 3 rfl) ?_
  obtain ⟨r_1, h_2, hf⟩ := oB_elim hf
  refine z_callVi (ws' := [(a_this, .inr (3, [.ref a_street, .ref a_table, .int v_sets, .int v_kinds, .int v_levels, .ref a_worths, .ref a_needs, .ref a_kindsBehind, .ref a_kindOf, .ref a_barred])), (a_street, .inr (2, [.int v_street_pitches, .ref a_street_rows, .ref a_street_rents, .ref a_street_roofs, .int v_street_traders, .ref a_street_trades, .ref a_street_fronts, .ref a_street_limits, .ref a_street_needy, .ref a_street_clashes, .int v_street_covers, .ref a_street_starts, .ref a_street_standing, .int v_street_coversBusy])), (a_street_rows, .inl (cI, 24, .inl v_street_rows)), (a_kindOf, .inl (cI, 8, .inl v_kindOf))]) (wr := [(a_this, .inr (3, [.ref a_street, .ref a_table, .int v_sets, .int v_kinds, .int v_levels, .ref a_worths, .ref a_needs, .ref a_kindsBehind, .ref a_kindOf, .ref a_barred])), (a_kindOf, .inl (cI, 8, .inl v_kindOf))]) (As := [.int x2, .int x3]) (rest := []) E.1 hl hw (c_X2_shareRow h_2) (cwV 2 hts (z_gV mw_211 mw_72 mw_73 mw_9 mw_74) rfl rfl rfl (by decide +kernel) ⟨(Nat.le_of_ble_eq_true rfl), (Nat.le_of_ble_eq_true rfl)⟩) 4 [(1, 2)] [(0, 1), (3, 1)] rfl rfl rfl rfl rfl rfl (by decide +kernel) rfl (q0 := 0) rfl rfl rfl (Nat.le_of_ble_eq_true rfl) dX3_kindBeside_6 ⟨Nat.le_of_ble_eq_true rfl, Nat.le_of_ble_eq_true rfl⟩ (fun H locs hw => ?_)
  refine lv_if_eq (tgt := 21) hx hb dX3_kindBeside_9 (by decide) (fun hc => ?_) (fun hc => ?_)
  · have hf := oI_pos hc hf
    refine lv_iconst (v := 0) hx hb dX3_kindBeside_21 (by decide) ?_
    cases hf
    exact z_iret E rfl hw dX3_kindBeside_22
  · have hf := oI_neg hc hf
    refine lv_aload_n hx hb dX3_kindBeside_12 rfl (lv_at hl 0 rfl) ?_
    refine z_get E.1 hw in_wsX30 0 rfl rfl 8 (z_lt rfl) mw_210 (v := .ref a_kindOf) rfl dX3_kindBeside_13 ?_
    refine lv_iload_n hx hb dX3_kindBeside_16 rfl (lv_at hl 1 rfl) ?_
    obtain ⟨h_3, hf⟩ := oA_elim hf
    refine z_iald E.1 hw 3 0 rfl rfl h_3 dX3_kindBeside_17 ?_
    refine lv_goto (tgt := 22) hx hb dX3_kindBeside_18 (by decide) ?_
    cases hf
    exact z_iret E rfl hw dX3_kindBeside_22
end
/-! X3_worthAround -/
section
variable {p : Program} {l : Launch} {e : Env} {s : State} {m : MethodId} {args : Array Value} {below : List Frame} {meth : Method} {c : Code} {D : va_G} {A : Nat → Prop} {cI cZ cM : ClassId} {a_this a_street a_table a_worths a_needs a_kindsBehind a_kindOf a_barred a_street_rows a_street_rents a_street_roofs a_street_trades a_street_fronts a_street_limits a_street_needy a_street_clashes a_street_starts a_street_standing a_o5 a_o5_street a_o5_table a_o5_worths a_o5_needs a_o5_kindsBehind a_o5_kindOf a_o5_barred : Nat} {v_street_traders : Int32} {v_street_covers : Int32} {v_street_coversBusy : Int32} {res : Int32}
def rmX3_worthAround : Room := { frames := 2, cells := 0, slots := 0, locals := 45 }
abbrev zwX3_worthAround : List Cond := Cond.code yX3_worthAround cX3_worthAround 15 (some .int) :: wsAll
set_option maxHeartbeats 4000000 in
set_option maxRecDepth 100000 in
theorem w_X3_worthAround_182 {n : Nat} {v_street_rows : Nat → Int32} {v_kindOf : Nat → Int32} (E : zE p s m args meth c cX3_worthAround 15 (some .int) zwX3_worthAround RX3) {k60 : Int32 → Int32 → Int32 → Int32 → Int32 → Int32 → Int32 → Int32 → Int32 → (Nat → Int32) → Nat → Int32 → Int32 → Int32 → (Nat → Int32) → Nat → Int32 → Int32 → Int32 → Option (Int32)} (hk60 : ∀ (x1 : Int32) (x2 : Int32) (x4 : Int32) (x6 : Int32) (x7 : Int32) (x8 : Int32) (x9 : Int32) (x10 : Int32) (v_street_pitches : Int32) (v_table : Nat → Int32) (n_table : Nat) (v_sets : Int32) (v_kinds : Int32) (v_levels : Int32) (v_o5_table : Nat → Int32) (n_o5_table : Nat) (v_o5_sets : Int32) (v_o5_kinds : Int32) (v_o5_levels : Int32), k60 x1 x2 x4 x6 x7 x8 x9 x10 v_street_pitches v_table n_table v_sets v_kinds v_levels v_o5_table n_o5_table v_o5_sets v_o5_kinds v_o5_levels = some res → ∀ (H : Heap) (locs : List Loc) (ls : Array Slot), zW D (zT cI cZ cM) A s [(a_this, .inr (3, [.ref a_street, .ref a_table, .int v_sets, .int v_kinds, .int v_levels, .ref a_worths, .ref a_needs, .ref a_kindsBehind, .ref a_kindOf, .ref a_barred])), (a_street, .inr (2, [.int v_street_pitches, .ref a_street_rows, .ref a_street_rents, .ref a_street_roofs, .int v_street_traders, .ref a_street_trades, .ref a_street_fronts, .ref a_street_limits, .ref a_street_needy, .ref a_street_clashes, .int v_street_covers, .ref a_street_starts, .ref a_street_standing, .int v_street_coversBusy])), (a_street_rows, .inl (cI, 24, .inl v_street_rows)), (a_table, .inl (cI, n_table, .inl v_table)), (a_kindOf, .inl (cI, 8, .inl v_kindOf)), (a_o5, .inr (3, [.ref a_o5_street, .ref a_o5_table, .int v_o5_sets, .int v_o5_kinds, .int v_o5_levels, .ref a_o5_worths, .ref a_o5_needs, .ref a_o5_kindsBehind, .ref a_o5_kindOf, .ref a_o5_barred])), (a_o5_table, .inl (cI, n_o5_table, .inl v_o5_table))] H locs → lv_has ls 15 [(0, .ref a_this), (1, .int x1), (2, .int x2), (4, .int x4), (5, .ref a_o5), (6, .int x6), (7, .int x7), (8, .int x8), (9, .int x9), (10, .int x10)] → W p l e rmX3_worthAround s m args below meth c H locs 0 0 (MQ below (zQi D (zT cI cZ cM) res [(a_this, .inr (3, [.ref a_street, .ref a_table, .int v_sets, .int v_kinds, .int v_levels, .ref a_worths, .ref a_needs, .ref a_kindsBehind, .ref a_kindOf, .ref a_barred])), (a_street, .inr (2, [.int v_street_pitches, .ref a_street_rows, .ref a_street_rents, .ref a_street_roofs, .int v_street_traders, .ref a_street_trades, .ref a_street_fronts, .ref a_street_limits, .ref a_street_needy, .ref a_street_clashes, .int v_street_covers, .ref a_street_starts, .ref a_street_standing, .int v_street_coversBusy])), (a_street_rows, .inl (cI, 24, .inl v_street_rows)), (a_table, .inl (cI, n_table, .inl v_table)), (a_kindOf, .inl (cI, 8, .inl v_kindOf)), (a_o5, .inr (3, [.ref a_o5_street, .ref a_o5_table, .int v_o5_sets, .int v_o5_kinds, .int v_o5_levels, .ref a_o5_worths, .ref a_o5_needs, .ref a_o5_kindsBehind, .ref a_o5_kindOf, .ref a_o5_barred])), (a_o5_table, .inl (cI, n_o5_table, .inl v_o5_table))] A) args s 0 0 A) (F0 m 60 ls [])) : ∀ (x1 : Int32) (x2 : Int32) (x4 : Int32) (x6 : Int32) (x7 : Int32) (x8 : Int32) (x9 : Int32) (x10 : Int32) (v_street_pitches : Int32) (v_table : Nat → Int32) (n_table : Nat) (v_sets : Int32) (v_kinds : Int32) (v_levels : Int32) (v_o5_table : Nat → Int32) (n_o5_table : Nat) (v_o5_sets : Int32) (v_o5_kinds : Int32) (v_o5_levels : Int32), f_X3_worthAround_182 n k60 x1 x2 x4 x6 x7 x8 x9 x10 v_street_pitches v_table n_table v_sets v_kinds v_levels v_o5_table n_o5_table v_o5_sets v_o5_kinds v_o5_levels = some res → ∀ (H : Heap) (locs : List Loc) (ls : Array Slot), zW D (zT cI cZ cM) A s [(a_this, .inr (3, [.ref a_street, .ref a_table, .int v_sets, .int v_kinds, .int v_levels, .ref a_worths, .ref a_needs, .ref a_kindsBehind, .ref a_kindOf, .ref a_barred])), (a_street, .inr (2, [.int v_street_pitches, .ref a_street_rows, .ref a_street_rents, .ref a_street_roofs, .int v_street_traders, .ref a_street_trades, .ref a_street_fronts, .ref a_street_limits, .ref a_street_needy, .ref a_street_clashes, .int v_street_covers, .ref a_street_starts, .ref a_street_standing, .int v_street_coversBusy])), (a_street_rows, .inl (cI, 24, .inl v_street_rows)), (a_table, .inl (cI, n_table, .inl v_table)), (a_kindOf, .inl (cI, 8, .inl v_kindOf)), (a_o5, .inr (3, [.ref a_o5_street, .ref a_o5_table, .int v_o5_sets, .int v_o5_kinds, .int v_o5_levels, .ref a_o5_worths, .ref a_o5_needs, .ref a_o5_kindsBehind, .ref a_o5_kindOf, .ref a_o5_barred])), (a_o5_table, .inl (cI, n_o5_table, .inl v_o5_table))] H locs → lv_has ls 15 [(0, .ref a_this), (1, .int x1), (2, .int x2), (4, .int x4), (5, .ref a_o5), (6, .int x6), (7, .int x7), (8, .int x8), (9, .int x9), (10, .int x10)] → W p l e rmX3_worthAround s m args below meth c H locs 0 0 (MQ below (zQi D (zT cI cZ cM) res [(a_this, .inr (3, [.ref a_street, .ref a_table, .int v_sets, .int v_kinds, .int v_levels, .ref a_worths, .ref a_needs, .ref a_kindsBehind, .ref a_kindOf, .ref a_barred])), (a_street, .inr (2, [.int v_street_pitches, .ref a_street_rows, .ref a_street_rents, .ref a_street_roofs, .int v_street_traders, .ref a_street_trades, .ref a_street_fronts, .ref a_street_limits, .ref a_street_needy, .ref a_street_clashes, .int v_street_covers, .ref a_street_starts, .ref a_street_standing, .int v_street_coversBusy])), (a_street_rows, .inl (cI, 24, .inl v_street_rows)), (a_table, .inl (cI, n_table, .inl v_table)), (a_kindOf, .inl (cI, 8, .inl v_kindOf)), (a_o5, .inr (3, [.ref a_o5_street, .ref a_o5_table, .int v_o5_sets, .int v_o5_kinds, .int v_o5_levels, .ref a_o5_worths, .ref a_o5_needs, .ref a_o5_kindsBehind, .ref a_o5_kindOf, .ref a_o5_barred])), (a_o5_table, .inl (cI, n_o5_table, .inl v_o5_table))] A) args s 0 0 A) (F0 m 182 ls []) := by
  obtain ⟨⟨hx, hb, hml, hown, hts⟩, hr, hlocks⟩ := id E
  intro x1 x2 x4 x6 x7 x8 x9 x10 v_street_pitches v_table n_table v_sets v_kinds v_levels v_o5_table n_o5_table v_o5_sets v_o5_kinds v_o5_levels hf H locs ls hw hl
  unfold f_X3_worthAround_182 at hf
  refine lv_iinc (v := (x10 + (1 : Int32))) (lv' := [(10, .int (x10 + (1 : Int32))), (0, .ref a_this), (1, .int x1), (2, .int x2), (4, .int x4), (5, .ref a_o5), (6, .int x6), (7, .int x7), (8, .int x8), (9, .int x9)]) hx hb dX3_worthAround_182 hl (k := 9) rfl rfl (z_lt rfl) rfl (fun ls hl => ?_)
  refine lv_goto (tgt := 60) hx hb dX3_worthAround_185 (by decide) ?_
  exact hk60 _ _ _ _ _ _ _ _ _ _ _ _ _ _ _ _ _ _ _ hf _ _ _ hw (lv_sub hl [1, 2, 3, 4, 5, 6, 7, 8, 9, 0] rfl)
set_option maxHeartbeats 4000000 in
set_option maxRecDepth 100000 in
theorem w_X3_worthAround_124 {n : Nat} {v_street_rows : Nat → Int32} {v_kindOf : Nat → Int32} (E : zE p s m args meth c cX3_worthAround 15 (some .int) zwX3_worthAround RX3) {k60 : Int32 → Int32 → Int32 → Int32 → Int32 → Int32 → Int32 → Int32 → Int32 → (Nat → Int32) → Nat → Int32 → Int32 → Int32 → (Nat → Int32) → Nat → Int32 → Int32 → Int32 → Option (Int32)} (hk60 : ∀ (x1 : Int32) (x2 : Int32) (x4 : Int32) (x6 : Int32) (x7 : Int32) (x8 : Int32) (x9 : Int32) (x10 : Int32) (v_street_pitches : Int32) (v_table : Nat → Int32) (n_table : Nat) (v_sets : Int32) (v_kinds : Int32) (v_levels : Int32) (v_o5_table : Nat → Int32) (n_o5_table : Nat) (v_o5_sets : Int32) (v_o5_kinds : Int32) (v_o5_levels : Int32), k60 x1 x2 x4 x6 x7 x8 x9 x10 v_street_pitches v_table n_table v_sets v_kinds v_levels v_o5_table n_o5_table v_o5_sets v_o5_kinds v_o5_levels = some res → ∀ (H : Heap) (locs : List Loc) (ls : Array Slot), zW D (zT cI cZ cM) A s [(a_this, .inr (3, [.ref a_street, .ref a_table, .int v_sets, .int v_kinds, .int v_levels, .ref a_worths, .ref a_needs, .ref a_kindsBehind, .ref a_kindOf, .ref a_barred])), (a_street, .inr (2, [.int v_street_pitches, .ref a_street_rows, .ref a_street_rents, .ref a_street_roofs, .int v_street_traders, .ref a_street_trades, .ref a_street_fronts, .ref a_street_limits, .ref a_street_needy, .ref a_street_clashes, .int v_street_covers, .ref a_street_starts, .ref a_street_standing, .int v_street_coversBusy])), (a_street_rows, .inl (cI, 24, .inl v_street_rows)), (a_table, .inl (cI, n_table, .inl v_table)), (a_kindOf, .inl (cI, 8, .inl v_kindOf)), (a_o5, .inr (3, [.ref a_o5_street, .ref a_o5_table, .int v_o5_sets, .int v_o5_kinds, .int v_o5_levels, .ref a_o5_worths, .ref a_o5_needs, .ref a_o5_kindsBehind, .ref a_o5_kindOf, .ref a_o5_barred])), (a_o5_table, .inl (cI, n_o5_table, .inl v_o5_table))] H locs → lv_has ls 15 [(0, .ref a_this), (1, .int x1), (2, .int x2), (4, .int x4), (5, .ref a_o5), (6, .int x6), (7, .int x7), (8, .int x8), (9, .int x9), (10, .int x10)] → W p l e rmX3_worthAround s m args below meth c H locs 0 0 (MQ below (zQi D (zT cI cZ cM) res [(a_this, .inr (3, [.ref a_street, .ref a_table, .int v_sets, .int v_kinds, .int v_levels, .ref a_worths, .ref a_needs, .ref a_kindsBehind, .ref a_kindOf, .ref a_barred])), (a_street, .inr (2, [.int v_street_pitches, .ref a_street_rows, .ref a_street_rents, .ref a_street_roofs, .int v_street_traders, .ref a_street_trades, .ref a_street_fronts, .ref a_street_limits, .ref a_street_needy, .ref a_street_clashes, .int v_street_covers, .ref a_street_starts, .ref a_street_standing, .int v_street_coversBusy])), (a_street_rows, .inl (cI, 24, .inl v_street_rows)), (a_table, .inl (cI, n_table, .inl v_table)), (a_kindOf, .inl (cI, 8, .inl v_kindOf)), (a_o5, .inr (3, [.ref a_o5_street, .ref a_o5_table, .int v_o5_sets, .int v_o5_kinds, .int v_o5_levels, .ref a_o5_worths, .ref a_o5_needs, .ref a_o5_kindsBehind, .ref a_o5_kindOf, .ref a_o5_barred])), (a_o5_table, .inl (cI, n_o5_table, .inl v_o5_table))] A) args s 0 0 A) (F0 m 60 ls [])) : ∀ (fu : Nat), ∀ (x1 : Int32) (x2 : Int32) (x4 : Int32) (x6 : Int32) (x7 : Int32) (x8 : Int32) (x9 : Int32) (x10 : Int32) (x11 : Int32) (x12 : Int32) (x13 : Int32) (v_street_pitches : Int32) (v_table : Nat → Int32) (n_table : Nat) (v_sets : Int32) (v_kinds : Int32) (v_levels : Int32) (v_o5_table : Nat → Int32) (n_o5_table : Nat) (v_o5_sets : Int32) (v_o5_kinds : Int32) (v_o5_levels : Int32), f_X3_worthAround_124 n k60 fu x1 x2 x4 x6 x7 x8 x9 x10 x11 x12 x13 v_street_pitches v_table n_table v_sets v_kinds v_levels v_o5_table n_o5_table v_o5_sets v_o5_kinds v_o5_levels = some res → ∀ (H : Heap) (locs : List Loc) (ls : Array Slot), zW D (zT cI cZ cM) A s [(a_this, .inr (3, [.ref a_street, .ref a_table, .int v_sets, .int v_kinds, .int v_levels, .ref a_worths, .ref a_needs, .ref a_kindsBehind, .ref a_kindOf, .ref a_barred])), (a_street, .inr (2, [.int v_street_pitches, .ref a_street_rows, .ref a_street_rents, .ref a_street_roofs, .int v_street_traders, .ref a_street_trades, .ref a_street_fronts, .ref a_street_limits, .ref a_street_needy, .ref a_street_clashes, .int v_street_covers, .ref a_street_starts, .ref a_street_standing, .int v_street_coversBusy])), (a_street_rows, .inl (cI, 24, .inl v_street_rows)), (a_table, .inl (cI, n_table, .inl v_table)), (a_kindOf, .inl (cI, 8, .inl v_kindOf)), (a_o5, .inr (3, [.ref a_o5_street, .ref a_o5_table, .int v_o5_sets, .int v_o5_kinds, .int v_o5_levels, .ref a_o5_worths, .ref a_o5_needs, .ref a_o5_kindsBehind, .ref a_o5_kindOf, .ref a_o5_barred])), (a_o5_table, .inl (cI, n_o5_table, .inl v_o5_table))] H locs → lv_has ls 15 [(0, .ref a_this), (1, .int x1), (2, .int x2), (4, .int x4), (5, .ref a_o5), (6, .int x6), (7, .int x7), (8, .int x8), (9, .int x9), (10, .int x10), (11, .int x11), (12, .int x12), (13, .int x13)] → W p l e rmX3_worthAround s m args below meth c H locs 0 0 (MQ below (zQi D (zT cI cZ cM) res [(a_this, .inr (3, [.ref a_street, .ref a_table, .int v_sets, .int v_kinds, .int v_levels, .ref a_worths, .ref a_needs, .ref a_kindsBehind, .ref a_kindOf, .ref a_barred])), (a_street, .inr (2, [.int v_street_pitches, .ref a_street_rows, .ref a_street_rents, .ref a_street_roofs, .int v_street_traders, .ref a_street_trades, .ref a_street_fronts, .ref a_street_limits, .ref a_street_needy, .ref a_street_clashes, .int v_street_covers, .ref a_street_starts, .ref a_street_standing, .int v_street_coversBusy])), (a_street_rows, .inl (cI, 24, .inl v_street_rows)), (a_table, .inl (cI, n_table, .inl v_table)), (a_kindOf, .inl (cI, 8, .inl v_kindOf)), (a_o5, .inr (3, [.ref a_o5_street, .ref a_o5_table, .int v_o5_sets, .int v_o5_kinds, .int v_o5_levels, .ref a_o5_worths, .ref a_o5_needs, .ref a_o5_kindsBehind, .ref a_o5_kindOf, .ref a_o5_barred])), (a_o5_table, .inl (cI, n_o5_table, .inl v_o5_table))] A) args s 0 0 A) (F0 m 124 ls []) := by
  obtain ⟨⟨hx, hb, hml, hown, hts⟩, hr, hlocks⟩ := id E
  intro fu
  induction fu with
  | zero => intro x1 x2 x4 x6 x7 x8 x9 x10 x11 x12 x13 v_street_pitches v_table n_table v_sets v_kinds v_levels v_o5_table n_o5_table v_o5_sets v_o5_kinds v_o5_levels hf; rw [f_X3_worthAround_124.eq_1] at hf; cases hf
  | succ fu ih =>
    intro x1 x2 x4 x6 x7 x8 x9 x10 x11 x12 x13 v_street_pitches v_table n_table v_sets v_kinds v_levels v_o5_table n_o5_table v_o5_sets v_o5_kinds v_o5_levels hf H locs ls hw hl
    rw [f_X3_worthAround_124.eq_2] at hf
    refine lv_iload hx hb dX3_worthAround_124 (lv_at hl 12 rfl) ?_
    refine lv_iload hx hb dX3_worthAround_126 (lv_at hl 3 rfl) ?_
    refine lv_icmp_gt (tgt := 182) hx hb dX3_worthAround_128 (by decide) (fun hc => ?_) (fun hc => ?_)
    · have hf := oI_pos hc hf
      exact w_X3_worthAround_182 E hk60 _ _ _ _ _ _ _ _ _ _ _ _ _ _ _ _ _ _ _ hf _ _ _ hw (lv_sub hl [0, 1, 2, 3, 4, 5, 6, 7, 8, 9] rfl)
    · have hf := oI_neg hc hf
      refine lv_aload hx hb dX3_worthAround_131 (lv_at hl 4 rfl) ?_
      refine z_get E.1 hw in_wsX30 5 rfl rfl 1 (z_lt rfl) mw_202 (v := .ref a_o5_table) rfl dX3_worthAround_133 ?_
      refine lv_iload hx hb dX3_worthAround_136 (lv_at hl 10 rfl) ?_
      refine lv_aload hx hb dX3_worthAround_138 (lv_at hl 4 rfl) ?_
      refine lv_iload hx hb dX3_worthAround_140 (lv_at hl 12 rfl) ?_
      obtain ⟨r_1, h_2, hf⟩ := oB_elim hf
      refine z_callVi (ws' := [(a_this, .inr (3, [.ref a_street, .ref a_table, .int v_sets, .int v_kinds, .int v_levels, .ref a_worths, .ref a_needs, .ref a_kindsBehind, .ref a_kindOf, .ref a_barred])), (a_street, .inr (2, [.int v_street_pitches, .ref a_street_rows, .ref a_street_rents, .ref a_street_roofs, .int v_street_traders, .ref a_street_trades, .ref a_street_fronts, .ref a_street_limits, .ref a_street_needy, .ref a_street_clashes, .int v_street_covers, .ref a_street_starts, .ref a_street_standing, .int v_street_coversBusy])), (a_street_rows, .inl (cI, 24, .inl v_street_rows)), (a_table, .inl (cI, n_table, .inl v_table)), (a_kindOf, .inl (cI, 8, .inl v_kindOf)), (a_o5, .inr (3, [.ref a_o5_street, .ref a_o5_table, .int v_o5_sets, .int v_o5_kinds, .int v_o5_levels, .ref a_o5_worths, .ref a_o5_needs, .ref a_o5_kindsBehind, .ref a_o5_kindOf, .ref a_o5_barred])), (a_o5_table, .inl (cI, n_o5_table, .inl v_o5_table))]) (wr := [(a_this, .inr (3, [.ref a_street, .ref a_table, .int v_sets, .int v_kinds, .int v_levels, .ref a_worths, .ref a_needs, .ref a_kindsBehind, .ref a_kindOf, .ref a_barred])), (a_street, .inr (2, [.int v_street_pitches, .ref a_street_rows, .ref a_street_rents, .ref a_street_roofs, .int v_street_traders, .ref a_street_trades, .ref a_street_fronts, .ref a_street_limits, .ref a_street_needy, .ref a_street_clashes, .int v_street_covers, .ref a_street_starts, .ref a_street_standing, .int v_street_coversBusy])), (a_street_rows, .inl (cI, 24, .inl v_street_rows)), (a_table, .inl (cI, n_table, .inl v_table)), (a_kindOf, .inl (cI, 8, .inl v_kindOf)), (a_o5_table, .inl (cI, n_o5_table, .inl v_o5_table))]) (As := [.int x13]) (rest := [.int x11, .ref a_o5_table]) E.1 hl hw (c_X3_level h_2) (cwV 1 hts (z_gV mw_212 mw_213 mw_214 mw_187 mw_215) rfl rfl rfl (by decide +kernel) ⟨(Nat.le_of_ble_eq_true rfl), (Nat.le_of_ble_eq_true rfl)⟩) 7 [(5, 1)] [(0, 5), (6, 1)] rfl rfl rfl rfl rfl rfl (by decide +kernel) rfl (q0 := 0) rfl rfl rfl (Nat.le_of_ble_eq_true rfl) dX3_worthAround_142 ⟨Nat.le_of_ble_eq_true rfl, Nat.le_of_ble_eq_true rfl⟩ (fun H locs hw => ?_)
      refine lv_iadd hx hb dX3_worthAround_145 ?_
      obtain ⟨h_3, hf⟩ := oA_elim hf
      refine z_iald E.1 hw 6 0 rfl rfl h_3 dX3_worthAround_146 ?_
      refine lv_aload_n hx hb dX3_worthAround_147 rfl (lv_at hl 0 rfl) ?_
      refine z_get E.1 hw in_wsX30 0 rfl rfl 1 (z_lt rfl) mw_202 (v := .ref a_table) rfl dX3_worthAround_148 ?_
      refine lv_iload hx hb dX3_worthAround_151 (lv_at hl 11 rfl) ?_
      refine lv_aload_n hx hb dX3_worthAround_153 rfl (lv_at hl 0 rfl) ?_
      refine lv_iload hx hb dX3_worthAround_154 (lv_at hl 3 rfl) ?_
      refine lv_iload hx hb dX3_worthAround_156 (lv_at hl 12 rfl) ?_
      refine lv_isub hx hb dX3_worthAround_158 ?_
      obtain ⟨r_4, h_5, hf⟩ := oB_elim hf
      refine z_callVi (ws' := [(a_this, .inr (3, [.ref a_street, .ref a_table, .int v_sets, .int v_kinds, .int v_levels, .ref a_worths, .ref a_needs, .ref a_kindsBehind, .ref a_kindOf, .ref a_barred])), (a_street, .inr (2, [.int v_street_pitches, .ref a_street_rows, .ref a_street_rents, .ref a_street_roofs, .int v_street_traders, .ref a_street_trades, .ref a_street_fronts, .ref a_street_limits, .ref a_street_needy, .ref a_street_clashes, .int v_street_covers, .ref a_street_starts, .ref a_street_standing, .int v_street_coversBusy])), (a_street_rows, .inl (cI, 24, .inl v_street_rows)), (a_table, .inl (cI, n_table, .inl v_table)), (a_kindOf, .inl (cI, 8, .inl v_kindOf)), (a_o5, .inr (3, [.ref a_o5_street, .ref a_o5_table, .int v_o5_sets, .int v_o5_kinds, .int v_o5_levels, .ref a_o5_worths, .ref a_o5_needs, .ref a_o5_kindsBehind, .ref a_o5_kindOf, .ref a_o5_barred])), (a_o5_table, .inl (cI, n_o5_table, .inl v_o5_table))]) (wr := [(a_street, .inr (2, [.int v_street_pitches, .ref a_street_rows, .ref a_street_rents, .ref a_street_roofs, .int v_street_traders, .ref a_street_trades, .ref a_street_fronts, .ref a_street_limits, .ref a_street_needy, .ref a_street_clashes, .int v_street_covers, .ref a_street_starts, .ref a_street_standing, .int v_street_coversBusy])), (a_street_rows, .inl (cI, 24, .inl v_street_rows)), (a_table, .inl (cI, n_table, .inl v_table)), (a_kindOf, .inl (cI, 8, .inl v_kindOf)), (a_o5, .inr (3, [.ref a_o5_street, .ref a_o5_table, .int v_o5_sets, .int v_o5_kinds, .int v_o5_levels, .ref a_o5_worths, .ref a_o5_needs, .ref a_o5_kindsBehind, .ref a_o5_kindOf, .ref a_o5_barred])), (a_o5_table, .inl (cI, n_o5_table, .inl v_o5_table))]) (As := [.int (x4 - x13)]) (rest := [.int x12, .ref a_table, .int (v_o5_table ((x11 + r_1)).toNatClampNeg)]) E.1 hl hw (c_X3_level h_5) (cwV 1 hts (z_gV mw_212 mw_213 mw_214 mw_187 mw_215) rfl rfl rfl (by decide +kernel) ⟨(Nat.le_of_ble_eq_true rfl), (Nat.le_of_ble_eq_true rfl)⟩) 7 [(0, 1)] [(1, 6)] rfl rfl rfl rfl rfl rfl (by decide +kernel) rfl (q0 := 0) rfl rfl rfl (Nat.le_of_ble_eq_true rfl) dX3_worthAround_159 ⟨Nat.le_of_ble_eq_true rfl, Nat.le_of_ble_eq_true rfl⟩ (fun H locs hw => ?_)
      refine lv_iadd hx hb dX3_worthAround_162 ?_
      obtain ⟨h_6, hf⟩ := oA_elim hf
      refine z_iald E.1 hw 3 0 rfl rfl h_6 dX3_worthAround_163 ?_
      refine lv_iadd hx hb dX3_worthAround_164 ?_
      obtain ⟨y_7, e_y_7, hf⟩ := oL_elim hf
      refine z_top e_y_7 ?_
      refine lv_istore (lv' := [(14, .int y_7), (0, .ref a_this), (1, .int x1), (2, .int x2), (4, .int x4), (5, .ref a_o5), (6, .int x6), (7, .int x7), (8, .int x8), (9, .int x9), (10, .int x10), (11, .int x11), (12, .int x12), (13, .int x13)]) hx hb dX3_worthAround_165 hl (z_lt rfl) rfl (fun ls hl => ?_)
      refine lv_iload hx hb dX3_worthAround_167 (lv_at hl 9 rfl) ?_
      refine lv_iload hx hb dX3_worthAround_169 (lv_at hl 0 rfl) ?_
      refine z_mmax E.1 hl mw_203 mw_204 mw_195 mw_205 (Nat.le_of_ble_eq_true rfl) (Nat.le_of_ble_eq_true rfl) (Nat.le_of_ble_eq_true rfl) (Nat.le_of_ble_eq_true rfl) dX3_worthAround_171 ?_
      obtain ⟨y_8, e_y_8, hf⟩ := oL_elim hf
      refine z_top e_y_8 ?_
      refine lv_istore (lv' := [(9, .int y_8), (14, .int y_7), (0, .ref a_this), (1, .int x1), (2, .int x2), (4, .int x4), (5, .ref a_o5), (6, .int x6), (7, .int x7), (8, .int x8), (10, .int x10), (11, .int x11), (12, .int x12), (13, .int x13)]) hx hb dX3_worthAround_174 hl (z_lt rfl) rfl (fun ls hl => ?_)
      refine lv_iinc (v := (x13 + (1 : Int32))) (lv' := [(13, .int (x13 + (1 : Int32))), (9, .int y_8), (14, .int y_7), (0, .ref a_this), (1, .int x1), (2, .int x2), (4, .int x4), (5, .ref a_o5), (6, .int x6), (7, .int x7), (8, .int x8), (10, .int x10), (11, .int x11), (12, .int x12)]) hx hb dX3_worthAround_176 hl (k := 13) rfl rfl (z_lt rfl) rfl (fun ls hl => ?_)
      refine lv_goto (tgt := 124) hx hb dX3_worthAround_179 (by decide) ?_
      exact ih _ _ _ _ _ _ _ _ _ _ _ _ _ _ _ _ _ _ _ _ _ _ hf _ _ _ hw (lv_sub hl [3, 4, 5, 6, 7, 8, 9, 10, 1, 11, 12, 13, 0] rfl)
set_option maxHeartbeats 4000000 in
set_option maxRecDepth 100000 in
theorem w_X3_worthAround_60 {n : Nat} {v_street_rows : Nat → Int32} {v_kindOf : Nat → Int32} (E : zE p s m args meth c cX3_worthAround 15 (some .int) zwX3_worthAround RX3) : ∀ (fu : Nat), ∀ (x1 : Int32) (x2 : Int32) (x4 : Int32) (x6 : Int32) (x7 : Int32) (x8 : Int32) (x9 : Int32) (x10 : Int32) (v_street_pitches : Int32) (v_table : Nat → Int32) (n_table : Nat) (v_sets : Int32) (v_kinds : Int32) (v_levels : Int32) (v_o5_table : Nat → Int32) (n_o5_table : Nat) (v_o5_sets : Int32) (v_o5_kinds : Int32) (v_o5_levels : Int32), f_X3_worthAround_60 n fu x1 x2 x4 x6 x7 x8 x9 x10 v_street_pitches v_table n_table v_sets v_kinds v_levels v_o5_table n_o5_table v_o5_sets v_o5_kinds v_o5_levels = some res → ∀ (H : Heap) (locs : List Loc) (ls : Array Slot), zW D (zT cI cZ cM) A s [(a_this, .inr (3, [.ref a_street, .ref a_table, .int v_sets, .int v_kinds, .int v_levels, .ref a_worths, .ref a_needs, .ref a_kindsBehind, .ref a_kindOf, .ref a_barred])), (a_street, .inr (2, [.int v_street_pitches, .ref a_street_rows, .ref a_street_rents, .ref a_street_roofs, .int v_street_traders, .ref a_street_trades, .ref a_street_fronts, .ref a_street_limits, .ref a_street_needy, .ref a_street_clashes, .int v_street_covers, .ref a_street_starts, .ref a_street_standing, .int v_street_coversBusy])), (a_street_rows, .inl (cI, 24, .inl v_street_rows)), (a_table, .inl (cI, n_table, .inl v_table)), (a_kindOf, .inl (cI, 8, .inl v_kindOf)), (a_o5, .inr (3, [.ref a_o5_street, .ref a_o5_table, .int v_o5_sets, .int v_o5_kinds, .int v_o5_levels, .ref a_o5_worths, .ref a_o5_needs, .ref a_o5_kindsBehind, .ref a_o5_kindOf, .ref a_o5_barred])), (a_o5_table, .inl (cI, n_o5_table, .inl v_o5_table))] H locs → lv_has ls 15 [(0, .ref a_this), (1, .int x1), (2, .int x2), (4, .int x4), (5, .ref a_o5), (6, .int x6), (7, .int x7), (8, .int x8), (9, .int x9), (10, .int x10)] → W p l e rmX3_worthAround s m args below meth c H locs 0 0 (MQ below (zQi D (zT cI cZ cM) res [(a_this, .inr (3, [.ref a_street, .ref a_table, .int v_sets, .int v_kinds, .int v_levels, .ref a_worths, .ref a_needs, .ref a_kindsBehind, .ref a_kindOf, .ref a_barred])), (a_street, .inr (2, [.int v_street_pitches, .ref a_street_rows, .ref a_street_rents, .ref a_street_roofs, .int v_street_traders, .ref a_street_trades, .ref a_street_fronts, .ref a_street_limits, .ref a_street_needy, .ref a_street_clashes, .int v_street_covers, .ref a_street_starts, .ref a_street_standing, .int v_street_coversBusy])), (a_street_rows, .inl (cI, 24, .inl v_street_rows)), (a_table, .inl (cI, n_table, .inl v_table)), (a_kindOf, .inl (cI, 8, .inl v_kindOf)), (a_o5, .inr (3, [.ref a_o5_street, .ref a_o5_table, .int v_o5_sets, .int v_o5_kinds, .int v_o5_levels, .ref a_o5_worths, .ref a_o5_needs, .ref a_o5_kindsBehind, .ref a_o5_kindOf, .ref a_o5_barred])), (a_o5_table, .inl (cI, n_o5_table, .inl v_o5_table))] A) args s 0 0 A) (F0 m 60 ls []) := by
  obtain ⟨⟨hx, hb, hml, hown, hts⟩, hr, hlocks⟩ := id E
  intro fu
  induction fu with
  | zero => intro x1 x2 x4 x6 x7 x8 x9 x10 v_street_pitches v_table n_table v_sets v_kinds v_levels v_o5_table n_o5_table v_o5_sets v_o5_kinds v_o5_levels hf; rw [f_X3_worthAround_60.eq_1] at hf; cases hf
  | succ fu ih =>
    intro x1 x2 x4 x6 x7 x8 x9 x10 v_street_pitches v_table n_table v_sets v_kinds v_levels v_o5_table n_o5_table v_o5_sets v_o5_kinds v_o5_levels hf H locs ls hw hl
    rw [f_X3_worthAround_60.eq_2] at hf
    refine lv_iload hx hb dX3_worthAround_60 (lv_at hl 9 rfl) ?_
    refine lv_aload_n hx hb dX3_worthAround_62 rfl (lv_at hl 0 rfl) ?_
    refine z_get E.1 hw in_wsX30 0 rfl rfl 2 (z_lt rfl) mw_177 (v := .int v_sets) rfl dX3_worthAround_63 ?_
    refine lv_icmp_ge (tgt := 188) hx hb dX3_worthAround_66 (by decide) (fun hc => ?_) (fun hc => ?_)
    · have hf := oI_pos hc hf
      refine lv_iload hx hb dX3_worthAround_188 (lv_at hl 8 rfl) ?_
      cases hf
      exact z_iret E rfl hw dX3_worthAround_190
    · have hf := oI_neg hc hf
      refine lv_iload hx hb dX3_worthAround_69 (lv_at hl 9 rfl) ?_
      refine lv_iload hx hb dX3_worthAround_71 (lv_at hl 5 rfl) ?_
      refine lv_iand hx hb dX3_worthAround_73 ?_
      refine lv_if_eq (tgt := 80) hx hb dX3_worthAround_74 (by decide) (fun hc => ?_) (fun hc => ?_)
      · have hf := oI_pos hc hf
        refine lv_aload hx hb dX3_worthAround_80 (lv_at hl 4 rfl) ?_
        refine lv_aload_n hx hb dX3_worthAround_82 rfl (lv_at hl 0 rfl) ?_
        refine z_get E.1 hw in_wsX30 0 rfl rfl 0 (z_lt rfl) mw_182 (v := .ref a_street) rfl dX3_worthAround_83 ?_
        refine z_get E.1 hw in_wsX20 1 rfl rfl 0 (z_lt rfl) mw_201 (v := .int v_street_pitches) rfl dX3_worthAround_86 ?_
        refine lv_iload_n hx hb dX3_worthAround_89 rfl (lv_at hl 1 rfl) ?_
        refine lv_isub hx hb dX3_worthAround_90 ?_
        refine lv_aload_n hx hb dX3_worthAround_91 rfl (lv_at hl 0 rfl) ?_
        refine z_get E.1 hw in_wsX30 0 rfl rfl 2 (z_lt rfl) mw_177 (v := .int v_sets) rfl dX3_worthAround_92 ?_
        refine lv_iconst (v := 1) hx hb dX3_worthAround_95 (by decide) ?_
        refine lv_isub hx hb dX3_worthAround_96 ?_
        refine lv_iload hx hb dX3_worthAround_97 (lv_at hl 9 rfl) ?_
        refine lv_isub hx hb dX3_worthAround_99 ?_
        refine lv_iload hx hb dX3_worthAround_100 (lv_at hl 6 rfl) ?_
        obtain ⟨r_9, h_10, hf⟩ := oB_elim hf
        refine z_callVi (ws' := [(a_this, .inr (3, [.ref a_street, .ref a_table, .int v_sets, .int v_kinds, .int v_levels, .ref a_worths, .ref a_needs, .ref a_kindsBehind, .ref a_kindOf, .ref a_barred])), (a_street, .inr (2, [.int v_street_pitches, .ref a_street_rows, .ref a_street_rents, .ref a_street_roofs, .int v_street_traders, .ref a_street_trades, .ref a_street_fronts, .ref a_street_limits, .ref a_street_needy, .ref a_street_clashes, .int v_street_covers, .ref a_street_starts, .ref a_street_standing, .int v_street_coversBusy])), (a_street_rows, .inl (cI, 24, .inl v_street_rows)), (a_table, .inl (cI, n_table, .inl v_table)), (a_kindOf, .inl (cI, 8, .inl v_kindOf)), (a_o5, .inr (3, [.ref a_o5_street, .ref a_o5_table, .int v_o5_sets, .int v_o5_kinds, .int v_o5_levels, .ref a_o5_worths, .ref a_o5_needs, .ref a_o5_kindsBehind, .ref a_o5_kindOf, .ref a_o5_barred])), (a_o5_table, .inl (cI, n_o5_table, .inl v_o5_table))]) (wr := [(a_this, .inr (3, [.ref a_street, .ref a_table, .int v_sets, .int v_kinds, .int v_levels, .ref a_worths, .ref a_needs, .ref a_kindsBehind, .ref a_kindOf, .ref a_barred])), (a_street, .inr (2, [.int v_street_pitches, .ref a_street_rows, .ref a_street_rents, .ref a_street_roofs, .int v_street_traders, .ref a_street_trades, .ref a_street_fronts, .ref a_street_limits, .ref a_street_needy, .ref a_street_clashes, .int v_street_covers, .ref a_street_starts, .ref a_street_standing, .int v_street_coversBusy])), (a_street_rows, .inl (cI, 24, .inl v_street_rows)), (a_table, .inl (cI, n_table, .inl v_table)), (a_kindOf, .inl (cI, 8, .inl v_kindOf)), (a_o5_table, .inl (cI, n_o5_table, .inl v_o5_table))]) (As := [.int (v_street_pitches - x1), .int ((v_sets - (1 : Int32)) - x10), .int x7]) (rest := []) E.1 hl hw (c_X3_cell h_10) (cwV 3 hts (z_gV mw_184 mw_185 mw_186 mw_187 mw_176) rfl rfl rfl (by decide +kernel) ⟨(Nat.le_of_ble_eq_true rfl), (Nat.le_of_ble_eq_true rfl)⟩) 7 [(5, 1)] [(0, 5), (6, 1)] rfl rfl rfl rfl rfl rfl (by decide +kernel) rfl (q0 := 0) rfl rfl rfl (Nat.le_of_ble_eq_true rfl) dX3_worthAround_102 ⟨Nat.le_of_ble_eq_true rfl, Nat.le_of_ble_eq_true rfl⟩ (fun H locs hw => ?_)
        refine lv_istore (lv' := [(11, .int r_9), (0, .ref a_this), (1, .int x1), (2, .int x2), (4, .int x4), (5, .ref a_o5), (6, .int x6), (7, .int x7), (8, .int x8), (9, .int x9), (10, .int x10)]) hx hb dX3_worthAround_105 hl (z_lt rfl) rfl (fun ls hl => ?_)
        refine lv_aload_n hx hb dX3_worthAround_107 rfl (lv_at hl 1 rfl) ?_
        refine lv_iload_n hx hb dX3_worthAround_108 rfl (lv_at hl 3 rfl) ?_
        refine lv_iload hx hb dX3_worthAround_109 (lv_at hl 10 rfl) ?_
        refine lv_iload hx hb dX3_worthAround_111 (lv_at hl 6 rfl) ?_
        refine lv_ior hx hb dX3_worthAround_113 ?_
        refine lv_iload hx hb dX3_worthAround_114 (lv_at hl 8 rfl) ?_
        obtain ⟨r_11, h_12, hf⟩ := oB_elim hf
        refine z_callVi (ws' := [(a_this, .inr (3, [.ref a_street, .ref a_table, .int v_sets, .int v_kinds, .int v_levels, .ref a_worths, .ref a_needs, .ref a_kindsBehind, .ref a_kindOf, .ref a_barred])), (a_street, .inr (2, [.int v_street_pitches, .ref a_street_rows, .ref a_street_rents, .ref a_street_roofs, .int v_street_traders, .ref a_street_trades, .ref a_street_fronts, .ref a_street_limits, .ref a_street_needy, .ref a_street_clashes, .int v_street_covers, .ref a_street_starts, .ref a_street_standing, .int v_street_coversBusy])), (a_street_rows, .inl (cI, 24, .inl v_street_rows)), (a_table, .inl (cI, n_table, .inl v_table)), (a_kindOf, .inl (cI, 8, .inl v_kindOf)), (a_o5, .inr (3, [.ref a_o5_street, .ref a_o5_table, .int v_o5_sets, .int v_o5_kinds, .int v_o5_levels, .ref a_o5_worths, .ref a_o5_needs, .ref a_o5_kindsBehind, .ref a_o5_kindOf, .ref a_o5_barred])), (a_o5_table, .inl (cI, n_o5_table, .inl v_o5_table))]) (wr := [(a_street, .inr (2, [.int v_street_pitches, .ref a_street_rows, .ref a_street_rents, .ref a_street_roofs, .int v_street_traders, .ref a_street_trades, .ref a_street_fronts, .ref a_street_limits, .ref a_street_needy, .ref a_street_clashes, .int v_street_covers, .ref a_street_starts, .ref a_street_standing, .int v_street_coversBusy])), (a_street_rows, .inl (cI, 24, .inl v_street_rows)), (a_table, .inl (cI, n_table, .inl v_table)), (a_kindOf, .inl (cI, 8, .inl v_kindOf)), (a_o5, .inr (3, [.ref a_o5_street, .ref a_o5_table, .int v_o5_sets, .int v_o5_kinds, .int v_o5_levels, .ref a_o5_worths, .ref a_o5_needs, .ref a_o5_kindsBehind, .ref a_o5_kindOf, .ref a_o5_barred])), (a_o5_table, .inl (cI, n_o5_table, .inl v_o5_table))]) (As := [.int x2, .int (x10 ||| x6), .int x8]) (rest := []) E.1 hl hw (c_X3_cell h_12) (cwV 3 hts (z_gV mw_184 mw_185 mw_186 mw_187 mw_176) rfl rfl rfl (by decide +kernel) ⟨(Nat.le_of_ble_eq_true rfl), (Nat.le_of_ble_eq_true rfl)⟩) 7 [(0, 1)] [(1, 6)] rfl rfl rfl rfl rfl rfl (by decide +kernel) rfl (q0 := 0) rfl rfl rfl (Nat.le_of_ble_eq_true rfl) dX3_worthAround_116 ⟨Nat.le_of_ble_eq_true rfl, Nat.le_of_ble_eq_true rfl⟩ (fun H locs hw => ?_)
        refine lv_istore (lv' := [(12, .int r_11), (11, .int r_9), (0, .ref a_this), (1, .int x1), (2, .int x2), (4, .int x4), (5, .ref a_o5), (6, .int x6), (7, .int x7), (8, .int x8), (9, .int x9), (10, .int x10)]) hx hb dX3_worthAround_119 hl (z_lt rfl) rfl (fun ls hl => ?_)
        refine lv_iconst (v := 0) hx hb dX3_worthAround_121 (by decide) ?_
        refine lv_istore (lv' := [(13, .int (0 : Int32)), (12, .int r_11), (11, .int r_9), (0, .ref a_this), (1, .int x1), (2, .int x2), (4, .int x4), (5, .ref a_o5), (6, .int x6), (7, .int x7), (8, .int x8), (9, .int x9), (10, .int x10)]) hx hb dX3_worthAround_122 hl (z_lt rfl) rfl (fun ls hl => ?_)
        exact w_X3_worthAround_124 E ih n _ _ _ _ _ _ _ _ _ _ _ _ _ _ _ _ _ _ _ _ _ _ hf _ _ _ hw (lv_sub hl [3, 4, 5, 6, 7, 8, 9, 10, 11, 12, 2, 1, 0] rfl)
      · have hf := oI_neg hc hf
        refine lv_goto (tgt := 182) hx hb dX3_worthAround_77 (by decide) ?_
        exact w_X3_worthAround_182 E ih _ _ _ _ _ _ _ _ _ _ _ _ _ _ _ _ _ _ _ hf _ _ _ hw (lv_sub hl [0, 1, 2, 3, 4, 5, 6, 7, 8, 9] rfl)
set_option maxHeartbeats 4000000 in
set_option maxRecDepth 100000 in
theorem w_X3_worthAround_52 {n : Nat} {v_street_rows : Nat → Int32} {v_kindOf : Nat → Int32} (E : zE p s m args meth c cX3_worthAround 15 (some .int) zwX3_worthAround RX3) : ∀ (t0 : Int32) (x1 : Int32) (x2 : Int32) (x4 : Int32) (x6 : Int32) (x7 : Int32) (v_street_pitches : Int32) (v_table : Nat → Int32) (n_table : Nat) (v_sets : Int32) (v_kinds : Int32) (v_levels : Int32) (v_o5_table : Nat → Int32) (n_o5_table : Nat) (v_o5_sets : Int32) (v_o5_kinds : Int32) (v_o5_levels : Int32), f_X3_worthAround_52 n t0 x1 x2 x4 x6 x7 v_street_pitches v_table n_table v_sets v_kinds v_levels v_o5_table n_o5_table v_o5_sets v_o5_kinds v_o5_levels = some res → ∀ (H : Heap) (locs : List Loc) (ls : Array Slot), zW D (zT cI cZ cM) A s [(a_this, .inr (3, [.ref a_street, .ref a_table, .int v_sets, .int v_kinds, .int v_levels, .ref a_worths, .ref a_needs, .ref a_kindsBehind, .ref a_kindOf, .ref a_barred])), (a_street, .inr (2, [.int v_street_pitches, .ref a_street_rows, .ref a_street_rents, .ref a_street_roofs, .int v_street_traders, .ref a_street_trades, .ref a_street_fronts, .ref a_street_limits, .ref a_street_needy, .ref a_street_clashes, .int v_street_covers, .ref a_street_starts, .ref a_street_standing, .int v_street_coversBusy])), (a_street_rows, .inl (cI, 24, .inl v_street_rows)), (a_table, .inl (cI, n_table, .inl v_table)), (a_kindOf, .inl (cI, 8, .inl v_kindOf)), (a_o5, .inr (3, [.ref a_o5_street, .ref a_o5_table, .int v_o5_sets, .int v_o5_kinds, .int v_o5_levels, .ref a_o5_worths, .ref a_o5_needs, .ref a_o5_kindsBehind, .ref a_o5_kindOf, .ref a_o5_barred])), (a_o5_table, .inl (cI, n_o5_table, .inl v_o5_table))] H locs → lv_has ls 15 [(0, .ref a_this), (1, .int x1), (2, .int x2), (4, .int x4), (5, .ref a_o5), (6, .int x6), (7, .int x7)] → W p l e rmX3_worthAround s m args below meth c H locs 0 0 (MQ below (zQi D (zT cI cZ cM) res [(a_this, .inr (3, [.ref a_street, .ref a_table, .int v_sets, .int v_kinds, .int v_levels, .ref a_worths, .ref a_needs, .ref a_kindsBehind, .ref a_kindOf, .ref a_barred])), (a_street, .inr (2, [.int v_street_pitches, .ref a_street_rows, .ref a_street_rents, .ref a_street_roofs, .int v_street_traders, .ref a_street_trades, .ref a_street_fronts, .ref a_street_limits, .ref a_street_needy, .ref a_street_clashes, .int v_street_covers, .ref a_street_starts, .ref a_street_standing, .int v_street_coversBusy])), (a_street_rows, .inl (cI, 24, .inl v_street_rows)), (a_table, .inl (cI, n_table, .inl v_table)), (a_kindOf, .inl (cI, 8, .inl v_kindOf)), (a_o5, .inr (3, [.ref a_o5_street, .ref a_o5_table, .int v_o5_sets, .int v_o5_kinds, .int v_o5_levels, .ref a_o5_worths, .ref a_o5_needs, .ref a_o5_kindsBehind, .ref a_o5_kindOf, .ref a_o5_barred])), (a_o5_table, .inl (cI, n_o5_table, .inl v_o5_table))] A) args s 0 0 A) (F0 m 52 ls [.int t0]) := by
  obtain ⟨⟨hx, hb, hml, hown, hts⟩, hr, hlocks⟩ := id E
  intro t0 x1 x2 x4 x6 x7 v_street_pitches v_table n_table v_sets v_kinds v_levels v_o5_table n_o5_table v_o5_sets v_o5_kinds v_o5_levels hf H locs ls hw hl
  unfold f_X3_worthAround_52 at hf
  refine lv_istore (lv' := [(8, .int t0), (0, .ref a_this), (1, .int x1), (2, .int x2), (4, .int x4), (5, .ref a_o5), (6, .int x6), (7, .int x7)]) hx hb dX3_worthAround_52 hl (z_lt rfl) rfl (fun ls hl => ?_)
  refine lv_iconst (v := 0) hx hb dX3_worthAround_54 (by decide) ?_
  refine lv_istore (lv' := [(9, .int (0 : Int32)), (8, .int t0), (0, .ref a_this), (1, .int x1), (2, .int x2), (4, .int x4), (5, .ref a_o5), (6, .int x6), (7, .int x7)]) hx hb dX3_worthAround_55 hl (z_lt rfl) rfl (fun ls hl => ?_)
  refine lv_iconst (v := 0) hx hb dX3_worthAround_57 (by decide) ?_
  refine lv_istore (lv' := [(10, .int (0 : Int32)), (9, .int (0 : Int32)), (8, .int t0), (0, .ref a_this), (1, .int x1), (2, .int x2), (4, .int x4), (5, .ref a_o5), (6, .int x6), (7, .int x7)]) hx hb dX3_worthAround_58 hl (z_lt rfl) rfl (fun ls hl => ?_)
  exact w_X3_worthAround_60 E  n _ _ _ _ _ _ _ _ _ _ _ _ _ _ _ _ _ _ _ hf _ _ _ hw (lv_sub hl [3, 4, 5, 6, 7, 8, 9, 2, 1, 0] rfl)
set_option maxHeartbeats 4000000 in
set_option maxRecDepth 100000 in
theorem w_X3_worthAround_32 {n : Nat} (E : zE p s m args meth c cX3_worthAround 15 (some .int) zwX3_worthAround RX3) : ∀ (t0 : Int32) (x1 : Int32) (x2 : Int32) (x3 : Int32) (x4 : Int32) (x6 : Int32) (v_street_pitches : Int32) (v_street_rows : Nat → Int32) (v_table : Nat → Int32) (n_table : Nat) (v_sets : Int32) (v_kinds : Int32) (v_levels : Int32) (v_kindOf : Nat → Int32) (v_o5_table : Nat → Int32) (n_o5_table : Nat) (v_o5_sets : Int32) (v_o5_kinds : Int32) (v_o5_levels : Int32), f_X3_worthAround_32 n t0 x1 x2 x3 x4 x6 v_street_pitches v_street_rows v_table n_table v_sets v_kinds v_levels v_kindOf v_o5_table n_o5_table v_o5_sets v_o5_kinds v_o5_levels = some res → ∀ (H : Heap) (locs : List Loc) (ls : Array Slot), zW D (zT cI cZ cM) A s [(a_this, .inr (3, [.ref a_street, .ref a_table, .int v_sets, .int v_kinds, .int v_levels, .ref a_worths, .ref a_needs, .ref a_kindsBehind, .ref a_kindOf, .ref a_barred])), (a_street, .inr (2, [.int v_street_pitches, .ref a_street_rows, .ref a_street_rents, .ref a_street_roofs, .int v_street_traders, .ref a_street_trades, .ref a_street_fronts, .ref a_street_limits, .ref a_street_needy, .ref a_street_clashes, .int v_street_covers, .ref a_street_starts, .ref a_street_standing, .int v_street_coversBusy])), (a_street_rows, .inl (cI, 24, .inl v_street_rows)), (a_table, .inl (cI, n_table, .inl v_table)), (a_kindOf, .inl (cI, 8, .inl v_kindOf)), (a_o5, .inr (3, [.ref a_o5_street, .ref a_o5_table, .int v_o5_sets, .int v_o5_kinds, .int v_o5_levels, .ref a_o5_worths, .ref a_o5_needs, .ref a_o5_kindsBehind, .ref a_o5_kindOf, .ref a_o5_barred])), (a_o5_table, .inl (cI, n_o5_table, .inl v_o5_table))] H locs → lv_has ls 15 [(0, .ref a_this), (1, .int x1), (2, .int x2), (3, .int x3), (4, .int x4), (5, .ref a_o5), (6, .int x6)] → W p l e rmX3_worthAround s m args below meth c H locs 0 0 (MQ below (zQi D (zT cI cZ cM) res [(a_this, .inr (3, [.ref a_street, .ref a_table, .int v_sets, .int v_kinds, .int v_levels, .ref a_worths, .ref a_needs, .ref a_kindsBehind, .ref a_kindOf, .ref a_barred])), (a_street, .inr (2, [.int v_street_pitches, .ref a_street_rows, .ref a_street_rents, .ref a_street_roofs, .int v_street_traders, .ref a_street_trades, .ref a_street_fronts, .ref a_street_limits, .ref a_street_needy, .ref a_street_clashes, .int v_street_covers, .ref a_street_starts, .ref a_street_standing, .int v_street_coversBusy])), (a_street_rows, .inl (cI, 24, .inl v_street_rows)), (a_table, .inl (cI, n_table, .inl v_table)), (a_kindOf, .inl (cI, 8, .inl v_kindOf)), (a_o5, .inr (3, [.ref a_o5_street, .ref a_o5_table, .int v_o5_sets, .int v_o5_kinds, .int v_o5_levels, .ref a_o5_worths, .ref a_o5_needs, .ref a_o5_kindsBehind, .ref a_o5_kindOf, .ref a_o5_barred])), (a_o5_table, .inl (cI, n_o5_table, .inl v_o5_table))] A) args s 0 0 A) (F0 m 32 ls [.int t0]) := by
  obtain ⟨⟨hx, hb, hml, hown, hts⟩, hr, hlocks⟩ := id E
  intro t0 x1 x2 x3 x4 x6 v_street_pitches v_street_rows v_table n_table v_sets v_kinds v_levels v_kindOf v_o5_table n_o5_table v_o5_sets v_o5_kinds v_o5_levels hf H locs ls hw hl
  unfold f_X3_worthAround_32 at hf
  refine lv_istore (lv' := [(7, .int t0), (0, .ref a_this), (1, .int x1), (2, .int x2), (3, .int x3), (4, .int x4), (5, .ref a_o5), (6, .int x6)]) hx hb dX3_worthAround_32 hl (z_lt rfl) rfl (fun ls hl => ?_)
  refine lv_iload_n hx hb dX3_worthAround_34 rfl (lv_at hl 4 rfl) ?_
  refine lv_iconst (v := -1) hx hb dX3_worthAround_35 (by decide) ?_
  refine lv_icmp_ne (tgt := 43) hx hb dX3_worthAround_36 (by decide) (fun hc => ?_) (fun hc => ?_)
  · have hf := oI_neg hc hf
    refine lv_aload_n hx hb dX3_worthAround_43 rfl (lv_at hl 1 rfl) ?_
    refine lv_iload_n hx hb dX3_worthAround_44 rfl (lv_at hl 4 rfl) ?_
    refine lv_iload_n hx hb dX3_worthAround_45 rfl (lv_at hl 3 rfl) ?_
    refine lv_iconst (v := 1) hx hb dX3_worthAround_46 (by decide) ?_
    refine lv_isub hx hb dX3_worthAround_47 ?_
    refine lv_iload_n hx hb dX3_worthAround_48 rfl (lv_at hl 3 rfl) ?_
    obtain ⟨r_13, h_14, hf⟩ := oB_elim hf
    refine z_callVi (ws' := [(a_this, .inr (3, [.ref a_street, .ref a_table, .int v_sets, .int v_kinds, .int v_levels, .ref a_worths, .ref a_needs, .ref a_kindsBehind, .ref a_kindOf, .ref a_barred])), (a_street, .inr (2, [.int v_street_pitches, .ref a_street_rows, .ref a_street_rents, .ref a_street_roofs, .int v_street_traders, .ref a_street_trades, .ref a_street_fronts, .ref a_street_limits, .ref a_street_needy, .ref a_street_clashes, .int v_street_covers, .ref a_street_starts, .ref a_street_standing, .int v_street_coversBusy])), (a_street_rows, .inl (cI, 24, .inl v_street_rows)), (a_table, .inl (cI, n_table, .inl v_table)), (a_kindOf, .inl (cI, 8, .inl v_kindOf)), (a_o5, .inr (3, [.ref a_o5_street, .ref a_o5_table, .int v_o5_sets, .int v_o5_kinds, .int v_o5_levels, .ref a_o5_worths, .ref a_o5_needs, .ref a_o5_kindsBehind, .ref a_o5_kindOf, .ref a_o5_barred])), (a_o5_table, .inl (cI, n_o5_table, .inl v_o5_table))]) (wr := [(a_table, .inl (cI, n_table, .inl v_table)), (a_o5, .inr (3, [.ref a_o5_street, .ref a_o5_table, .int v_o5_sets, .int v_o5_kinds, .int v_o5_levels, .ref a_o5_worths, .ref a_o5_needs, .ref a_o5_kindsBehind, .ref a_o5_kindOf, .ref a_o5_barred])), (a_o5_table, .inl (cI, n_o5_table, .inl v_o5_table))]) (As := [.int x3, .int (x2 - (1 : Int32)), .int x2]) (rest := []) E.1 hl hw (c_X3_kindBeside h_14) (cwV 3 hts (z_gV mw_206 mw_207 mw_208 mw_187 mw_209) rfl rfl rfl (by decide +kernel) ⟨(Nat.le_of_ble_eq_true rfl), (Nat.le_of_ble_eq_true rfl)⟩) 7 [(0, 3), (4, 1)] [(3, 1), (5, 2)] rfl rfl rfl rfl rfl rfl (by decide +kernel) rfl (q0 := 0) rfl rfl rfl (Nat.le_of_ble_eq_true rfl) dX3_worthAround_49 ⟨Nat.le_of_ble_eq_true rfl, Nat.le_of_ble_eq_true rfl⟩ (fun H locs hw => ?_)
    exact w_X3_worthAround_52 E  _ _ _ _ _ _ _ _ _ _ _ _ _ _ _ _ _ hf _ _ _ hw (lv_sub hl [1, 2, 3, 5, 6, 7, 0] rfl)
  · have hf := oI_pos hc hf
    refine lv_iconst (v := 0) hx hb dX3_worthAround_39 (by decide) ?_
    refine lv_goto (tgt := 52) hx hb dX3_worthAround_40 (by decide) ?_
    exact w_X3_worthAround_52 E  _ _ _ _ _ _ _ _ _ _ _ _ _ _ _ _ _ hf _ _ _ hw (lv_sub hl [1, 2, 3, 5, 6, 7, 0] rfl)
set_option maxHeartbeats 4000000 in
set_option maxRecDepth 100000 in
theorem w_X3_worthAround_12 {n : Nat} (E : zE p s m args meth c cX3_worthAround 15 (some .int) zwX3_worthAround RX3) : ∀ (t0 : Int32) (x1 : Int32) (x2 : Int32) (x3 : Int32) (x4 : Int32) (v_street_pitches : Int32) (v_street_rows : Nat → Int32) (v_table : Nat → Int32) (n_table : Nat) (v_sets : Int32) (v_kinds : Int32) (v_levels : Int32) (v_kindOf : Nat → Int32) (v_o5_table : Nat → Int32) (n_o5_table : Nat) (v_o5_sets : Int32) (v_o5_kinds : Int32) (v_o5_levels : Int32), f_X3_worthAround_12 n t0 x1 x2 x3 x4 v_street_pitches v_street_rows v_table n_table v_sets v_kinds v_levels v_kindOf v_o5_table n_o5_table v_o5_sets v_o5_kinds v_o5_levels = some res → ∀ (H : Heap) (locs : List Loc) (ls : Array Slot), zW D (zT cI cZ cM) A s [(a_this, .inr (3, [.ref a_street, .ref a_table, .int v_sets, .int v_kinds, .int v_levels, .ref a_worths, .ref a_needs, .ref a_kindsBehind, .ref a_kindOf, .ref a_barred])), (a_street, .inr (2, [.int v_street_pitches, .ref a_street_rows, .ref a_street_rents, .ref a_street_roofs, .int v_street_traders, .ref a_street_trades, .ref a_street_fronts, .ref a_street_limits, .ref a_street_needy, .ref a_street_clashes, .int v_street_covers, .ref a_street_starts, .ref a_street_standing, .int v_street_coversBusy])), (a_street_rows, .inl (cI, 24, .inl v_street_rows)), (a_table, .inl (cI, n_table, .inl v_table)), (a_kindOf, .inl (cI, 8, .inl v_kindOf)), (a_o5, .inr (3, [.ref a_o5_street, .ref a_o5_table, .int v_o5_sets, .int v_o5_kinds, .int v_o5_levels, .ref a_o5_worths, .ref a_o5_needs, .ref a_o5_kindsBehind, .ref a_o5_kindOf, .ref a_o5_barred])), (a_o5_table, .inl (cI, n_o5_table, .inl v_o5_table))] H locs → lv_has ls 15 [(0, .ref a_this), (1, .int x1), (2, .int x2), (3, .int x3), (4, .int x4), (5, .ref a_o5)] → W p l e rmX3_worthAround s m args below meth c H locs 0 0 (MQ below (zQi D (zT cI cZ cM) res [(a_this, .inr (3, [.ref a_street, .ref a_table, .int v_sets, .int v_kinds, .int v_levels, .ref a_worths, .ref a_needs, .ref a_kindsBehind, .ref a_kindOf, .ref a_barred])), (a_street, .inr (2, [.int v_street_pitches, .ref a_street_rows, .ref a_street_rents, .ref a_street_roofs, .int v_street_traders, .ref a_street_trades, .ref a_street_fronts, .ref a_street_limits, .ref a_street_needy, .ref a_street_clashes, .int v_street_covers, .ref a_street_starts, .ref a_street_standing, .int v_street_coversBusy])), (a_street_rows, .inl (cI, 24, .inl v_street_rows)), (a_table, .inl (cI, n_table, .inl v_table)), (a_kindOf, .inl (cI, 8, .inl v_kindOf)), (a_o5, .inr (3, [.ref a_o5_street, .ref a_o5_table, .int v_o5_sets, .int v_o5_kinds, .int v_o5_levels, .ref a_o5_worths, .ref a_o5_needs, .ref a_o5_kindsBehind, .ref a_o5_kindOf, .ref a_o5_barred])), (a_o5_table, .inl (cI, n_o5_table, .inl v_o5_table))] A) args s 0 0 A) (F0 m 12 ls [.int t0]) := by
  obtain ⟨⟨hx, hb, hml, hown, hts⟩, hr, hlocks⟩ := id E
  intro t0 x1 x2 x3 x4 v_street_pitches v_street_rows v_table n_table v_sets v_kinds v_levels v_kindOf v_o5_table n_o5_table v_o5_sets v_o5_kinds v_o5_levels hf H locs ls hw hl
  unfold f_X3_worthAround_12 at hf
  refine lv_istore (lv' := [(6, .int t0), (0, .ref a_this), (1, .int x1), (2, .int x2), (3, .int x3), (4, .int x4), (5, .ref a_o5)]) hx hb dX3_worthAround_12 hl (z_lt rfl) rfl (fun ls hl => ?_)
  refine lv_iload_n hx hb dX3_worthAround_14 rfl (lv_at hl 4 rfl) ?_
  refine lv_iconst (v := -1) hx hb dX3_worthAround_15 (by decide) ?_
  refine lv_icmp_ne (tgt := 23) hx hb dX3_worthAround_16 (by decide) (fun hc => ?_) (fun hc => ?_)
  · have hf := oI_neg hc hf
    refine lv_aload_n hx hb dX3_worthAround_23 rfl (lv_at hl 1 rfl) ?_
    refine lv_iload_n hx hb dX3_worthAround_24 rfl (lv_at hl 4 rfl) ?_
    refine lv_iload_n hx hb dX3_worthAround_25 rfl (lv_at hl 2 rfl) ?_
    refine lv_iconst (v := 1) hx hb dX3_worthAround_26 (by decide) ?_
    refine lv_isub hx hb dX3_worthAround_27 ?_
    refine lv_iload_n hx hb dX3_worthAround_28 rfl (lv_at hl 2 rfl) ?_
    obtain ⟨r_15, h_16, hf⟩ := oB_elim hf
    refine z_callVi (ws' := [(a_this, .inr (3, [.ref a_street, .ref a_table, .int v_sets, .int v_kinds, .int v_levels, .ref a_worths, .ref a_needs, .ref a_kindsBehind, .ref a_kindOf, .ref a_barred])), (a_street, .inr (2, [.int v_street_pitches, .ref a_street_rows, .ref a_street_rents, .ref a_street_roofs, .int v_street_traders, .ref a_street_trades, .ref a_street_fronts, .ref a_street_limits, .ref a_street_needy, .ref a_street_clashes, .int v_street_covers, .ref a_street_starts, .ref a_street_standing, .int v_street_coversBusy])), (a_street_rows, .inl (cI, 24, .inl v_street_rows)), (a_table, .inl (cI, n_table, .inl v_table)), (a_kindOf, .inl (cI, 8, .inl v_kindOf)), (a_o5, .inr (3, [.ref a_o5_street, .ref a_o5_table, .int v_o5_sets, .int v_o5_kinds, .int v_o5_levels, .ref a_o5_worths, .ref a_o5_needs, .ref a_o5_kindsBehind, .ref a_o5_kindOf, .ref a_o5_barred])), (a_o5_table, .inl (cI, n_o5_table, .inl v_o5_table))]) (wr := [(a_table, .inl (cI, n_table, .inl v_table)), (a_o5, .inr (3, [.ref a_o5_street, .ref a_o5_table, .int v_o5_sets, .int v_o5_kinds, .int v_o5_levels, .ref a_o5_worths, .ref a_o5_needs, .ref a_o5_kindsBehind, .ref a_o5_kindOf, .ref a_o5_barred])), (a_o5_table, .inl (cI, n_o5_table, .inl v_o5_table))]) (As := [.int x3, .int (x1 - (1 : Int32)), .int x1]) (rest := []) E.1 hl hw (c_X3_kindBeside h_16) (cwV 3 hts (z_gV mw_206 mw_207 mw_208 mw_187 mw_209) rfl rfl rfl (by decide +kernel) ⟨(Nat.le_of_ble_eq_true rfl), (Nat.le_of_ble_eq_true rfl)⟩) 7 [(0, 3), (4, 1)] [(3, 1), (5, 2)] rfl rfl rfl rfl rfl rfl (by decide +kernel) rfl (q0 := 0) rfl rfl rfl (Nat.le_of_ble_eq_true rfl) dX3_worthAround_29 ⟨Nat.le_of_ble_eq_true rfl, Nat.le_of_ble_eq_true rfl⟩ (fun H locs hw => ?_)
    exact w_X3_worthAround_32 E  _ _ _ _ _ _ _ _ _ _ _ _ _ _ _ _ _ _ _ hf _ _ _ hw (lv_sub hl [1, 2, 3, 4, 5, 6, 0] rfl)
  · have hf := oI_pos hc hf
    refine lv_iconst (v := 0) hx hb dX3_worthAround_19 (by decide) ?_
    refine lv_goto (tgt := 32) hx hb dX3_worthAround_20 (by decide) ?_
    exact w_X3_worthAround_32 E  _ _ _ _ _ _ _ _ _ _ _ _ _ _ _ _ _ _ _ hf _ _ _ hw (lv_sub hl [1, 2, 3, 4, 5, 6, 0] rfl)
set_option maxHeartbeats 4000000 in
set_option maxRecDepth 100000 in
theorem c_X3_worthAround {l : Launch} {D : va_G} {cI cZ cM : ClassId} {a_this a_street a_table a_worths a_needs a_kindsBehind a_kindOf a_barred a_street_rows a_street_rents a_street_roofs a_street_trades a_street_fronts a_street_limits a_street_needy a_street_clashes a_street_starts a_street_standing a_o5 a_o5_street a_o5_table a_o5_worths a_o5_needs a_o5_kindsBehind a_o5_kindOf a_o5_barred : Nat} {v_street_traders : Int32} {v_street_covers : Int32} {v_street_coversBusy : Int32} {res : Int32} {sz : Nat} {n : Nat} {v_street_pitches : Int32} {v_street_rows : Nat → Int32} {v_table : Nat → Int32} {n_table : Nat} {v_sets : Int32} {v_kinds : Int32} {v_levels : Int32} {v_kindOf : Nat → Int32} {v_o5_table : Nat → Int32} {n_o5_table : Nat} {v_o5_sets : Int32} {v_o5_kinds : Int32} {v_o5_levels : Int32} {x1 : Int32} {x2 : Int32} {x3 : Int32} {x4 : Int32} (hf : f_X3_worthAround n v_street_pitches v_street_rows v_table n_table v_sets v_kinds v_levels v_kindOf v_o5_table n_o5_table v_o5_sets v_o5_kinds v_o5_levels x1 x2 x3 x4 = some res) : Met l yX3_worthAround zwX3_worthAround rmX3_worthAround (zPc D (zT cI cZ cM) [.ref a_this, .int x1, .int x2, .int x3, .int x4, .ref a_o5] [(a_this, .inr (3, [.ref a_street, .ref a_table, .int v_sets, .int v_kinds, .int v_levels, .ref a_worths, .ref a_needs, .ref a_kindsBehind, .ref a_kindOf, .ref a_barred])), (a_street, .inr (2, [.int v_street_pitches, .ref a_street_rows, .ref a_street_rents, .ref a_street_roofs, .int v_street_traders, .ref a_street_trades, .ref a_street_fronts, .ref a_street_limits, .ref a_street_needy, .ref a_street_clashes, .int v_street_covers, .ref a_street_starts, .ref a_street_standing, .int v_street_coversBusy])), (a_street_rows, .inl (cI, 24, .inl v_street_rows)), (a_table, .inl (cI, n_table, .inl v_table)), (a_kindOf, .inl (cI, 8, .inl v_kindOf)), (a_o5, .inr (3, [.ref a_o5_street, .ref a_o5_table, .int v_o5_sets, .int v_o5_kinds, .int v_o5_levels, .ref a_o5_worths, .ref a_o5_needs, .ref a_o5_kindsBehind, .ref a_o5_kindOf, .ref a_o5_barred])), (a_o5_table, .inl (cI, n_o5_table, .inl v_o5_table))] sz) (zQi D (zT cI cZ cM) res [(a_this, .inr (3, [.ref a_street, .ref a_table, .int v_sets, .int v_kinds, .int v_levels, .ref a_worths, .ref a_needs, .ref a_kindsBehind, .ref a_kindOf, .ref a_barred])), (a_street, .inr (2, [.int v_street_pitches, .ref a_street_rows, .ref a_street_rents, .ref a_street_roofs, .int v_street_traders, .ref a_street_trades, .ref a_street_fronts, .ref a_street_limits, .ref a_street_needy, .ref a_street_clashes, .int v_street_covers, .ref a_street_starts, .ref a_street_standing, .int v_street_coversBusy])), (a_street_rows, .inl (cI, 24, .inl v_street_rows)), (a_table, .inl (cI, n_table, .inl v_table)), (a_kindOf, .inl (cI, 8, .inl v_kindOf)), (a_o5, .inr (3, [.ref a_o5_street, .ref a_o5_table, .int v_o5_sets, .int v_o5_kinds, .int v_o5_levels, .ref a_o5_worths, .ref a_o5_needs, .ref a_o5_kindsBehind, .ref a_o5_kindOf, .ref a_o5_barred])), (a_o5_table, .inl (cI, n_o5_table, .inl v_o5_table))] (va_A [(a_this, .inr (3, [.ref a_street, .ref a_table, .int v_sets, .int v_kinds, .int v_levels, .ref a_worths, .ref a_needs, .ref a_kindsBehind, .ref a_kindOf, .ref a_barred])), (a_street, .inr (2, [.int v_street_pitches, .ref a_street_rows, .ref a_street_rents, .ref a_street_roofs, .int v_street_traders, .ref a_street_trades, .ref a_street_fronts, .ref a_street_limits, .ref a_street_needy, .ref a_street_clashes, .int v_street_covers, .ref a_street_starts, .ref a_street_standing, .int v_street_coversBusy])), (a_street_rows, .inl (cI, 24, .inl v_street_rows)), (a_table, .inl (cI, n_table, .inl v_table)), (a_kindOf, .inl (cI, 8, .inl v_kindOf)), (a_o5, .inr (3, [.ref a_o5_street, .ref a_o5_table, .int v_o5_sets, .int v_o5_kinds, .int v_o5_levels, .ref a_o5_worths, .ref a_o5_needs, .ref a_o5_kindsBehind, .ref a_o5_kindOf, .ref a_o5_barred])), (a_o5_table, .inl (cI, n_o5_table, .inl v_o5_table))] sz)) 0 0 (va_A [(a_this, .inr (3, [.ref a_street, .ref a_table, .int v_sets, .int v_kinds, .int v_levels, .ref a_worths, .ref a_needs, .ref a_kindsBehind, .ref a_kindOf, .ref a_barred])), (a_street, .inr (2, [.int v_street_pitches, .ref a_street_rows, .ref a_street_rents, .ref a_street_roofs, .int v_street_traders, .ref a_street_trades, .ref a_street_fronts, .ref a_street_limits, .ref a_street_needy, .ref a_street_clashes, .int v_street_covers, .ref a_street_starts, .ref a_street_standing, .int v_street_coversBusy])), (a_street_rows, .inl (cI, 24, .inl v_street_rows)), (a_table, .inl (cI, n_table, .inl v_table)), (a_kindOf, .inl (cI, 8, .inl v_kindOf)), (a_o5, .inr (3, [.ref a_o5_street, .ref a_o5_table, .int v_o5_sets, .int v_o5_kinds, .int v_o5_levels, .ref a_o5_worths, .ref a_o5_needs, .ref a_o5_kindsBehind, .ref a_o5_kindOf, .ref a_o5_barred])), (a_o5_table, .inl (cI, n_o5_table, .inl v_o5_table))] sz) := by
  refine z_met (cc := cX3_worthAround) (maxL := 15) (ret := (some .int)) (by decide) rfl (Nat.le_of_ble_eq_true rfl) ?_
  intro p e s m below meth c ls E hsz hw hl
  obtain ⟨⟨hx, hb, hml, hown, hts⟩, hr, hlocks⟩ := id E
  have hl : lv_has ls 15 [(0, .ref a_this), (1, .int x1), (2, .int x2), (3, .int x3), (4, .int x4), (5, .ref a_o5)] := hl
  unfold f_X3_worthAround at hf
  refine lv_iload_n hx hb dX3_worthAround_0 rfl (lv_at hl 3 rfl) ?_
  refine lv_iconst (v := -1) hx hb dX3_worthAround_1 (by decide) ?_
  refine lv_icmp_ne (tgt := 9) hx hb dX3_worthAround_2 (by decide) (fun hc => ?_) (fun hc => ?_)
  · have hf := oI_neg hc hf
    refine lv_iconst (v := 1) hx hb dX3_worthAround_9 (by decide) ?_
    refine lv_iload_n hx hb dX3_worthAround_10 rfl (lv_at hl 3 rfl) ?_
    refine lv_ishl hx hb dX3_worthAround_11 ?_
    exact w_X3_worthAround_12 E  _ _ _ _ _ _ _ _ _ _ _ _ _ _ _ _ _ _ hf _ _ _ hw (lv_sub hl [0, 1, 2, 3, 4, 5] rfl)
  · have hf := oI_pos hc hf
    refine lv_iconst (v := 0) hx hb dX3_worthAround_5 (by decide) ?_
    refine lv_goto (tgt := 12) hx hb dX3_worthAround_6 (by decide) ?_
    exact w_X3_worthAround_12 E  _ _ _ _ _ _ _ _ _ _ _ _ _ _ _ _ _ _ hf _ _ _ hw (lv_sub hl [0, 1, 2, 3, 4, 5] rfl)
end
