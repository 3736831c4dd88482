/-! X6_isPitch -/
section
variable {p : Program} {l : Launch} {e : Env} {s : State} {m : MethodId} {args : Array Value} {below : List Frame} {meth : Method} {c : Code} {D : va_G} {A : Nat → Prop} {cI cZ cM : ClassId} {a_this a_a a_fresh a_kept a_buffer a_best a_rentBy a_bareBy a_aheadBy a_isEdge a_tried a_stands a_found a_foundOn a_moving : Nat} {v_keptMany : Int32} {v_thrown : Int32} {v_buffered : Int32} {v_size : Int32} {v_at : Int32} {v_behind : Int32} {v_kind : Int32} {v_wrong : Int32} {v_wrongAt : Int32} {v_errorAt : Int32} {v_number : Int64} {v_movingMany : Int32} {v_foundIncome : Int32} {v_foundMoves : Int32} {res : Int32}
def rmX6_isPitch : Room := { frames := 1, cells := 0, slots := 0, locals := 25 }
abbrev zwX6_isPitch : List Cond := Cond.code yX6_isPitch cX6_isPitch 2 (some .boolean) :: wsAll
set_option maxHeartbeats 4000000 in
set_option maxRecDepth 100000 in
theorem c_X6_isPitch {l : Launch} {D : va_G} {cI cZ cM : ClassId} {a_this a_a a_fresh a_kept a_buffer a_best a_rentBy a_bareBy a_aheadBy a_isEdge a_tried a_stands a_found a_foundOn a_moving : Nat} {v_keptMany : Int32} {v_thrown : Int32} {v_buffered : Int32} {v_size : Int32} {v_at : Int32} {v_behind : Int32} {v_kind : Int32} {v_wrong : Int32} {v_wrongAt : Int32} {v_errorAt : Int32} {v_number : Int64} {v_movingMany : Int32} {v_foundIncome : Int32} {v_foundMoves : Int32} {res : Int32} {sz : Nat} {v_a : Nat → Int32} {x1 : Int32} (hf : f_X6_isPitch v_a x1 = some res) : Met l yX6_isPitch zwX6_isPitch rmX6_isPitch (zPc D (zT cI cZ cM) [.ref a_this, .int x1] [(a_this, .inr (6, [.ref a_a, .ref a_fresh, .ref a_kept, .int v_keptMany, .int v_thrown, .ref a_buffer, .int v_buffered, .int v_size, .int v_at, .int v_behind, .int v_kind, .int v_wrong, .int v_wrongAt, .int v_errorAt, .long v_number, .ref a_best, .ref a_rentBy, .ref a_bareBy, .ref a_aheadBy, .ref a_isEdge, .ref a_tried, .ref a_stands, .ref a_found, .ref a_foundOn, .ref a_moving, .int v_movingMany, .int v_foundIncome, .int v_foundMoves])), (a_a, .inl (cI, 180, .inl v_a))] sz) (zQi D (zT cI cZ cM) res [(a_this, .inr (6, [.ref a_a, .ref a_fresh, .ref a_kept, .int v_keptMany, .int v_thrown, .ref a_buffer, .int v_buffered, .int v_size, .int v_at, .int v_behind, .int v_kind, .int v_wrong, .int v_wrongAt, .int v_errorAt, .long v_number, .ref a_best, .ref a_rentBy, .ref a_bareBy, .ref a_aheadBy, .ref a_isEdge, .ref a_tried, .ref a_stands, .ref a_found, .ref a_foundOn, .ref a_moving, .int v_movingMany, .int v_foundIncome, .int v_foundMoves])), (a_a, .inl (cI, 180, .inl v_a))] (va_A [(a_this, .inr (6, [.ref a_a, .ref a_fresh, .ref a_kept, .int v_keptMany, .int v_thrown, .ref a_buffer, .int v_buffered, .int v_size, .int v_at, .int v_behind, .int v_kind, .int v_wrong, .int v_wrongAt, .int v_errorAt, .long v_number, .ref a_best, .ref a_rentBy, .ref a_bareBy, .ref a_aheadBy, .ref a_isEdge, .ref a_tried, .ref a_stands, .ref a_found, .ref a_foundOn, .ref a_moving, .int v_movingMany, .int v_foundIncome, .int v_foundMoves])), (a_a, .inl (cI, 180, .inl v_a))] sz)) 0 0 (va_A [(a_this, .inr (6, [.ref a_a, .ref a_fresh, .ref a_kept, .int v_keptMany, .int v_thrown, .ref a_buffer, .int v_buffered, .int v_size, .int v_at, .int v_behind, .int v_kind, .int v_wrong, .int v_wrongAt, .int v_errorAt, .long v_number, .ref a_best, .ref a_rentBy, .ref a_bareBy, .ref a_aheadBy, .ref a_isEdge, .ref a_tried, .ref a_stands, .ref a_found, .ref a_foundOn, .ref a_moving, .int v_movingMany, .int v_foundIncome, .int v_foundMoves])), (a_a, .inl (cI, 180, .inl v_a))] sz) := by
  refine z_met (cc := cX6_isPitch) (maxL := 2) (ret := (some .boolean)) (by decide) rfl (Nat.le_of_ble_eq_true rfl) ?_
  intro p e s m below meth c ls E hsz hw hl
  obtain ⟨⟨hx, hb, hml, hown, hts⟩, hr, hlocks⟩ := id E
  have hl : lv_has ls 2 [(0, .ref a_this), (1, .int x1)] := hl
  unfold f_X6_isPitch at hf
  refine lv_iload_n hx hb dX6_isPitch_0 rfl (lv_at hl 1 rfl) ?_
  refine lv_i2l hx hb dX6_isPitch_1 rfl ?_
  refine lv_lconst (v := 0) hx hb dX6_isPitch_2 (by decide) ?_
  refine lv_aload_n hx hb dX6_isPitch_3 rfl (lv_at hl 0 rfl) ?_
  refine z_get E.1 hw in_wsX60 0 rfl rfl 0 (z_lt rfl) mw_593 (v := .ref a_a) rfl dX6_isPitch_4 ?_
  refine lv_iconst (v := 1) hx hb dX6_isPitch_7 (by decide) ?_
  obtain ⟨h_1, hf⟩ := oA_elim hf
  refine z_iald E.1 hw 1 0 rfl rfl h_1 dX6_isPitch_8 ?_
  refine lv_iconst (v := 1) hx hb dX6_isPitch_9 (by decide) ?_
  refine lv_isub hx hb dX6_isPitch_10 ?_
  refine lv_i2l hx hb dX6_isPitch_11 rfl ?_
  obtain ⟨r_2, h_3, hf⟩ := oB_elim hf
  refine z_callSi (ws' := [(a_this, .inr (6, [.ref a_a, .ref a_fresh, .ref a_kept, .int v_keptMany, .int v_thrown, .ref a_buffer, .int v_buffered, .int v_size, .int v_at, .int v_behind, .int v_kind, .int v_wrong, .int v_wrongAt, .int v_errorAt, .long v_number, .ref a_best, .ref a_rentBy, .ref a_bareBy, .ref a_aheadBy, .ref a_isEdge, .ref a_tried, .ref a_stands, .ref a_found, .ref a_foundOn, .ref a_moving, .int v_movingMany, .int v_foundIncome, .int v_foundMoves])), (a_a, .inl (cI, 180, .inl v_a))]) (wr := [(a_this, .inr (6, [.ref a_a, .ref a_fresh, .ref a_kept, .int v_keptMany, .int v_thrown, .ref a_buffer, .int v_buffered, .int v_size, .int v_at, .int v_behind, .int v_kind, .int v_wrong, .int v_wrongAt, .int v_errorAt, .long v_number, .ref a_best, .ref a_rentBy, .ref a_bareBy, .ref a_aheadBy, .ref a_isEdge, .ref a_tried, .ref a_stands, .ref a_found, .ref a_foundOn, .ref a_moving, .int v_movingMany, .int v_foundIncome, .int v_foundMoves])), (a_a, .inl (cI, 180, .inl v_a))]) (As := [.long ((x1).toInt64), .long (0 : Int64), .long ((((v_a ((1 : Int32)).toNatClampNeg) - (1 : Int32))).toInt64)]) (rest := []) E.1 hl hw (c_X6_isIn h_3) (va_cwS 3 hts (z_gS mw_595 mw_596 mw_597 mw_598) rfl rfl rfl (by decide +kernel) ⟨(Nat.le_of_ble_eq_true rfl), (Nat.le_of_ble_eq_true rfl)⟩) 2 [] [(0, 2)] rfl rfl rfl rfl rfl rfl (by decide +kernel) rfl rfl (Nat.le_of_ble_eq_true rfl) dX6_isPitch_12 ⟨Nat.le_of_ble_eq_true rfl, Nat.le_of_ble_eq_true rfl⟩ (fun H locs hw => ?_)
  obtain ⟨h_4, hf⟩ := oG_elim hf
  cases hf
  exact z_zret E rfl (z_nar h_4) hw dX6_isPitch_15
end
/-! X6_bestRent -/
section
variable {p : Program} {l : Launch} {e : Env} {s : State} {m : MethodId} {args : Array Value} {below : List Frame} {meth : Method} {c : Code} {D : va_G} {A : Nat → Prop} {cI cZ cM : ClassId} {a_this a_a a_fresh a_kept a_buffer a_best a_rentBy a_bareBy a_aheadBy a_isEdge a_tried a_stands a_found a_foundOn a_moving : Nat} {v_keptMany : Int32} {v_buffered : Int32} {v_size : Int32} {v_at : Int32} {v_behind : Int32} {v_kind : Int32} {v_wrong : Int32} {v_wrongAt : Int32} {v_errorAt : Int32} {v_number : Int64} {v_movingMany : Int32} {v_foundIncome : Int32} {v_foundMoves : Int32} {res : Int32 × (Nat → Int32) × Int32 × (Nat → Int32) × (Nat → Int32) × (Nat → Int32) × (Nat → Int32) × (Nat → Int32)}
def rmX6_bestRent : Room := { frames := 3, cells := 0, slots := 0, locals := 79 }
abbrev zwX6_bestRent : List Cond := Cond.code yX6_bestRent cX6_bestRent 7 (some .int) :: wsAll
set_option maxHeartbeats 4000000 in
set_option maxRecDepth 100000 in
theorem w_X6_bestRent_109 {n : Nat} (E : zE p s m args meth c cX6_bestRent 7 (some .int) zwX6_bestRent RX6) {k48 : Int32 → Int32 → Int32 → Int32 → Int32 → (Nat → Int32) → Int32 → (Nat → Int32) → (Nat → Int32) → (Nat → Int32) → (Nat → Int32) → (Nat → Int32) → Option (Int32 × (Nat → Int32) × Int32 × (Nat → Int32) × (Nat → Int32) × (Nat → Int32) × (Nat → Int32) × (Nat → Int32))} (hk48 : ∀ (x1 : Int32) (x2 : Int32) (x3 : Int32) (x4 : Int32) (x5 : Int32) (v_a : Nat → Int32) (v_thrown : Int32) (v_best : Nat → Int32) (v_rentBy : Nat → Int32) (v_bareBy : Nat → Int32) (v_aheadBy : Nat → Int32) (v_isEdge : Nat → Int32), k48 x1 x2 x3 x4 x5 v_a v_thrown v_best v_rentBy v_bareBy v_aheadBy v_isEdge = some res → ∀ (H : Heap) (locs : List Loc) (ls : Array Slot), zW D (zT cI cZ cM) A s [(a_this, .inr (6, [.ref a_a, .ref a_fresh, .ref a_kept, .int v_keptMany, .int v_thrown, .ref a_buffer, .int v_buffered, .int v_size, .int v_at, .int v_behind, .int v_kind, .int v_wrong, .int v_wrongAt, .int v_errorAt, .long v_number, .ref a_best, .ref a_rentBy, .ref a_bareBy, .ref a_aheadBy, .ref a_isEdge, .ref a_tried, .ref a_stands, .ref a_found, .ref a_foundOn, .ref a_moving, .int v_movingMany, .int v_foundIncome, .int v_foundMoves])), (a_a, .inl (cI, 180, .inl v_a)), (a_best, .inl (cI, 345600, .inl v_best)), (a_rentBy, .inl (cI, 192, .inl v_rentBy)), (a_bareBy, .inl (cI, 192, .inl v_bareBy)), (a_aheadBy, .inl (cI, 192, .inl v_aheadBy)), (a_isEdge, .inl (cZ, 1000, .inl v_isEdge))] H locs → lv_has ls 7 [(0, .ref a_this), (1, .int x1), (2, .int x2), (3, .int x3), (4, .int x4), (5, .int x5)] → W p l e rmX6_bestRent s m args below meth c H locs 0 0 (MQ below (zQi D (zT cI cZ cM) res.1 [(a_this, .inr (6, [.ref a_a, .ref a_fresh, .ref a_kept, .int v_keptMany, .int res.2.2.1, .ref a_buffer, .int v_buffered, .int v_size, .int v_at, .int v_behind, .int v_kind, .int v_wrong, .int v_wrongAt, .int v_errorAt, .long v_number, .ref a_best, .ref a_rentBy, .ref a_bareBy, .ref a_aheadBy, .ref a_isEdge, .ref a_tried, .ref a_stands, .ref a_found, .ref a_foundOn, .ref a_moving, .int v_movingMany, .int v_foundIncome, .int v_foundMoves])), (a_a, .inl (cI, 180, .inl res.2.1)), (a_best, .inl (cI, 345600, .inl res.2.2.2.1)), (a_rentBy, .inl (cI, 192, .inl res.2.2.2.2.1)), (a_bareBy, .inl (cI, 192, .inl res.2.2.2.2.2.1)), (a_aheadBy, .inl (cI, 192, .inl res.2.2.2.2.2.2.1)), (a_isEdge, .inl (cZ, 1000, .inl res.2.2.2.2.2.2.2))] A) args s 0 0 A) (F0 m 48 ls [])) : ∀ (x1 : Int32) (x2 : Int32) (x3 : Int32) (x4 : Int32) (x5 : Int32) (v_a : Nat → Int32) (v_thrown : Int32) (v_best : Nat → Int32) (v_rentBy : Nat → Int32) (v_bareBy : Nat → Int32) (v_aheadBy : Nat → Int32) (v_isEdge : Nat → Int32), f_X6_bestRent_109 n k48 x1 x2 x3 x4 x5 v_a v_thrown v_best v_rentBy v_bareBy v_aheadBy v_isEdge = some res → ∀ (H : Heap) (locs : List Loc) (ls : Array Slot), zW D (zT cI cZ cM) A s [(a_this, .inr (6, [.ref a_a, .ref a_fresh, .ref a_kept, .int v_keptMany, .int v_thrown, .ref a_buffer, .int v_buffered, .int v_size, .int v_at, .int v_behind, .int v_kind, .int v_wrong, .int v_wrongAt, .int v_errorAt, .long v_number, .ref a_best, .ref a_rentBy, .ref a_bareBy, .ref a_aheadBy, .ref a_isEdge, .ref a_tried, .ref a_stands, .ref a_found, .ref a_foundOn, .ref a_moving, .int v_movingMany, .int v_foundIncome, .int v_foundMoves])), (a_a, .inl (cI, 180, .inl v_a)), (a_best, .inl (cI, 345600, .inl v_best)), (a_rentBy, .inl (cI, 192, .inl v_rentBy)), (a_bareBy, .inl (cI, 192, .inl v_bareBy)), (a_aheadBy, .inl (cI, 192, .inl v_aheadBy)), (a_isEdge, .inl (cZ, 1000, .inl v_isEdge))] H locs → lv_has ls 7 [(0, .ref a_this), (1, .int x1), (2, .int x2), (3, .int x3), (4, .int x4), (5, .int x5)] → W p l e rmX6_bestRent s m args below meth c H locs 0 0 (MQ below (zQi D (zT cI cZ cM) res.1 [(a_this, .inr (6, [.ref a_a, .ref a_fresh, .ref a_kept, .int v_keptMany, .int res.2.2.1, .ref a_buffer, .int v_buffered, .int v_size, .int v_at, .int v_behind, .int v_kind, .int v_wrong, .int v_wrongAt, .int v_errorAt, .long v_number, .ref a_best, .ref a_rentBy, .ref a_bareBy, .ref a_aheadBy, .ref a_isEdge, .ref a_tried, .ref a_stands, .ref a_found, .ref a_foundOn, .ref a_moving, .int v_movingMany, .int v_foundIncome, .int v_foundMoves])), (a_a, .inl (cI, 180, .inl res.2.1)), (a_best, .inl (cI, 345600, .inl res.2.2.2.1)), (a_rentBy, .inl (cI, 192, .inl res.2.2.2.2.1)), (a_bareBy, .inl (cI, 192, .inl res.2.2.2.2.2.1)), (a_aheadBy, .inl (cI, 192, .inl res.2.2.2.2.2.2.1)), (a_isEdge, .inl (cZ, 1000, .inl res.2.2.2.2.2.2.2))] A) args s 0 0 A) (F0 m 109 ls []) := by
  obtain ⟨⟨hx, hb, hml, hown, hts⟩, hr, hlocks⟩ := id E
  intro x1 x2 x3 x4 x5 v_a v_thrown v_best v_rentBy v_bareBy v_aheadBy v_isEdge hf H locs ls hw hl
  unfold f_X6_bestRent_109 at hf
  refine lv_iinc (v := (x5 + (1 : Int32))) (lv' := [(5, .int (x5 + (1 : Int32))), (0, .ref a_this), (1, .int x1), (2, .int x2), (3, .int x3), (4, .int x4)]) hx hb dX6_bestRent_109 hl (k := 5) rfl rfl (z_lt rfl) rfl (fun ls hl => ?_)
  refine lv_goto (tgt := 48) hx hb dX6_bestRent_112 (by decide) ?_
  exact hk48 _ _ _ _ _ _ _ _ _ _ _ _ hf _ _ _ hw (lv_sub hl [1, 2, 3, 4, 5, 0] rfl)
set_option maxHeartbeats 4000000 in
set_option maxRecDepth 100000 in
theorem w_X6_bestRent_48 {n : Nat} (E : zE p s m args meth c cX6_bestRent 7 (some .int) zwX6_bestRent RX6) : ∀ (fu : Nat), ∀ (x1 : Int32) (x2 : Int32) (x3 : Int32) (x4 : Int32) (x5 : Int32) (v_a : Nat → Int32) (v_thrown : Int32) (v_best : Nat → Int32) (v_rentBy : Nat → Int32) (v_bareBy : Nat → Int32) (v_aheadBy : Nat → Int32) (v_isEdge : Nat → Int32), f_X6_bestRent_48 n fu x1 x2 x3 x4 x5 v_a v_thrown v_best v_rentBy v_bareBy v_aheadBy v_isEdge = some res → ∀ (H : Heap) (locs : List Loc) (ls : Array Slot), zW D (zT cI cZ cM) A s [(a_this, .inr (6, [.ref a_a, .ref a_fresh, .ref a_kept, .int v_keptMany, .int v_thrown, .ref a_buffer, .int v_buffered, .int v_size, .int v_at, .int v_behind, .int v_kind, .int v_wrong, .int v_wrongAt, .int v_errorAt, .long v_number, .ref a_best, .ref a_rentBy, .ref a_bareBy, .ref a_aheadBy, .ref a_isEdge, .ref a_tried, .ref a_stands, .ref a_found, .ref a_foundOn, .ref a_moving, .int v_movingMany, .int v_foundIncome, .int v_foundMoves])), (a_a, .inl (cI, 180, .inl v_a)), (a_best, .inl (cI, 345600, .inl v_best)), (a_rentBy, .inl (cI, 192, .inl v_rentBy)), (a_bareBy, .inl (cI, 192, .inl v_bareBy)), (a_aheadBy, .inl (cI, 192, .inl v_aheadBy)), (a_isEdge, .inl (cZ, 1000, .inl v_isEdge))] H locs → lv_has ls 7 [(0, .ref a_this), (1, .int x1), (2, .int x2), (3, .int x3), (4, .int x4), (5, .int x5)] → W p l e rmX6_bestRent s m args below meth c H locs 0 0 (MQ below (zQi D (zT cI cZ cM) res.1 [(a_this, .inr (6, [.ref a_a, .ref a_fresh, .ref a_kept, .int v_keptMany, .int res.2.2.1, .ref a_buffer, .int v_buffered, .int v_size, .int v_at, .int v_behind, .int v_kind, .int v_wrong, .int v_wrongAt, .int v_errorAt, .long v_number, .ref a_best, .ref a_rentBy, .ref a_bareBy, .ref a_aheadBy, .ref a_isEdge, .ref a_tried, .ref a_stands, .ref a_found, .ref a_foundOn, .ref a_moving, .int v_movingMany, .int v_foundIncome, .int v_foundMoves])), (a_a, .inl (cI, 180, .inl res.2.1)), (a_best, .inl (cI, 345600, .inl res.2.2.2.1)), (a_rentBy, .inl (cI, 192, .inl res.2.2.2.2.1)), (a_bareBy, .inl (cI, 192, .inl res.2.2.2.2.2.1)), (a_aheadBy, .inl (cI, 192, .inl res.2.2.2.2.2.2.1)), (a_isEdge, .inl (cZ, 1000, .inl res.2.2.2.2.2.2.2))] A) args s 0 0 A) (F0 m 48 ls []) := by
  obtain ⟨⟨hx, hb, hml, hown, hts⟩, hr, hlocks⟩ := id E
  intro fu
  induction fu with
  | zero => intro x1 x2 x3 x4 x5 v_a v_thrown v_best v_rentBy v_bareBy v_aheadBy v_isEdge hf; rw [f_X6_bestRent_48.eq_1] at hf; cases hf
  | succ fu ih =>
    intro x1 x2 x3 x4 x5 v_a v_thrown v_best v_rentBy v_bareBy v_aheadBy v_isEdge hf H locs ls hw hl
    rw [f_X6_bestRent_48.eq_2] at hf
    refine lv_iload hx hb dX6_bestRent_48 (lv_at hl 5 rfl) ?_
    refine lv_sipush (v := 1000) hx hb dX6_bestRent_50 (by decide) ?_
    refine lv_icmp_ge (tgt := 115) hx hb dX6_bestRent_53 (by decide) (fun hc => ?_) (fun hc => ?_)
    · have hf := oI_pos hc hf
      refine lv_aload_n hx hb dX6_bestRent_115 rfl (lv_at hl 0 rfl) ?_
      refine z_get E.1 hw in_wsX60 0 rfl rfl 0 (z_lt rfl) mw_593 (v := .ref a_a) rfl dX6_bestRent_116 ?_
      refine lv_iconst (v := 2) hx hb dX6_bestRent_119 (by decide) ?_
      refine lv_iload_n hx hb dX6_bestRent_120 rfl (lv_at hl 1 rfl) ?_
      refine lv_iadd hx hb dX6_bestRent_121 ?_
      refine lv_iload_n hx hb dX6_bestRent_122 rfl (lv_at hl 2 rfl) ?_
      obtain ⟨h_1, hf⟩ := oA_elim hf
      obtain ⟨v_2, e_v_2, hf⟩ := oL_elim hf
      refine z_iast (ws' := [(a_this, .inr (6, [.ref a_a, .ref a_fresh, .ref a_kept, .int v_keptMany, .int v_thrown, .ref a_buffer, .int v_buffered, .int v_size, .int v_at, .int v_behind, .int v_kind, .int v_wrong, .int v_wrongAt, .int v_errorAt, .long v_number, .ref a_best, .ref a_rentBy, .ref a_bareBy, .ref a_aheadBy, .ref a_isEdge, .ref a_tried, .ref a_stands, .ref a_found, .ref a_foundOn, .ref a_moving, .int v_movingMany, .int v_foundIncome, .int v_foundMoves])), (a_a, .inl (cI, 180, .inl v_2)), (a_best, .inl (cI, 345600, .inl v_best)), (a_rentBy, .inl (cI, 192, .inl v_rentBy)), (a_bareBy, .inl (cI, 192, .inl v_bareBy)), (a_aheadBy, .inl (cI, 192, .inl v_aheadBy)), (a_isEdge, .inl (cZ, 1000, .inl v_isEdge))]) E.1 hw 1 0 rfl rfl h_1 (by subst e_v_2; rfl) dX6_bestRent_123 (fun H locs hw => ?_)
      refine lv_iload hx hb dX6_bestRent_124 (lv_at hl 4 rfl) ?_
      cases hf
      exact z_iret E rfl hw dX6_bestRent_126
    · have hf := oI_neg hc hf
      refine lv_aload_n hx hb dX6_bestRent_56 rfl (lv_at hl 0 rfl) ?_
      refine z_get E.1 hw in_wsX60 0 rfl rfl 19 (z_lt rfl) mw_663 (v := .ref a_isEdge) rfl dX6_bestRent_57 ?_
      refine lv_iload hx hb dX6_bestRent_60 (lv_at hl 5 rfl) ?_
      obtain ⟨h_3, hf⟩ := oA_elim hf
      refine z_zald E.1 hw 6 1 rfl rfl h_3 dX6_bestRent_62 ?_
      refine lv_if_ne (tgt := 69) hx hb dX6_bestRent_63 (by decide) (fun hc => ?_) (fun hc => ?_)
      · have hf := oI_neg hc hf
        refine lv_aload_n hx hb dX6_bestRent_69 rfl (lv_at hl 0 rfl) ?_
        refine z_get E.1 hw in_wsX60 0 rfl rfl 0 (z_lt rfl) mw_593 (v := .ref a_a) rfl dX6_bestRent_70 ?_
        refine lv_iconst (v := 2) hx hb dX6_bestRent_73 (by decide) ?_
        refine lv_iload_n hx hb dX6_bestRent_74 rfl (lv_at hl 1 rfl) ?_
        refine lv_iadd hx hb dX6_bestRent_75 ?_
        refine lv_iload hx hb dX6_bestRent_76 (lv_at hl 5 rfl) ?_
        obtain ⟨h_4, hf⟩ := oA_elim hf
        obtain ⟨v_5, e_v_5, hf⟩ := oL_elim hf
        refine z_iast (ws' := [(a_this, .inr (6, [.ref a_a, .ref a_fresh, .ref a_kept, .int v_keptMany, .int v_thrown, .ref a_buffer, .int v_buffered, .int v_size, .int v_at, .int v_behind, .int v_kind, .int v_wrong, .int v_wrongAt, .int v_errorAt, .long v_number, .ref a_best, .ref a_rentBy, .ref a_bareBy, .ref a_aheadBy, .ref a_isEdge, .ref a_tried, .ref a_stands, .ref a_found, .ref a_foundOn, .ref a_moving, .int v_movingMany, .int v_foundIncome, .int v_foundMoves])), (a_a, .inl (cI, 180, .inl v_5)), (a_best, .inl (cI, 345600, .inl v_best)), (a_rentBy, .inl (cI, 192, .inl v_rentBy)), (a_bareBy, .inl (cI, 192, .inl v_bareBy)), (a_aheadBy, .inl (cI, 192, .inl v_aheadBy)), (a_isEdge, .inl (cZ, 1000, .inl v_isEdge))]) E.1 hw 1 0 rfl rfl h_4 (by subst e_v_5; rfl) dX6_bestRent_78 (fun H locs hw => ?_)
        refine lv_aload_n hx hb dX6_bestRent_79 rfl (lv_at hl 0 rfl) ?_
        refine lv_aload_n hx hb dX6_bestRent_80 rfl (lv_at hl 0 rfl) ?_
        refine z_get E.1 hw in_wsX60 0 rfl rfl 0 (z_lt rfl) mw_593 (v := .ref a_a) rfl dX6_bestRent_81 ?_
        refine lv_sipush (v := 179) hx hb dX6_bestRent_84 (by decide) ?_
        obtain ⟨h_6, hf⟩ := oA_elim hf
        refine z_iald E.1 hw 1 0 rfl rfl h_6 dX6_bestRent_87 ?_
        obtain ⟨r_7, v_8, v_9, v_10, v_11, h_12, hf⟩ := oB5_elim hf
        refine z_callVi (ws' := [(a_this, .inr (6, [.ref a_a, .ref a_fresh, .ref a_kept, .int v_keptMany, .int v_thrown, .ref a_buffer, .int v_buffered, .int v_size, .int v_at, .int v_behind, .int v_kind, .int v_wrong, .int v_wrongAt, .int v_errorAt, .long v_number, .ref a_best, .ref a_rentBy, .ref a_bareBy, .ref a_aheadBy, .ref a_isEdge, .ref a_tried, .ref a_stands, .ref a_found, .ref a_foundOn, .ref a_moving, .int v_movingMany, .int v_foundIncome, .int v_foundMoves])), (a_a, .inl (cI, 180, .inl v_5)), (a_best, .inl (cI, 345600, .inl v_8)), (a_rentBy, .inl (cI, 192, .inl v_9)), (a_bareBy, .inl (cI, 192, .inl v_10)), (a_aheadBy, .inl (cI, 192, .inl v_11)), (a_isEdge, .inl (cZ, 1000, .inl v_isEdge))]) (wr := [(a_isEdge, .inl (cZ, 1000, .inl v_isEdge))]) (As := [.int (v_5 ((179 : Int32)).toNatClampNeg)]) (rest := []) E.1 hl hw (c_X6_plans h_12) (cwV 1 hts (z_gV mw_632 mw_633 mw_634 mw_597 mw_635) rfl rfl rfl (by decide +kernel) ⟨(Nat.le_of_ble_eq_true rfl), (Nat.le_of_ble_eq_true rfl)⟩) 7 [(0, 6)] [(6, 1)] rfl rfl rfl rfl rfl rfl (by decide +kernel) rfl (q0 := 0) rfl rfl rfl (Nat.le_of_ble_eq_true rfl) dX6_bestRent_88 ⟨Nat.le_of_ble_eq_true rfl, Nat.le_of_ble_eq_true rfl⟩ (fun H locs hw => ?_)
        refine lv_istore (lv' := [(6, .int r_7), (0, .ref a_this), (1, .int x1), (2, .int x2), (3, .int x3), (4, .int x4), (5, .int x5)]) hx hb dX6_bestRent_91 hl (z_lt rfl) rfl (fun ls hl => ?_)
        refine lv_iload hx hb dX6_bestRent_93 (lv_at hl 0 rfl) ?_
        refine lv_iload_n hx hb dX6_bestRent_95 rfl (lv_at hl 4 rfl) ?_
        refine lv_icmp_gt (tgt := 102) hx hb dX6_bestRent_96 (by decide) (fun hc => ?_) (fun hc => ?_)
        · have hf := oI_pos hc hf
          refine lv_iload hx hb dX6_bestRent_102 (lv_at hl 0 rfl) ?_
          refine lv_istore_n (lv' := [(3, .int r_7), (6, .int r_7), (0, .ref a_this), (1, .int x1), (2, .int x2), (4, .int x4), (5, .int x5)]) hx hb dX6_bestRent_104 rfl hl (z_lt rfl) rfl (fun ls hl => ?_)
          refine lv_iload hx hb dX6_bestRent_105 (lv_at hl 6 rfl) ?_
          refine lv_istore (lv' := [(4, .int x5), (3, .int r_7), (6, .int r_7), (0, .ref a_this), (1, .int x1), (2, .int x2), (5, .int x5)]) hx hb dX6_bestRent_107 hl (z_lt rfl) rfl (fun ls hl => ?_)
          exact w_X6_bestRent_109 E ih _ _ _ _ _ _ _ _ _ _ _ _ hf _ _ _ hw (lv_sub hl [3, 4, 5, 1, 0, 6] rfl)
        · have hf := oI_neg hc hf
          refine lv_goto (tgt := 109) hx hb dX6_bestRent_99 (by decide) ?_
          exact w_X6_bestRent_109 E ih _ _ _ _ _ _ _ _ _ _ _ _ hf _ _ _ hw (lv_sub hl [1, 2, 3, 4, 5, 6] rfl)
      · have hf := oI_pos hc hf
        refine lv_goto (tgt := 109) hx hb dX6_bestRent_66 (by decide) ?_
        exact w_X6_bestRent_109 E ih _ _ _ _ _ _ _ _ _ _ _ _ hf _ _ _ hw (lv_sub hl [0, 1, 2, 3, 4, 5] rfl)
set_option maxHeartbeats 4000000 in
set_option maxRecDepth 100000 in
theorem w_X6_bestRent_14 {n : Nat} (E : zE p s m args meth c cX6_bestRent 7 (some .int) zwX6_bestRent RX6) : ∀ (t1 : Int32) (x1 : Int32) (v_a : Nat → Int32) (v_thrown : Int32) (v_best : Nat → Int32) (v_rentBy : Nat → Int32) (v_bareBy : Nat → Int32) (v_aheadBy : Nat → Int32) (v_isEdge : Nat → Int32), f_X6_bestRent_14 n t1 x1 v_a v_thrown v_best v_rentBy v_bareBy v_aheadBy v_isEdge = some res → ∀ (H : Heap) (locs : List Loc) (ls : Array Slot), zW D (zT cI cZ cM) A s [(a_this, .inr (6, [.ref a_a, .ref a_fresh, .ref a_kept, .int v_keptMany, .int v_thrown, .ref a_buffer, .int v_buffered, .int v_size, .int v_at, .int v_behind, .int v_kind, .int v_wrong, .int v_wrongAt, .int v_errorAt, .long v_number, .ref a_best, .ref a_rentBy, .ref a_bareBy, .ref a_aheadBy, .ref a_isEdge, .ref a_tried, .ref a_stands, .ref a_found, .ref a_foundOn, .ref a_moving, .int v_movingMany, .int v_foundIncome, .int v_foundMoves])), (a_a, .inl (cI, 180, .inl v_a)), (a_best, .inl (cI, 345600, .inl v_best)), (a_rentBy, .inl (cI, 192, .inl v_rentBy)), (a_bareBy, .inl (cI, 192, .inl v_bareBy)), (a_aheadBy, .inl (cI, 192, .inl v_aheadBy)), (a_isEdge, .inl (cZ, 1000, .inl v_isEdge))] H locs → lv_has ls 7 [(0, .ref a_this), (1, .int x1)] → W p l e rmX6_bestRent s m args below meth c H locs 0 0 (MQ below (zQi D (zT cI cZ cM) res.1 [(a_this, .inr (6, [.ref a_a, .ref a_fresh, .ref a_kept, .int v_keptMany, .int res.2.2.1, .ref a_buffer, .int v_buffered, .int v_size, .int v_at, .int v_behind, .int v_kind, .int v_wrong, .int v_wrongAt, .int v_errorAt, .long v_number, .ref a_best, .ref a_rentBy, .ref a_bareBy, .ref a_aheadBy, .ref a_isEdge, .ref a_tried, .ref a_stands, .ref a_found, .ref a_foundOn, .ref a_moving, .int v_movingMany, .int v_foundIncome, .int v_foundMoves])), (a_a, .inl (cI, 180, .inl res.2.1)), (a_best, .inl (cI, 345600, .inl res.2.2.2.1)), (a_rentBy, .inl (cI, 192, .inl res.2.2.2.2.1)), (a_bareBy, .inl (cI, 192, .inl res.2.2.2.2.2.1)), (a_aheadBy, .inl (cI, 192, .inl res.2.2.2.2.2.2.1)), (a_isEdge, .inl (cZ, 1000, .inl res.2.2.2.2.2.2.2))] A) args s 0 0 A) (F0 m 14 ls [.int t1, .ref a_this]) := by
  obtain ⟨⟨hx, hb, hml, hown, hts⟩, hr, hlocks⟩ := id E
  intro t1 x1 v_a v_thrown v_best v_rentBy v_bareBy v_aheadBy v_isEdge hf H locs ls hw hl
  unfold f_X6_bestRent_14 at hf
  refine z_put (ws' := [(a_this, .inr (6, [.ref a_a, .ref a_fresh, .ref a_kept, .int v_keptMany, .int t1, .ref a_buffer, .int v_buffered, .int v_size, .int v_at, .int v_behind, .int v_kind, .int v_wrong, .int v_wrongAt, .int v_errorAt, .long v_number, .ref a_best, .ref a_rentBy, .ref a_bareBy, .ref a_aheadBy, .ref a_isEdge, .ref a_tried, .ref a_stands, .ref a_found, .ref a_foundOn, .ref a_moving, .int v_movingMany, .int v_foundIncome, .int v_foundMoves])), (a_a, .inl (cI, 180, .inl v_a)), (a_best, .inl (cI, 345600, .inl v_best)), (a_rentBy, .inl (cI, 192, .inl v_rentBy)), (a_bareBy, .inl (cI, 192, .inl v_bareBy)), (a_aheadBy, .inl (cI, 192, .inl v_aheadBy)), (a_isEdge, .inl (cZ, 1000, .inl v_isEdge))]) E.1 hw in_wsX60 tyX6 tyX6_ok nmX6 0 rfl rfl 4 (z_lt rfl) mw_594 rfl rfl rfl (z_lt rfl) rfl dX6_bestRent_14 (fun H locs hw => ?_)
  refine lv_aload_n hx hb dX6_bestRent_17 rfl (lv_at hl 0 rfl) ?_
  refine z_get E.1 hw in_wsX60 0 rfl rfl 4 (z_lt rfl) mw_594 (v := .int t1) rfl dX6_bestRent_18 ?_
  refine lv_if_le (tgt := 26) hx hb dX6_bestRent_21 (by decide) (fun hc => ?_) (fun hc => ?_)
  · have hf := oI_pos hc hf
    refine lv_aload_n hx hb dX6_bestRent_26 rfl (lv_at hl 0 rfl) ?_
    refine lv_iload_n hx hb dX6_bestRent_27 rfl (lv_at hl 1 rfl) ?_
    obtain ⟨v_13, h_14, hf⟩ := oB_elim hf
    refine z_callVv (ws' := [(a_this, .inr (6, [.ref a_a, .ref a_fresh, .ref a_kept, .int v_keptMany, .int t1, .ref a_buffer, .int v_buffered, .int v_size, .int v_at, .int v_behind, .int v_kind, .int v_wrong, .int v_wrongAt, .int v_errorAt, .long v_number, .ref a_best, .ref a_rentBy, .ref a_bareBy, .ref a_aheadBy, .ref a_isEdge, .ref a_tried, .ref a_stands, .ref a_found, .ref a_foundOn, .ref a_moving, .int v_movingMany, .int v_foundIncome, .int v_foundMoves])), (a_a, .inl (cI, 180, .inl v_a)), (a_best, .inl (cI, 345600, .inl v_best)), (a_rentBy, .inl (cI, 192, .inl v_rentBy)), (a_bareBy, .inl (cI, 192, .inl v_bareBy)), (a_aheadBy, .inl (cI, 192, .inl v_aheadBy)), (a_isEdge, .inl (cZ, 1000, .inl v_13))]) (wr := [(a_best, .inl (cI, 345600, .inl v_best)), (a_rentBy, .inl (cI, 192, .inl v_rentBy)), (a_bareBy, .inl (cI, 192, .inl v_bareBy)), (a_aheadBy, .inl (cI, 192, .inl v_aheadBy))]) (As := [.int x1]) (rest := []) E.1 hl hw (c_X6_laysEdges h_14) (cwV 1 hts (z_gV mw_668 mw_669 mw_670 mw_597 mw_671) rfl rfl rfl (by decide +kernel) ⟨(Nat.le_of_ble_eq_true rfl), (Nat.le_of_ble_eq_true rfl)⟩) 7 [(0, 2), (6, 1)] [(2, 4)] rfl rfl rfl rfl rfl rfl (by decide +kernel) rfl (q0 := 0) rfl rfl rfl (Nat.le_of_ble_eq_true rfl) dX6_bestRent_28 ⟨Nat.le_of_ble_eq_true rfl, Nat.le_of_ble_eq_true rfl⟩ (fun H locs hw => ?_)
    refine lv_aload_n hx hb dX6_bestRent_31 rfl (lv_at hl 0 rfl) ?_
    refine z_get E.1 hw in_wsX60 0 rfl rfl 0 (z_lt rfl) mw_593 (v := .ref a_a) rfl dX6_bestRent_32 ?_
    refine lv_iconst (v := 2) hx hb dX6_bestRent_35 (by decide) ?_
    refine lv_iload_n hx hb dX6_bestRent_36 rfl (lv_at hl 1 rfl) ?_
    refine lv_iadd hx hb dX6_bestRent_37 ?_
    obtain ⟨h_15, hf⟩ := oA_elim hf
    refine z_iald E.1 hw 1 0 rfl rfl h_15 dX6_bestRent_38 ?_
    obtain ⟨y_16, e_y_16, hf⟩ := oL_elim hf
    refine z_top e_y_16 ?_
    refine lv_istore_n (lv' := [(2, .int y_16), (0, .ref a_this), (1, .int x1)]) hx hb dX6_bestRent_39 rfl hl (z_lt rfl) rfl (fun ls hl => ?_)
    refine lv_iconst (v := -1) hx hb dX6_bestRent_40 (by decide) ?_
    refine lv_istore_n (lv' := [(3, .int (-1 : Int32)), (2, .int y_16), (0, .ref a_this), (1, .int x1)]) hx hb dX6_bestRent_41 rfl hl (z_lt rfl) rfl (fun ls hl => ?_)
    refine lv_iconst (v := 0) hx hb dX6_bestRent_42 (by decide) ?_
    refine lv_istore (lv' := [(4, .int (0 : Int32)), (3, .int (-1 : Int32)), (2, .int y_16), (0, .ref a_this), (1, .int x1)]) hx hb dX6_bestRent_43 hl (z_lt rfl) rfl (fun ls hl => ?_)
    refine lv_iconst (v := 1) hx hb dX6_bestRent_45 (by decide) ?_
    refine lv_istore (lv' := [(5, .int (1 : Int32)), (4, .int (0 : Int32)), (3, .int (-1 : Int32)), (2, .int y_16), (0, .ref a_this), (1, .int x1)]) hx hb dX6_bestRent_46 hl (z_lt rfl) rfl (fun ls hl => ?_)
    exact w_X6_bestRent_48 E  n _ _ _ _ _ _ _ _ _ _ _ _ hf _ _ _ hw (lv_sub hl [4, 5, 3, 2, 1, 0] rfl)
  · have hf := oI_neg hc hf
    refine lv_iconst (v := 0) hx hb dX6_bestRent_24 (by decide) ?_
    cases hf
    exact z_iret E rfl hw dX6_bestRent_25
set_option maxHeartbeats 4000000 in
set_option maxRecDepth 100000 in
theorem c_X6_bestRent {l : Launch} {D : va_G} {cI cZ cM : ClassId} {a_this a_a a_fresh a_kept a_buffer a_best a_rentBy a_bareBy a_aheadBy a_isEdge a_tried a_stands a_found a_foundOn a_moving : Nat} {v_keptMany : Int32} {v_buffered : Int32} {v_size : Int32} {v_at : Int32} {v_behind : Int32} {v_kind : Int32} {v_wrong : Int32} {v_wrongAt : Int32} {v_errorAt : Int32} {v_number : Int64} {v_movingMany : Int32} {v_foundIncome : Int32} {v_foundMoves : Int32} {res : Int32 × (Nat → Int32) × Int32 × (Nat → Int32) × (Nat → Int32) × (Nat → Int32) × (Nat → Int32) × (Nat → Int32)} {sz : Nat} {n : Nat} {v_a : Nat → Int32} {v_thrown : Int32} {v_best : Nat → Int32} {v_rentBy : Nat → Int32} {v_bareBy : Nat → Int32} {v_aheadBy : Nat → Int32} {v_isEdge : Nat → Int32} {x1 : Int32} (hf : f_X6_bestRent n v_a v_thrown v_best v_rentBy v_bareBy v_aheadBy v_isEdge x1 = some res) : Met l yX6_bestRent zwX6_bestRent rmX6_bestRent (zPc D (zT cI cZ cM) [.ref a_this, .int x1] [(a_this, .inr (6, [.ref a_a, .ref a_fresh, .ref a_kept, .int v_keptMany, .int v_thrown, .ref a_buffer, .int v_buffered, .int v_size, .int v_at, .int v_behind, .int v_kind, .int v_wrong, .int v_wrongAt, .int v_errorAt, .long v_number, .ref a_best, .ref a_rentBy, .ref a_bareBy, .ref a_aheadBy, .ref a_isEdge, .ref a_tried, .ref a_stands, .ref a_found, .ref a_foundOn, .ref a_moving, .int v_movingMany, .int v_foundIncome, .int v_foundMoves])), (a_a, .inl (cI, 180, .inl v_a)), (a_best, .inl (cI, 345600, .inl v_best)), (a_rentBy, .inl (cI, 192, .inl v_rentBy)), (a_bareBy, .inl (cI, 192, .inl v_bareBy)), (a_aheadBy, .inl (cI, 192, .inl v_aheadBy)), (a_isEdge, .inl (cZ, 1000, .inl v_isEdge))] sz) (zQi D (zT cI cZ cM) res.1 [(a_this, .inr (6, [.ref a_a, .ref a_fresh, .ref a_kept, .int v_keptMany, .int res.2.2.1, .ref a_buffer, .int v_buffered, .int v_size, .int v_at, .int v_behind, .int v_kind, .int v_wrong, .int v_wrongAt, .int v_errorAt, .long v_number, .ref a_best, .ref a_rentBy, .ref a_bareBy, .ref a_aheadBy, .ref a_isEdge, .ref a_tried, .ref a_stands, .ref a_found, .ref a_foundOn, .ref a_moving, .int v_movingMany, .int v_foundIncome, .int v_foundMoves])), (a_a, .inl (cI, 180, .inl res.2.1)), (a_best, .inl (cI, 345600, .inl res.2.2.2.1)), (a_rentBy, .inl (cI, 192, .inl res.2.2.2.2.1)), (a_bareBy, .inl (cI, 192, .inl res.2.2.2.2.2.1)), (a_aheadBy, .inl (cI, 192, .inl res.2.2.2.2.2.2.1)), (a_isEdge, .inl (cZ, 1000, .inl res.2.2.2.2.2.2.2))] (va_A [(a_this, .inr (6, [.ref a_a, .ref a_fresh, .ref a_kept, .int v_keptMany, .int v_thrown, .ref a_buffer, .int v_buffered, .int v_size, .int v_at, .int v_behind, .int v_kind, .int v_wrong, .int v_wrongAt, .int v_errorAt, .long v_number, .ref a_best, .ref a_rentBy, .ref a_bareBy, .ref a_aheadBy, .ref a_isEdge, .ref a_tried, .ref a_stands, .ref a_found, .ref a_foundOn, .ref a_moving, .int v_movingMany, .int v_foundIncome, .int v_foundMoves])), (a_a, .inl (cI, 180, .inl v_a)), (a_best, .inl (cI, 345600, .inl v_best)), (a_rentBy, .inl (cI, 192, .inl v_rentBy)), (a_bareBy, .inl (cI, 192, .inl v_bareBy)), (a_aheadBy, .inl (cI, 192, .inl v_aheadBy)), (a_isEdge, .inl (cZ, 1000, .inl v_isEdge))] sz)) 0 0 (va_A [(a_this, .inr (6, [.ref a_a, .ref a_fresh, .ref a_kept, .int v_keptMany, .int v_thrown, .ref a_buffer, .int v_buffered, .int v_size, .int v_at, .int v_behind, .int v_kind, .int v_wrong, .int v_wrongAt, .int v_errorAt, .long v_number, .ref a_best, .ref a_rentBy, .ref a_bareBy, .ref a_aheadBy, .ref a_isEdge, .ref a_tried, .ref a_stands, .ref a_found, .ref a_foundOn, .ref a_moving, .int v_movingMany, .int v_foundIncome, .int v_foundMoves])), (a_a, .inl (cI, 180, .inl v_a)), (a_best, .inl (cI, 345600, .inl v_best)), (a_rentBy, .inl (cI, 192, .inl v_rentBy)), (a_bareBy, .inl (cI, 192, .inl v_bareBy)), (a_aheadBy, .inl (cI, 192, .inl v_aheadBy)), (a_isEdge, .inl (cZ, 1000, .inl v_isEdge))] sz) := by
  refine z_met (cc := cX6_bestRent) (maxL := 7) (ret := (some .int)) (by decide) rfl (Nat.le_of_ble_eq_true rfl) ?_
  intro p e s m below meth c ls E hsz hw hl
  obtain ⟨⟨hx, hb, hml, hown, hts⟩, hr, hlocks⟩ := id E
  have hl : lv_has ls 7 [(0, .ref a_this), (1, .int x1)] := hl
  unfold f_X6_bestRent at hf
  refine lv_aload_n hx hb dX6_bestRent_0 rfl (lv_at hl 0 rfl) ?_
  refine lv_aload_n hx hb dX6_bestRent_1 rfl (lv_at hl 0 rfl) ?_
  refine lv_iload_n hx hb dX6_bestRent_2 rfl (lv_at hl 1 rfl) ?_
  obtain ⟨r_17, h_18, hf⟩ := oB_elim hf
  refine z_callVi (ws' := [(a_this, .inr (6, [.ref a_a, .ref a_fresh, .ref a_kept, .int v_keptMany, .int v_thrown, .ref a_buffer, .int v_buffered, .int v_size, .int v_at, .int v_behind, .int v_kind, .int v_wrong, .int v_wrongAt, .int v_errorAt, .long v_number, .ref a_best, .ref a_rentBy, .ref a_bareBy, .ref a_aheadBy, .ref a_isEdge, .ref a_tried, .ref a_stands, .ref a_found, .ref a_foundOn, .ref a_moving, .int v_movingMany, .int v_foundIncome, .int v_foundMoves])), (a_a, .inl (cI, 180, .inl v_a)), (a_best, .inl (cI, 345600, .inl v_best)), (a_rentBy, .inl (cI, 192, .inl v_rentBy)), (a_bareBy, .inl (cI, 192, .inl v_bareBy)), (a_aheadBy, .inl (cI, 192, .inl v_aheadBy)), (a_isEdge, .inl (cZ, 1000, .inl v_isEdge))]) (wr := [(a_best, .inl (cI, 345600, .inl v_best)), (a_rentBy, .inl (cI, 192, .inl v_rentBy)), (a_bareBy, .inl (cI, 192, .inl v_bareBy)), (a_aheadBy, .inl (cI, 192, .inl v_aheadBy)), (a_isEdge, .inl (cZ, 1000, .inl v_isEdge))]) (As := [.int x1]) (rest := [.ref a_this]) E.1 hl hw (c_X6_isPitch h_18) (cwV 1 hts (z_gV mw_664 mw_665 mw_666 mw_597 mw_667) rfl rfl rfl (by decide +kernel) ⟨(Nat.le_of_ble_eq_true rfl), (Nat.le_of_ble_eq_true rfl)⟩) 7 [(0, 2)] [(2, 5)] rfl rfl rfl rfl rfl rfl (by decide +kernel) rfl (q0 := 0) rfl rfl rfl (Nat.le_of_ble_eq_true rfl) dX6_bestRent_3 ⟨Nat.le_of_ble_eq_true rfl, Nat.le_of_ble_eq_true rfl⟩ (fun H locs hw => ?_)
  refine lv_if_eq (tgt := 13) hx hb dX6_bestRent_6 (by decide) (fun hc => ?_) (fun hc => ?_)
  · have hf := oI_pos hc hf
    refine lv_iconst (v := 1) hx hb dX6_bestRent_13 (by decide) ?_
    exact w_X6_bestRent_14 E  _ _ _ _ _ _ _ _ _ hf _ _ _ hw (lv_sub hl [0, 1] rfl)
  · have hf := oI_neg hc hf
    refine lv_iconst (v := 0) hx hb dX6_bestRent_9 (by decide) ?_
    refine lv_goto (tgt := 14) hx hb dX6_bestRent_10 (by decide) ?_
    exact w_X6_bestRent_14 E  _ _ _ _ _ _ _ _ _ hf _ _ _ hw (lv_sub hl [0, 1] rfl)
end
/-! X6_isClear -/
section
variable {p : Program} {l : Launch} {e : Env} {s : State} {m : MethodId} {args : Array Value} {below : List Frame} {meth : Method} {c : Code} {D : va_G} {A : Nat → Prop} {cI cZ cM : ClassId} {a_this a_a a_fresh a_kept a_buffer a_best a_rentBy a_bareBy a_aheadBy a_isEdge a_tried a_stands a_found a_foundOn a_moving : Nat} {v_keptMany : Int32} {v_thrown : Int32} {v_buffered : Int32} {v_size : Int32} {v_at : Int32} {v_behind : Int32} {v_kind : Int32} {v_wrong : Int32} {v_wrongAt : Int32} {v_errorAt : Int32} {v_number : Int64} {v_movingMany : Int32} {v_foundIncome : Int32} {v_foundMoves : Int32} {res : Int32}
def rmX6_isClear : Room := { frames := 0, cells := 0, slots := 0, locals := 0 }
abbrev zwX6_isClear : List Cond := Cond.code yX6_isClear cX6_isClear 4 (some .boolean) :: wsAll
set_option maxHeartbeats 4000000 in
set_option maxRecDepth 100000 in
theorem w_X6_isClear_2 {n : Nat} (E : zE p s m args meth c cX6_isClear 4 (some .boolean) zwX6_isClear RX6) : ∀ (fu : Nat), ∀ (x1 : Int32) (x2 : Int32) (x3 : Int32) (v_a : Nat → Int32) (v_stands : Nat → Int32), f_X6_isClear_2 n fu x1 x2 x3 v_a v_stands = some res → ∀ (H : Heap) (locs : List Loc) (ls : Array Slot), zW D (zT cI cZ cM) A s [(a_this, .inr (6, [.ref a_a, .ref a_fresh, .ref a_kept, .int v_keptMany, .int v_thrown, .ref a_buffer, .int v_buffered, .int v_size, .int v_at, .int v_behind, .int v_kind, .int v_wrong, .int v_wrongAt, .int v_errorAt, .long v_number, .ref a_best, .ref a_rentBy, .ref a_bareBy, .ref a_aheadBy, .ref a_isEdge, .ref a_tried, .ref a_stands, .ref a_found, .ref a_foundOn, .ref a_moving, .int v_movingMany, .int v_foundIncome, .int v_foundMoves])), (a_a, .inl (cI, 180, .inl v_a)), (a_stands, .inl (cI, 24, .inl v_stands))] H locs → lv_has ls 4 [(0, .ref a_this), (1, .int x1), (2, .int x2), (3, .int x3)] → W p l e rmX6_isClear s m args below meth c H locs 0 0 (MQ below (zQi D (zT cI cZ cM) res [(a_this, .inr (6, [.ref a_a, .ref a_fresh, .ref a_kept, .int v_keptMany, .int v_thrown, .ref a_buffer, .int v_buffered, .int v_size, .int v_at, .int v_behind, .int v_kind, .int v_wrong, .int v_wrongAt, .int v_errorAt, .long v_number, .ref a_best, .ref a_rentBy, .ref a_bareBy, .ref a_aheadBy, .ref a_isEdge, .ref a_tried, .ref a_stands, .ref a_found, .ref a_foundOn, .ref a_moving, .int v_movingMany, .int v_foundIncome, .int v_foundMoves])), (a_a, .inl (cI, 180, .inl v_a)), (a_stands, .inl (cI, 24, .inl v_stands))] A) args s 0 0 A) (F0 m 2 ls []) := by
  obtain ⟨⟨hx, hb, hml, hown, hts⟩, hr, hlocks⟩ := id E
  intro fu
  induction fu with
  | zero => intro x1 x2 x3 v_a v_stands hf; rw [f_X6_isClear_2.eq_1] at hf; cases hf
  | succ fu ih =>
    intro x1 x2 x3 v_a v_stands hf H locs ls hw hl
    rw [f_X6_isClear_2.eq_2] at hf
    refine lv_iload_n hx hb dX6_isClear_2 rfl (lv_at hl 3 rfl) ?_
    refine lv_aload_n hx hb dX6_isClear_3 rfl (lv_at hl 0 rfl) ?_
    refine z_get E.1 hw in_wsX60 0 rfl rfl 0 (z_lt rfl) mw_593 (v := .ref a_a) rfl dX6_isClear_4 ?_
    refine lv_bipush (v := 83) hx hb dX6_isClear_7 (by decide) ?_
    refine lv_iload_n hx hb dX6_isClear_9 rfl (lv_at hl 1 rfl) ?_
    refine lv_iadd hx hb dX6_isClear_10 ?_
    obtain ⟨h_1, hf⟩ := oA_elim hf
    refine z_iald E.1 hw 1 0 rfl rfl h_1 dX6_isClear_11 ?_
    refine lv_icmp_ge (tgt := 35) hx hb dX6_isClear_12 (by decide) (fun hc => ?_) (fun hc => ?_)
    · have hf := oI_pos hc hf
      refine lv_iconst (v := 1) hx hb dX6_isClear_35 (by decide) ?_
      cases hf
      exact z_zret E rfl z_n1 hw dX6_isClear_36
    · have hf := oI_neg hc hf
      refine lv_aload_n hx hb dX6_isClear_15 rfl (lv_at hl 0 rfl) ?_
      refine z_get E.1 hw in_wsX60 0 rfl rfl 21 (z_lt rfl) mw_673 (v := .ref a_stands) rfl dX6_isClear_16 ?_
      refine lv_iload_n hx hb dX6_isClear_19 rfl (lv_at hl 2 rfl) ?_
      refine lv_iload_n hx hb dX6_isClear_20 rfl (lv_at hl 3 rfl) ?_
      refine lv_iadd hx hb dX6_isClear_21 ?_
      obtain ⟨h_2, hf⟩ := oA_elim hf
      refine z_iald E.1 hw 2 0 rfl rfl h_2 dX6_isClear_22 ?_
      refine lv_iconst (v := -1) hx hb dX6_isClear_23 (by decide) ?_
      refine lv_icmp_eq (tgt := 29) hx hb dX6_isClear_24 (by decide) (fun hc => ?_) (fun hc => ?_)
      · have hf := oI_pos hc hf
        refine lv_iinc (v := (x3 + (1 : Int32))) (lv' := [(3, .int (x3 + (1 : Int32))), (0, .ref a_this), (1, .int x1), (2, .int x2)]) hx hb dX6_isClear_29 hl (k := 3) rfl rfl (z_lt rfl) rfl (fun ls hl => ?_)
        refine lv_goto (tgt := 2) hx hb dX6_isClear_32 (by decide) ?_
        exact ih _ _ _ _ _ hf _ _ _ hw (lv_sub hl [1, 2, 3, 0] rfl)
      · have hf := oI_neg hc hf
        refine lv_iconst (v := 0) hx hb dX6_isClear_27 (by decide) ?_
        cases hf
        exact z_zret E rfl z_n0 hw dX6_isClear_28
set_option maxHeartbeats 4000000 in
set_option maxRecDepth 100000 in
theorem c_X6_isClear {l : Launch} {D : va_G} {cI cZ cM : ClassId} {a_this a_a a_fresh a_kept a_buffer a_best a_rentBy a_bareBy a_aheadBy a_isEdge a_tried a_stands a_found a_foundOn a_moving : Nat} {v_keptMany : Int32} {v_thrown : Int32} {v_buffered : Int32} {v_size : Int32} {v_at : Int32} {v_behind : Int32} {v_kind : Int32} {v_wrong : Int32} {v_wrongAt : Int32} {v_errorAt : Int32} {v_number : Int64} {v_movingMany : Int32} {v_foundIncome : Int32} {v_foundMoves : Int32} {res : Int32} {sz : Nat} {n : Nat} {v_a : Nat → Int32} {v_stands : Nat → Int32} {x1 : Int32} {x2 : Int32} (hf : f_X6_isClear n v_a v_stands x1 x2 = some res) : Met l yX6_isClear zwX6_isClear rmX6_isClear (zPc D (zT cI cZ cM) [.ref a_this, .int x1, .int x2] [(a_this, .inr (6, [.ref a_a, .ref a_fresh, .ref a_kept, .int v_keptMany, .int v_thrown, .ref a_buffer, .int v_buffered, .int v_size, .int v_at, .int v_behind, .int v_kind, .int v_wrong, .int v_wrongAt, .int v_errorAt, .long v_number, .ref a_best, .ref a_rentBy, .ref a_bareBy, .ref a_aheadBy, .ref a_isEdge, .ref a_tried, .ref a_stands, .ref a_found, .ref a_foundOn, .ref a_moving, .int v_movingMany, .int v_foundIncome, .int v_foundMoves])), (a_a, .inl (cI, 180, .inl v_a)), (a_stands, .inl (cI, 24, .inl v_stands))] sz) (zQi D (zT cI cZ cM) res [(a_this, .inr (6, [.ref a_a, .ref a_fresh, .ref a_kept, .int v_keptMany, .int v_thrown, .ref a_buffer, .int v_buffered, .int v_size, .int v_at, .int v_behind, .int v_kind, .int v_wrong, .int v_wrongAt, .int v_errorAt, .long v_number, .ref a_best, .ref a_rentBy, .ref a_bareBy, .ref a_aheadBy, .ref a_isEdge, .ref a_tried, .ref a_stands, .ref a_found, .ref a_foundOn, .ref a_moving, .int v_movingMany, .int v_foundIncome, .int v_foundMoves])), (a_a, .inl (cI, 180, .inl v_a)), (a_stands, .inl (cI, 24, .inl v_stands))] (va_A [(a_this, .inr (6, [.ref a_a, .ref a_fresh, .ref a_kept, .int v_keptMany, .int v_thrown, .ref a_buffer, .int v_buffered, .int v_size, .int v_at, .int v_behind, .int v_kind, .int v_wrong, .int v_wrongAt, .int v_errorAt, .long v_number, .ref a_best, .ref a_rentBy, .ref a_bareBy, .ref a_aheadBy, .ref a_isEdge, .ref a_tried, .ref a_stands, .ref a_found, .ref a_foundOn, .ref a_moving, .int v_movingMany, .int v_foundIncome, .int v_foundMoves])), (a_a, .inl (cI, 180, .inl v_a)), (a_stands, .inl (cI, 24, .inl v_stands))] sz)) 0 0 (va_A [(a_this, .inr (6, [.ref a_a, .ref a_fresh, .ref a_kept, .int v_keptMany, .int v_thrown, .ref a_buffer, .int v_buffered, .int v_size, .int v_at, .int v_behind, .int v_kind, .int v_wrong, .int v_wrongAt, .int v_errorAt, .long v_number, .ref a_best, .ref a_rentBy, .ref a_bareBy, .ref a_aheadBy, .ref a_isEdge, .ref a_tried, .ref a_stands, .ref a_found, .ref a_foundOn, .ref a_moving, .int v_movingMany, .int v_foundIncome, .int v_foundMoves])), (a_a, .inl (cI, 180, .inl v_a)), (a_stands, .inl (cI, 24, .inl v_stands))] sz) := by
  refine z_met (cc := cX6_isClear) (maxL := 4) (ret := (some .boolean)) (by decide) rfl (Nat.le_of_ble_eq_true rfl) ?_
  intro p e s m below meth c ls E hsz hw hl
  obtain ⟨⟨hx, hb, hml, hown, hts⟩, hr, hlocks⟩ := id E
  have hl : lv_has ls 4 [(0, .ref a_this), (1, .int x1), (2, .int x2)] := hl
  unfold f_X6_isClear at hf
  refine lv_iconst (v := 0) hx hb dX6_isClear_0 (by decide) ?_
  refine lv_istore_n (lv' := [(3, .int (0 : Int32)), (0, .ref a_this), (1, .int x1), (2, .int x2)]) hx hb dX6_isClear_1 rfl hl (z_lt rfl) rfl (fun ls hl => ?_)
  exact w_X6_isClear_2 E  n _ _ _ _ _ hf _ _ _ hw (lv_sub hl [1, 2, 3, 0] rfl)
end
/-! X6_fits -/
section
variable {p : Program} {l : Launch} {e : Env} {s : State} {m : MethodId} {args : Array Value} {below : List Frame} {meth : Method} {c : Code} {D : va_G} {A : Nat → Prop} {cI cZ cM : ClassId} {a_this a_a a_fresh a_kept a_buffer a_best a_rentBy a_bareBy a_aheadBy a_isEdge a_tried a_stands a_found a_foundOn a_moving : Nat} {v_keptMany : Int32} {v_thrown : Int32} {v_buffered : Int32} {v_size : Int32} {v_at : Int32} {v_behind : Int32} {v_kind : Int32} {v_wrong : Int32} {v_wrongAt : Int32} {v_errorAt : Int32} {v_number : Int64} {v_movingMany : Int32} {v_foundIncome : Int32} {v_foundMoves : Int32} {res : Int32}
def rmX6_fits : Room := { frames := 1, cells := 0, slots := 0, locals := 24 }
abbrev zwX6_fits : List Cond := Cond.code yX6_fits cX6_fits 3 (some .boolean) :: wsAll
set_option maxHeartbeats 4000000 in
set_option maxRecDepth 100000 in
theorem c_X6_fits {l : Launch} {D : va_G} {cI cZ cM : ClassId} {a_this a_a a_fresh a_kept a_buffer a_best a_rentBy a_bareBy a_aheadBy a_isEdge a_tried a_stands a_found a_foundOn a_moving : Nat} {v_keptMany : Int32} {v_thrown : Int32} {v_buffered : Int32} {v_size : Int32} {v_at : Int32} {v_behind : Int32} {v_kind : Int32} {v_wrong : Int32} {v_wrongAt : Int32} {v_errorAt : Int32} {v_number : Int64} {v_movingMany : Int32} {v_foundIncome : Int32} {v_foundMoves : Int32} {res : Int32} {sz : Nat} {n : Nat} {v_a : Nat → Int32} {v_stands : Nat → Int32} {x1 : Int32} {x2 : Int32} (hf : f_X6_fits n v_a v_stands x1 x2 = some res) : Met l yX6_fits zwX6_fits rmX6_fits (zPc D (zT cI cZ cM) [.ref a_this, .int x1, .int x2] [(a_this, .inr (6, [.ref a_a, .ref a_fresh, .ref a_kept, .int v_keptMany, .int v_thrown, .ref a_buffer, .int v_buffered, .int v_size, .int v_at, .int v_behind, .int v_kind, .int v_wrong, .int v_wrongAt, .int v_errorAt, .long v_number, .ref a_best, .ref a_rentBy, .ref a_bareBy, .ref a_aheadBy, .ref a_isEdge, .ref a_tried, .ref a_stands, .ref a_found, .ref a_foundOn, .ref a_moving, .int v_movingMany, .int v_foundIncome, .int v_foundMoves])), (a_a, .inl (cI, 180, .inl v_a)), (a_stands, .inl (cI, 24, .inl v_stands))] sz) (zQi D (zT cI cZ cM) res [(a_this, .inr (6, [.ref a_a, .ref a_fresh, .ref a_kept, .int v_keptMany, .int v_thrown, .ref a_buffer, .int v_buffered, .int v_size, .int v_at, .int v_behind, .int v_kind, .int v_wrong, .int v_wrongAt, .int v_errorAt, .long v_number, .ref a_best, .ref a_rentBy, .ref a_bareBy, .ref a_aheadBy, .ref a_isEdge, .ref a_tried, .ref a_stands, .ref a_found, .ref a_foundOn, .ref a_moving, .int v_movingMany, .int v_foundIncome, .int v_foundMoves])), (a_a, .inl (cI, 180, .inl v_a)), (a_stands, .inl (cI, 24, .inl v_stands))] (va_A [(a_this, .inr (6, [.ref a_a, .ref a_fresh, .ref a_kept, .int v_keptMany, .int v_thrown, .ref a_buffer, .int v_buffered, .int v_size, .int v_at, .int v_behind, .int v_kind, .int v_wrong, .int v_wrongAt, .int v_errorAt, .long v_number, .ref a_best, .ref a_rentBy, .ref a_bareBy, .ref a_aheadBy, .ref a_isEdge, .ref a_tried, .ref a_stands, .ref a_found, .ref a_foundOn, .ref a_moving, .int v_movingMany, .int v_foundIncome, .int v_foundMoves])), (a_a, .inl (cI, 180, .inl v_a)), (a_stands, .inl (cI, 24, .inl v_stands))] sz)) 0 0 (va_A [(a_this, .inr (6, [.ref a_a, .ref a_fresh, .ref a_kept, .int v_keptMany, .int v_thrown, .ref a_buffer, .int v_buffered, .int v_size, .int v_at, .int v_behind, .int v_kind, .int v_wrong, .int v_wrongAt, .int v_errorAt, .long v_number, .ref a_best, .ref a_rentBy, .ref a_bareBy, .ref a_aheadBy, .ref a_isEdge, .ref a_tried, .ref a_stands, .ref a_found, .ref a_foundOn, .ref a_moving, .int v_movingMany, .int v_foundIncome, .int v_foundMoves])), (a_a, .inl (cI, 180, .inl v_a)), (a_stands, .inl (cI, 24, .inl v_stands))] sz) := by
  refine z_met (cc := cX6_fits) (maxL := 3) (ret := (some .boolean)) (by decide) rfl (Nat.le_of_ble_eq_true rfl) ?_
  intro p e s m below meth c ls E hsz hw hl
  obtain ⟨⟨hx, hb, hml, hown, hts⟩, hr, hlocks⟩ := id E
  have hl : lv_has ls 3 [(0, .ref a_this), (1, .int x1), (2, .int x2)] := hl
  unfold f_X6_fits at hf
  refine lv_aload_n hx hb dX6_fits_0 rfl (lv_at hl 0 rfl) ?_
  refine lv_iload_n hx hb dX6_fits_1 rfl (lv_at hl 1 rfl) ?_
  refine lv_iload_n hx hb dX6_fits_2 rfl (lv_at hl 2 rfl) ?_
  obtain ⟨r_1, h_2, hf⟩ := oB_elim hf
  refine z_callVi (ws' := [(a_this, .inr (6, [.ref a_a, .ref a_fresh, .ref a_kept, .int v_keptMany, .int v_thrown, .ref a_buffer, .int v_buffered, .int v_size, .int v_at, .int v_behind, .int v_kind, .int v_wrong, .int v_wrongAt, .int v_errorAt, .long v_number, .ref a_best, .ref a_rentBy, .ref a_bareBy, .ref a_aheadBy, .ref a_isEdge, .ref a_tried, .ref a_stands, .ref a_found, .ref a_foundOn, .ref a_moving, .int v_movingMany, .int v_foundIncome, .int v_foundMoves])), (a_a, .inl (cI, 180, .inl v_a)), (a_stands, .inl (cI, 24, .inl v_stands))]) (wr := [(a_stands, .inl (cI, 24, .inl v_stands))]) (As := [.int x1, .int x2]) (rest := []) E.1 hl hw (c_X6_isRoom h_2) (cwV 2 hts (z_gV mw_640 mw_641 mw_642 mw_597 mw_643) rfl rfl rfl (by decide +kernel) ⟨(Nat.le_of_ble_eq_true rfl), (Nat.le_of_ble_eq_true rfl)⟩) 3 [(0, 2)] [(2, 1)] rfl rfl rfl rfl rfl rfl (by decide +kernel) rfl (q0 := 0) rfl rfl rfl (Nat.le_of_ble_eq_true rfl) dX6_fits_3 ⟨Nat.le_of_ble_eq_true rfl, Nat.le_of_ble_eq_true rfl⟩ (fun H locs hw => ?_)
  refine lv_if_eq (tgt := 40) hx hb dX6_fits_6 (by decide) (fun hc => ?_) (fun hc => ?_)
  · have hf := oI_pos hc hf
    refine lv_iconst (v := 0) hx hb dX6_fits_40 (by decide) ?_
    cases hf
    exact z_zret E rfl z_n0 hw dX6_fits_41
  · have hf := oI_neg hc hf
    refine lv_aload_n hx hb dX6_fits_9 rfl (lv_at hl 0 rfl) ?_
    refine lv_iload_n hx hb dX6_fits_10 rfl (lv_at hl 1 rfl) ?_
    refine lv_iload_n hx hb dX6_fits_11 rfl (lv_at hl 2 rfl) ?_
    obtain ⟨r_3, h_4, hf⟩ := oB_elim hf
    refine z_callVi (ws' := [(a_this, .inr (6, [.ref a_a, .ref a_fresh, .ref a_kept, .int v_keptMany, .int v_thrown, .ref a_buffer, .int v_buffered, .int v_size, .int v_at, .int v_behind, .int v_kind, .int v_wrong, .int v_wrongAt, .int v_errorAt, .long v_number, .ref a_best, .ref a_rentBy, .ref a_bareBy, .ref a_aheadBy, .ref a_isEdge, .ref a_tried, .ref a_stands, .ref a_found, .ref a_foundOn, .ref a_moving, .int v_movingMany, .int v_foundIncome, .int v_foundMoves])), (a_a, .inl (cI, 180, .inl v_a)), (a_stands, .inl (cI, 24, .inl v_stands))]) (wr := [(a_stands, .inl (cI, 24, .inl v_stands))]) (As := [.int x1, .int x2]) (rest := []) E.1 hl hw (c_X6_rentOf h_4) (cwV 2 hts (z_gV mw_644 mw_645 mw_646 mw_597 mw_647) rfl rfl rfl (by decide +kernel) ⟨(Nat.le_of_ble_eq_true rfl), (Nat.le_of_ble_eq_true rfl)⟩) 3 [(0, 2)] [(2, 1)] rfl rfl rfl rfl rfl rfl (by decide +kernel) rfl (q0 := 0) rfl rfl rfl (Nat.le_of_ble_eq_true rfl) dX6_fits_12 ⟨Nat.le_of_ble_eq_true rfl, Nat.le_of_ble_eq_true rfl⟩ (fun H locs hw => ?_)
    refine lv_aload_n hx hb dX6_fits_15 rfl (lv_at hl 0 rfl) ?_
    refine z_get E.1 hw in_wsX60 0 rfl rfl 0 (z_lt rfl) mw_593 (v := .ref a_a) rfl dX6_fits_16 ?_
    refine lv_bipush (v := 91) hx hb dX6_fits_19 (by decide) ?_
    refine lv_iload_n hx hb dX6_fits_21 rfl (lv_at hl 1 rfl) ?_
    refine lv_iadd hx hb dX6_fits_22 ?_
    obtain ⟨h_5, hf⟩ := oA_elim hf
    refine z_iald E.1 hw 1 0 rfl rfl h_5 dX6_fits_23 ?_
    refine lv_icmp_gt (tgt := 40) hx hb dX6_fits_24 (by decide) (fun hc => ?_) (fun hc => ?_)
    · have hf := oI_pos hc hf
      refine lv_iconst (v := 0) hx hb dX6_fits_40 (by decide) ?_
      cases hf
      exact z_zret E rfl z_n0 hw dX6_fits_41
    · have hf := oI_neg hc hf
      refine lv_aload_n hx hb dX6_fits_27 rfl (lv_at hl 0 rfl) ?_
      refine lv_iload_n hx hb dX6_fits_28 rfl (lv_at hl 1 rfl) ?_
      refine lv_iload_n hx hb dX6_fits_29 rfl (lv_at hl 2 rfl) ?_
      obtain ⟨r_6, h_7, hf⟩ := oB_elim hf
      refine z_callVi (ws' := [(a_this, .inr (6, [.ref a_a, .ref a_fresh, .ref a_kept, .int v_keptMany, .int v_thrown, .ref a_buffer, .int v_buffered, .int v_size, .int v_at, .int v_behind, .int v_kind, .int v_wrong, .int v_wrongAt, .int v_errorAt, .long v_number, .ref a_best, .ref a_rentBy, .ref a_bareBy, .ref a_aheadBy, .ref a_isEdge, .ref a_tried, .ref a_stands, .ref a_found, .ref a_foundOn, .ref a_moving, .int v_movingMany, .int v_foundIncome, .int v_foundMoves])), (a_a, .inl (cI, 180, .inl v_a)), (a_stands, .inl (cI, 24, .inl v_stands))]) (wr := []) (As := [.int x1, .int x2]) (rest := []) E.1 hl hw (c_X6_isClear h_7) (cwV 2 hts (z_gV mw_679 mw_680 mw_681 mw_597 mw_682) rfl rfl rfl (by decide +kernel) ⟨(Nat.le_of_ble_eq_true rfl), (Nat.le_of_ble_eq_true rfl)⟩) 3 [(0, 3)] [] rfl rfl rfl rfl rfl rfl (by decide +kernel) rfl (q0 := 0) rfl rfl rfl (Nat.le_of_ble_eq_true rfl) dX6_fits_30 ⟨Nat.le_of_ble_eq_true rfl, Nat.le_of_ble_eq_true rfl⟩ (fun H locs hw => ?_)
      refine lv_if_eq (tgt := 40) hx hb dX6_fits_33 (by decide) (fun hc => ?_) (fun hc => ?_)
      · have hf := oI_pos hc hf
        refine lv_iconst (v := 0) hx hb dX6_fits_40 (by decide) ?_
        cases hf
        exact z_zret E rfl z_n0 hw dX6_fits_41
      · have hf := oI_neg hc hf
        refine lv_iconst (v := 1) hx hb dX6_fits_36 (by decide) ?_
        refine lv_goto (tgt := 41) hx hb dX6_fits_37 (by decide) ?_
        cases hf
        exact z_zret E rfl z_n1 hw dX6_fits_41
end
/-! X6_lays -/
section
variable {p : Program} {l : Launch} {e : Env} {s : State} {m : MethodId} {args : Array Value} {below : List Frame} {meth : Method} {c : Code} {D : va_G} {A : Nat → Prop} {cI cZ cM : ClassId} {a_this a_a a_fresh a_kept a_buffer a_best a_rentBy a_bareBy a_aheadBy a_isEdge a_tried a_stands a_found a_foundOn a_moving : Nat} {v_keptMany : Int32} {v_thrown : Int32} {v_buffered : Int32} {v_size : Int32} {v_at : Int32} {v_behind : Int32} {v_kind : Int32} {v_wrong : Int32} {v_wrongAt : Int32} {v_errorAt : Int32} {v_number : Int64} {v_movingMany : Int32} {v_foundIncome : Int32} {v_foundMoves : Int32} {res : (Nat → Int32)}
def rmX6_lays : Room := { frames := 0, cells := 0, slots := 0, locals := 0 }
abbrev zwX6_lays : List Cond := Cond.code yX6_lays cX6_lays 5 none :: wsAll
set_option maxHeartbeats 4000000 in
set_option maxRecDepth 100000 in
theorem w_X6_lays_3 {n : Nat} (E : zE p s m args meth c cX6_lays 5 none zwX6_lays RX6) : ∀ (fu : Nat), ∀ (x1 : Int32) (x2 : Int32) (x3 : Int32) (x4 : Int32) (v_a : Nat → Int32) (v_stands : Nat → Int32), f_X6_lays_3 n fu x1 x2 x3 x4 v_a v_stands = some res → ∀ (H : Heap) (locs : List Loc) (ls : Array Slot), zW D (zT cI cZ cM) A s [(a_this, .inr (6, [.ref a_a, .ref a_fresh, .ref a_kept, .int v_keptMany, .int v_thrown, .ref a_buffer, .int v_buffered, .int v_size, .int v_at, .int v_behind, .int v_kind, .int v_wrong, .int v_wrongAt, .int v_errorAt, .long v_number, .ref a_best, .ref a_rentBy, .ref a_bareBy, .ref a_aheadBy, .ref a_isEdge, .ref a_tried, .ref a_stands, .ref a_found, .ref a_foundOn, .ref a_moving, .int v_movingMany, .int v_foundIncome, .int v_foundMoves])), (a_a, .inl (cI, 180, .inl v_a)), (a_stands, .inl (cI, 24, .inl v_stands))] H locs → lv_has ls 5 [(0, .ref a_this), (1, .int x1), (2, .int x2), (3, .int x3), (4, .int x4)] → W p l e rmX6_lays s m args below meth c H locs 0 0 (MQ below (zQv D (zT cI cZ cM) [(a_this, .inr (6, [.ref a_a, .ref a_fresh, .ref a_kept, .int v_keptMany, .int v_thrown, .ref a_buffer, .int v_buffered, .int v_size, .int v_at, .int v_behind, .int v_kind, .int v_wrong, .int v_wrongAt, .int v_errorAt, .long v_number, .ref a_best, .ref a_rentBy, .ref a_bareBy, .ref a_aheadBy, .ref a_isEdge, .ref a_tried, .ref a_stands, .ref a_found, .ref a_foundOn, .ref a_moving, .int v_movingMany, .int v_foundIncome, .int v_foundMoves])), (a_a, .inl (cI, 180, .inl v_a)), (a_stands, .inl (cI, 24, .inl res))] A) args s 0 0 A) (F0 m 3 ls []) := by
  obtain ⟨⟨hx, hb, hml, hown, hts⟩, hr, hlocks⟩ := id E
  intro fu
  induction fu with
  | zero => intro x1 x2 x3 x4 v_a v_stands hf; rw [f_X6_lays_3.eq_1] at hf; cases hf
  | succ fu ih =>
    intro x1 x2 x3 x4 v_a v_stands hf H locs ls hw hl
    rw [f_X6_lays_3.eq_2] at hf
    refine lv_iload hx hb dX6_lays_3 (lv_at hl 4 rfl) ?_
    refine lv_aload_n hx hb dX6_lays_5 rfl (lv_at hl 0 rfl) ?_
    refine z_get E.1 hw in_wsX60 0 rfl rfl 0 (z_lt rfl) mw_593 (v := .ref a_a) rfl dX6_lays_6 ?_
    refine lv_bipush (v := 83) hx hb dX6_lays_9 (by decide) ?_
    refine lv_iload_n hx hb dX6_lays_11 rfl (lv_at hl 1 rfl) ?_
    refine lv_iadd hx hb dX6_lays_12 ?_
    obtain ⟨h_1, hf⟩ := oA_elim hf
    refine z_iald E.1 hw 1 0 rfl rfl h_1 dX6_lays_13 ?_
    refine lv_icmp_ge (tgt := 33) hx hb dX6_lays_14 (by decide) (fun hc => ?_) (fun hc => ?_)
    · have hf := oI_pos hc hf
      cases hf
      exact z_vret E rfl hw dX6_lays_33
    · have hf := oI_neg hc hf
      refine lv_aload_n hx hb dX6_lays_17 rfl (lv_at hl 0 rfl) ?_
      refine z_get E.1 hw in_wsX60 0 rfl rfl 21 (z_lt rfl) mw_673 (v := .ref a_stands) rfl dX6_lays_18 ?_
      refine lv_iload_n hx hb dX6_lays_21 rfl (lv_at hl 2 rfl) ?_
      refine lv_iload hx hb dX6_lays_22 (lv_at hl 4 rfl) ?_
      refine lv_iadd hx hb dX6_lays_24 ?_
      refine lv_iload_n hx hb dX6_lays_25 rfl (lv_at hl 3 rfl) ?_
      obtain ⟨h_2, hf⟩ := oA_elim hf
      obtain ⟨v_3, e_v_3, hf⟩ := oL_elim hf
      refine z_iast (ws' := [(a_this, .inr (6, [.ref a_a, .ref a_fresh, .ref a_kept, .int v_keptMany, .int v_thrown, .ref a_buffer, .int v_buffered, .int v_size, .int v_at, .int v_behind, .int v_kind, .int v_wrong, .int v_wrongAt, .int v_errorAt, .long v_number, .ref a_best, .ref a_rentBy, .ref a_bareBy, .ref a_aheadBy, .ref a_isEdge, .ref a_tried, .ref a_stands, .ref a_found, .ref a_foundOn, .ref a_moving, .int v_movingMany, .int v_foundIncome, .int v_foundMoves])), (a_a, .inl (cI, 180, .inl v_a)), (a_stands, .inl (cI, 24, .inl v_3))]) E.1 hw 2 0 rfl rfl h_2 (by subst e_v_3; rfl) dX6_lays_26 (fun H locs hw => ?_)
      refine lv_iinc (v := (x4 + (1 : Int32))) (lv' := [(4, .int (x4 + (1 : Int32))), (0, .ref a_this), (1, .int x1), (2, .int x2), (3, .int x3)]) hx hb dX6_lays_27 hl (k := 4) rfl rfl (z_lt rfl) rfl (fun ls hl => ?_)
      refine lv_goto (tgt := 3) hx hb dX6_lays_30 (by decide) ?_
      exact ih _ _ _ _ _ _ hf _ _ _ hw (lv_sub hl [1, 2, 3, 4, 0] rfl)
set_option maxHeartbeats 4000000 in
set_option maxRecDepth 100000 in
theorem c_X6_lays {l : Launch} {D : va_G} {cI cZ cM : ClassId} {a_this a_a a_fresh a_kept a_buffer a_best a_rentBy a_bareBy a_aheadBy a_isEdge a_tried a_stands a_found a_foundOn a_moving : Nat} {v_keptMany : Int32} {v_thrown : Int32} {v_buffered : Int32} {v_size : Int32} {v_at : Int32} {v_behind : Int32} {v_kind : Int32} {v_wrong : Int32} {v_wrongAt : Int32} {v_errorAt : Int32} {v_number : Int64} {v_movingMany : Int32} {v_foundIncome : Int32} {v_foundMoves : Int32} {res : (Nat → Int32)} {sz : Nat} {n : Nat} {v_a : Nat → Int32} {v_stands : Nat → Int32} {x1 : Int32} {x2 : Int32} {x3 : Int32} (hf : f_X6_lays n v_a v_stands x1 x2 x3 = some res) : Met l yX6_lays zwX6_lays rmX6_lays (zPc D (zT cI cZ cM) [.ref a_this, .int x1, .int x2, .int x3] [(a_this, .inr (6, [.ref a_a, .ref a_fresh, .ref a_kept, .int v_keptMany, .int v_thrown, .ref a_buffer, .int v_buffered, .int v_size, .int v_at, .int v_behind, .int v_kind, .int v_wrong, .int v_wrongAt, .int v_errorAt, .long v_number, .ref a_best, .ref a_rentBy, .ref a_bareBy, .ref a_aheadBy, .ref a_isEdge, .ref a_tried, .ref a_stands, .ref a_found, .ref a_foundOn, .ref a_moving, .int v_movingMany, .int v_foundIncome, .int v_foundMoves])), (a_a, .inl (cI, 180, .inl v_a)), (a_stands, .inl (cI, 24, .inl v_stands))] sz) (zQv D (zT cI cZ cM) [(a_this, .inr (6, [.ref a_a, .ref a_fresh, .ref a_kept, .int v_keptMany, .int v_thrown, .ref a_buffer, .int v_buffered, .int v_size, .int v_at, .int v_behind, .int v_kind, .int v_wrong, .int v_wrongAt, .int v_errorAt, .long v_number, .ref a_best, .ref a_rentBy, .ref a_bareBy, .ref a_aheadBy, .ref a_isEdge, .ref a_tried, .ref a_stands, .ref a_found, .ref a_foundOn, .ref a_moving, .int v_movingMany, .int v_foundIncome, .int v_foundMoves])), (a_a, .inl (cI, 180, .inl v_a)), (a_stands, .inl (cI, 24, .inl res))] (va_A [(a_this, .inr (6, [.ref a_a, .ref a_fresh, .ref a_kept, .int v_keptMany, .int v_thrown, .ref a_buffer, .int v_buffered, .int v_size, .int v_at, .int v_behind, .int v_kind, .int v_wrong, .int v_wrongAt, .int v_errorAt, .long v_number, .ref a_best, .ref a_rentBy, .ref a_bareBy, .ref a_aheadBy, .ref a_isEdge, .ref a_tried, .ref a_stands, .ref a_found, .ref a_foundOn, .ref a_moving, .int v_movingMany, .int v_foundIncome, .int v_foundMoves])), (a_a, .inl (cI, 180, .inl v_a)), (a_stands, .inl (cI, 24, .inl v_stands))] sz)) 0 0 (va_A [(a_this, .inr (6, [.ref a_a, .ref a_fresh, .ref a_kept, .int v_keptMany, .int v_thrown, .ref a_buffer, .int v_buffered, .int v_size, .int v_at, .int v_behind, .int v_kind, .int v_wrong, .int v_wrongAt, .int v_errorAt, .long v_number, .ref a_best, .ref a_rentBy, .ref a_bareBy, .ref a_aheadBy, .ref a_isEdge, .ref a_tried, .ref a_stands, .ref a_found, .ref a_foundOn, .ref a_moving, .int v_movingMany, .int v_foundIncome, .int v_foundMoves])), (a_a, .inl (cI, 180, .inl v_a)), (a_stands, .inl (cI, 24, .inl v_stands))] sz) := by
  refine z_met (cc := cX6_lays) (maxL := 5) (ret := none) (by decide) rfl (Nat.le_of_ble_eq_true rfl) ?_
  intro p e s m below meth c ls E hsz hw hl
  obtain ⟨⟨hx, hb, hml, hown, hts⟩, hr, hlocks⟩ := id E
  have hl : lv_has ls 5 [(0, .ref a_this), (1, .int x1), (2, .int x2), (3, .int x3)] := hl
  unfold f_X6_lays at hf
  refine lv_iconst (v := 0) hx hb dX6_lays_0 (by decide) ?_
  refine lv_istore (lv' := [(4, .int (0 : Int32)), (0, .ref a_this), (1, .int x1), (2, .int x2), (3, .int x3)]) hx hb dX6_lays_1 hl (z_lt rfl) rfl (fun ls hl => ?_)
  exact w_X6_lays_3 E  n _ _ _ _ _ _ hf _ _ _ hw (lv_sub hl [1, 2, 3, 4, 0] rfl)
end
/-! X6_isSound -/
section
variable {p : Program} {l : Launch} {e : Env} {s : State} {m : MethodId} {args : Array Value} {below : List Frame} {meth : Method} {c : Code} {D : va_G} {A : Nat → Prop} {cI cZ cM : ClassId} {a_this a_a a_fresh a_kept a_buffer a_best a_rentBy a_bareBy a_aheadBy a_isEdge a_tried a_stands a_found a_foundOn a_moving : Nat} {v_keptMany : Int32} {v_thrown : Int32} {v_buffered : Int32} {v_size : Int32} {v_at : Int32} {v_behind : Int32} {v_kind : Int32} {v_wrong : Int32} {v_wrongAt : Int32} {v_errorAt : Int32} {v_number : Int64} {v_movingMany : Int32} {v_foundIncome : Int32} {v_foundMoves : Int32} {res : Int32}
def rmX6_isSound : Room := { frames := 1, cells := 0, slots := 0, locals := 24 }
abbrev zwX6_isSound : List Cond := Cond.code yX6_isSound cX6_isSound 5 (some .boolean) :: wsAll
set_option maxHeartbeats 4000000 in
set_option maxRecDepth 100000 in
theorem w_X6_isSound_146 {n : Nat} {v_tried : Nat → Int32} (E : zE p s m args meth c cX6_isSound 5 (some .boolean) zwX6_isSound RX6) {k65 : Int32 → (Nat → Int32) → (Nat → Int32) → Option (Int32)} (hk65 : ∀ (x2 : Int32) (v_a : Nat → Int32) (v_stands : Nat → Int32), k65 x2 v_a v_stands = some res → ∀ (H : Heap) (locs : List Loc) (ls : Array Slot), zW D (zT cI cZ cM) A s [(a_this, .inr (6, [.ref a_a, .ref a_fresh, .ref a_kept, .int v_keptMany, .int v_thrown, .ref a_buffer, .int v_buffered, .int v_size, .int v_at, .int v_behind, .int v_kind, .int v_wrong, .int v_wrongAt, .int v_errorAt, .long v_number, .ref a_best, .ref a_rentBy, .ref a_bareBy, .ref a_aheadBy, .ref a_isEdge, .ref a_tried, .ref a_stands, .ref a_found, .ref a_foundOn, .ref a_moving, .int v_movingMany, .int v_foundIncome, .int v_foundMoves])), (a_a, .inl (cI, 180, .inl v_a)), (a_tried, .inl (cI, 8, .inl v_tried)), (a_stands, .inl (cI, 24, .inl v_stands))] H locs → lv_has ls 5 [(0, .ref a_this), (2, .int x2)] → W p l e rmX6_isSound s m args below meth c H locs 0 0 (MQ below (zQi D (zT cI cZ cM) res [(a_this, .inr (6, [.ref a_a, .ref a_fresh, .ref a_kept, .int v_keptMany, .int v_thrown, .ref a_buffer, .int v_buffered, .int v_size, .int v_at, .int v_behind, .int v_kind, .int v_wrong, .int v_wrongAt, .int v_errorAt, .long v_number, .ref a_best, .ref a_rentBy, .ref a_bareBy, .ref a_aheadBy, .ref a_isEdge, .ref a_tried, .ref a_stands, .ref a_found, .ref a_foundOn, .ref a_moving, .int v_movingMany, .int v_foundIncome, .int v_foundMoves])), (a_a, .inl (cI, 180, .inl v_a)), (a_tried, .inl (cI, 8, .inl v_tried)), (a_stands, .inl (cI, 24, .inl v_stands))] A) args s 0 0 A) (F0 m 65 ls [])) : ∀ (x2 : Int32) (v_a : Nat → Int32) (v_stands : Nat → Int32), f_X6_isSound_146 n k65 x2 v_a v_stands = some res → ∀ (H : Heap) (locs : List Loc) (ls : Array Slot), zW D (zT cI cZ cM) A s [(a_this, .inr (6, [.ref a_a, .ref a_fresh, .ref a_kept, .int v_keptMany, .int v_thrown, .ref a_buffer, .int v_buffered, .int v_size, .int v_at, .int v_behind, .int v_kind, .int v_wrong, .int v_wrongAt, .int v_errorAt, .long v_number, .ref a_best, .ref a_rentBy, .ref a_bareBy, .ref a_aheadBy, .ref a_isEdge, .ref a_tried, .ref a_stands, .ref a_found, .ref a_foundOn, .ref a_moving, .int v_movingMany, .int v_foundIncome, .int v_foundMoves])), (a_a, .inl (cI, 180, .inl v_a)), (a_tried, .inl (cI, 8, .inl v_tried)), (a_stands, .inl (cI, 24, .inl v_stands))] H locs → lv_has ls 5 [(0, .ref a_this), (2, .int x2)] → W p l e rmX6_isSound s m args below meth c H locs 0 0 (MQ below (zQi D (zT cI cZ cM) res [(a_this, .inr (6, [.ref a_a, .ref a_fresh, .ref a_kept, .int v_keptMany, .int v_thrown, .ref a_buffer, .int v_buffered, .int v_size, .int v_at, .int v_behind, .int v_kind, .int v_wrong, .int v_wrongAt, .int v_errorAt, .long v_number, .ref a_best, .ref a_rentBy, .ref a_bareBy, .ref a_aheadBy, .ref a_isEdge, .ref a_tried, .ref a_stands, .ref a_found, .ref a_foundOn, .ref a_moving, .int v_movingMany, .int v_foundIncome, .int v_foundMoves])), (a_a, .inl (cI, 180, .inl v_a)), (a_tried, .inl (cI, 8, .inl v_tried)), (a_stands, .inl (cI, 24, .inl v_stands))] A) args s 0 0 A) (F0 m 146 ls []) := by
  obtain ⟨⟨hx, hb, hml, hown, hts⟩, hr, hlocks⟩ := id E
  intro x2 v_a v_stands hf H locs ls hw hl
  unfold f_X6_isSound_146 at hf
  refine lv_iinc (v := (x2 + (1 : Int32))) (lv' := [(2, .int (x2 + (1 : Int32))), (0, .ref a_this)]) hx hb dX6_isSound_146 hl (k := 1) rfl rfl (z_lt rfl) rfl (fun ls hl => ?_)
  refine lv_goto (tgt := 65) hx hb dX6_isSound_149 (by decide) ?_
  exact hk65 _ _ _ hf _ _ _ hw (lv_sub hl [1, 0] rfl)
set_option maxHeartbeats 4000000 in
set_option maxRecDepth 100000 in
theorem w_X6_isSound_65 {n : Nat} {v_tried : Nat → Int32} (E : zE p s m args meth c cX6_isSound 5 (some .boolean) zwX6_isSound RX6) : ∀ (fu : Nat), ∀ (x2 : Int32) (v_a : Nat → Int32) (v_stands : Nat → Int32), f_X6_isSound_65 n fu x2 v_a v_stands = some res → ∀ (H : Heap) (locs : List Loc) (ls : Array Slot), zW D (zT cI cZ cM) A s [(a_this, .inr (6, [.ref a_a, .ref a_fresh, .ref a_kept, .int v_keptMany, .int v_thrown, .ref a_buffer, .int v_buffered, .int v_size, .int v_at, .int v_behind, .int v_kind, .int v_wrong, .int v_wrongAt, .int v_errorAt, .long v_number, .ref a_best, .ref a_rentBy, .ref a_bareBy, .ref a_aheadBy, .ref a_isEdge, .ref a_tried, .ref a_stands, .ref a_found, .ref a_foundOn, .ref a_moving, .int v_movingMany, .int v_foundIncome, .int v_foundMoves])), (a_a, .inl (cI, 180, .inl v_a)), (a_tried, .inl (cI, 8, .inl v_tried)), (a_stands, .inl (cI, 24, .inl v_stands))] H locs → lv_has ls 5 [(0, .ref a_this), (2, .int x2)] → W p l e rmX6_isSound s m args below meth c H locs 0 0 (MQ below (zQi D (zT cI cZ cM) res [(a_this, .inr (6, [.ref a_a, .ref a_fresh, .ref a_kept, .int v_keptMany, .int v_thrown, .ref a_buffer, .int v_buffered, .int v_size, .int v_at, .int v_behind, .int v_kind, .int v_wrong, .int v_wrongAt, .int v_errorAt, .long v_number, .ref a_best, .ref a_rentBy, .ref a_bareBy, .ref a_aheadBy, .ref a_isEdge, .ref a_tried, .ref a_stands, .ref a_found, .ref a_foundOn, .ref a_moving, .int v_movingMany, .int v_foundIncome, .int v_foundMoves])), (a_a, .inl (cI, 180, .inl v_a)), (a_tried, .inl (cI, 8, .inl v_tried)), (a_stands, .inl (cI, 24, .inl v_stands))] A) args s 0 0 A) (F0 m 65 ls []) := by
  obtain ⟨⟨hx, hb, hml, hown, hts⟩, hr, hlocks⟩ := id E
  intro fu
  induction fu with
  | zero => intro x2 v_a v_stands hf; rw [f_X6_isSound_65.eq_1] at hf; cases hf
  | succ fu ih =>
    intro x2 v_a v_stands hf H locs ls hw hl
    rw [f_X6_isSound_65.eq_2] at hf
    refine lv_iload_n hx hb dX6_isSound_65 rfl (lv_at hl 1 rfl) ?_
    refine lv_iconst (v := 1) hx hb dX6_isSound_66 (by decide) ?_
    refine lv_iadd hx hb dX6_isSound_67 ?_
    refine lv_aload_n hx hb dX6_isSound_68 rfl (lv_at hl 0 rfl) ?_
    refine z_get E.1 hw in_wsX60 0 rfl rfl 0 (z_lt rfl) mw_593 (v := .ref a_a) rfl dX6_isSound_69 ?_
    refine lv_iconst (v := 1) hx hb dX6_isSound_72 (by decide) ?_
    obtain ⟨h_1, hf⟩ := oA_elim hf
    refine z_iald E.1 hw 1 0 rfl rfl h_1 dX6_isSound_73 ?_
    refine lv_icmp_ge (tgt := 152) hx hb dX6_isSound_74 (by decide) (fun hc => ?_) (fun hc => ?_)
    · have hf := oI_pos hc hf
      refine lv_iconst (v := 1) hx hb dX6_isSound_152 (by decide) ?_
      cases hf
      exact z_zret E rfl z_n1 hw dX6_isSound_153
    · have hf := oI_neg hc hf
      refine lv_aload_n hx hb dX6_isSound_77 rfl (lv_at hl 0 rfl) ?_
      refine z_get E.1 hw in_wsX60 0 rfl rfl 21 (z_lt rfl) mw_673 (v := .ref a_stands) rfl dX6_isSound_78 ?_
      refine lv_iload_n hx hb dX6_isSound_81 rfl (lv_at hl 1 rfl) ?_
      obtain ⟨h_2, hf⟩ := oA_elim hf
      refine z_iald E.1 hw 3 0 rfl rfl h_2 dX6_isSound_82 ?_
      obtain ⟨y_3, e_y_3, hf⟩ := oL_elim hf
      refine z_top e_y_3 ?_
      refine lv_istore_n (lv' := [(3, .int y_3), (0, .ref a_this), (2, .int x2)]) hx hb dX6_isSound_83 rfl hl (z_lt rfl) rfl (fun ls hl => ?_)
      refine lv_aload_n hx hb dX6_isSound_84 rfl (lv_at hl 1 rfl) ?_
      refine z_get E.1 hw in_wsX60 0 rfl rfl 21 (z_lt rfl) mw_673 (v := .ref a_stands) rfl dX6_isSound_85 ?_
      refine lv_iload_n hx hb dX6_isSound_88 rfl (lv_at hl 2 rfl) ?_
      refine lv_iconst (v := 1) hx hb dX6_isSound_89 (by decide) ?_
      refine lv_iadd hx hb dX6_isSound_90 ?_
      obtain ⟨h_4, hf⟩ := oA_elim hf
      refine z_iald E.1 hw 3 0 rfl rfl h_4 dX6_isSound_91 ?_
      obtain ⟨y_5, e_y_5, hf⟩ := oL_elim hf
      refine z_top e_y_5 ?_
      refine lv_istore (lv' := [(4, .int y_5), (3, .int y_3), (0, .ref a_this), (2, .int x2)]) hx hb dX6_isSound_92 hl (z_lt rfl) rfl (fun ls hl => ?_)
      refine lv_aload_n hx hb dX6_isSound_94 rfl (lv_at hl 2 rfl) ?_
      refine z_get E.1 hw in_wsX60 0 rfl rfl 0 (z_lt rfl) mw_593 (v := .ref a_a) rfl dX6_isSound_95 ?_
      refine lv_bipush (v := 50) hx hb dX6_isSound_98 (by decide) ?_
      refine lv_iload_n hx hb dX6_isSound_100 rfl (lv_at hl 3 rfl) ?_
      refine lv_iadd hx hb dX6_isSound_101 ?_
      obtain ⟨h_6, hf⟩ := oA_elim hf
      refine z_iald E.1 hw 1 0 rfl rfl h_6 dX6_isSound_102 ?_
      refine lv_aload_n hx hb dX6_isSound_103 rfl (lv_at hl 2 rfl) ?_
      refine z_get E.1 hw in_wsX60 0 rfl rfl 0 (z_lt rfl) mw_593 (v := .ref a_a) rfl dX6_isSound_104 ?_
      refine lv_bipush (v := 50) hx hb dX6_isSound_107 (by decide) ?_
      refine lv_iload_n hx hb dX6_isSound_109 rfl (lv_at hl 3 rfl) ?_
      refine lv_iadd hx hb dX6_isSound_110 ?_
      refine lv_iconst (v := 1) hx hb dX6_isSound_111 (by decide) ?_
      refine lv_iadd hx hb dX6_isSound_112 ?_
      obtain ⟨h_7, hf⟩ := oA_elim hf
      refine z_iald E.1 hw 1 0 rfl rfl h_7 dX6_isSound_113 ?_
      refine lv_icmp_ne (tgt := 146) hx hb dX6_isSound_114 (by decide) (fun hc => ?_) (fun hc => ?_)
      · have hf := oI_neg hc hf
        exact w_X6_isSound_146 E ih _ _ _ hf _ _ _ hw (lv_sub hl [2, 3] rfl)
      · have hf := oI_pos hc hf
        refine lv_iload_n hx hb dX6_isSound_117 rfl (lv_at hl 1 rfl) ?_
        refine lv_iconst (v := -1) hx hb dX6_isSound_118 (by decide) ?_
        refine lv_icmp_eq (tgt := 146) hx hb dX6_isSound_119 (by decide) (fun hc => ?_) (fun hc => ?_)
        · have hf := oI_pos hc hf
          exact w_X6_isSound_146 E ih _ _ _ hf _ _ _ hw (lv_sub hl [2, 3] rfl)
        · have hf := oI_neg hc hf
          refine lv_iload hx hb dX6_isSound_122 (lv_at hl 0 rfl) ?_
          refine lv_iconst (v := -1) hx hb dX6_isSound_124 (by decide) ?_
          refine lv_icmp_eq (tgt := 146) hx hb dX6_isSound_125 (by decide) (fun hc => ?_) (fun hc => ?_)
          · have hf := oI_pos hc hf
            exact w_X6_isSound_146 E ih _ _ _ hf _ _ _ hw (lv_sub hl [2, 3] rfl)
          · have hf := oI_neg hc hf
            refine lv_iload_n hx hb dX6_isSound_128 rfl (lv_at hl 1 rfl) ?_
            refine lv_iload hx hb dX6_isSound_129 (lv_at hl 0 rfl) ?_
            refine lv_icmp_eq (tgt := 146) hx hb dX6_isSound_131 (by decide) (fun hc => ?_) (fun hc => ?_)
            · have hf := oI_pos hc hf
              exact w_X6_isSound_146 E ih _ _ _ hf _ _ _ hw (lv_sub hl [2, 3] rfl)
            · have hf := oI_neg hc hf
              refine lv_aload_n hx hb dX6_isSound_134 rfl (lv_at hl 2 rfl) ?_
              refine lv_iload_n hx hb dX6_isSound_135 rfl (lv_at hl 1 rfl) ?_
              refine lv_iload hx hb dX6_isSound_136 (lv_at hl 0 rfl) ?_
              obtain ⟨r_8, h_9, hf⟩ := oB_elim hf
              refine z_callVi (ws' := [(a_this, .inr (6, [.ref a_a, .ref a_fresh, .ref a_kept, .int v_keptMany, .int v_thrown, .ref a_buffer, .int v_buffered, .int v_size, .int v_at, .int v_behind, .int v_kind, .int v_wrong, .int v_wrongAt, .int v_errorAt, .long v_number, .ref a_best, .ref a_rentBy, .ref a_bareBy, .ref a_aheadBy, .ref a_isEdge, .ref a_tried, .ref a_stands, .ref a_found, .ref a_foundOn, .ref a_moving, .int v_movingMany, .int v_foundIncome, .int v_foundMoves])), (a_a, .inl (cI, 180, .inl v_a)), (a_tried, .inl (cI, 8, .inl v_tried)), (a_stands, .inl (cI, 24, .inl v_stands))]) (wr := [(a_tried, .inl (cI, 8, .inl v_tried)), (a_stands, .inl (cI, 24, .inl v_stands))]) (As := [.int y_3, .int y_5]) (rest := []) E.1 hl hw (c_X6_doClash h_9) (cwV 2 hts (z_gV mw_625 mw_626 mw_627 mw_597 mw_628) rfl rfl rfl (by decide +kernel) ⟨(Nat.le_of_ble_eq_true rfl), (Nat.le_of_ble_eq_true rfl)⟩) 4 [(0, 2)] [(2, 2)] rfl rfl rfl rfl rfl rfl (by decide +kernel) rfl (q0 := 0) rfl rfl rfl (Nat.le_of_ble_eq_true rfl) dX6_isSound_138 ⟨Nat.le_of_ble_eq_true rfl, Nat.le_of_ble_eq_true rfl⟩ (fun H locs hw => ?_)
              refine lv_if_eq (tgt := 146) hx hb dX6_isSound_141 (by decide) (fun hc => ?_) (fun hc => ?_)
              · have hf := oI_pos hc hf
                exact w_X6_isSound_146 E ih _ _ _ hf _ _ _ hw (lv_sub hl [2, 3] rfl)
              · have hf := oI_neg hc hf
                refine lv_iconst (v := 0) hx hb dX6_isSound_144 (by decide) ?_
                cases hf
                exact z_zret E rfl z_n0 hw dX6_isSound_145
set_option maxHeartbeats 4000000 in
set_option maxRecDepth 100000 in
theorem w_X6_isSound_41 {n : Nat} (E : zE p s m args meth c cX6_isSound 5 (some .boolean) zwX6_isSound RX6) {k4 : Int32 → Int32 → (Nat → Int32) → (Nat → Int32) → (Nat → Int32) → Option (Int32)} (hk4 : ∀ (x1 : Int32) (x2 : Int32) (v_a : Nat → Int32) (v_tried : Nat → Int32) (v_stands : Nat → Int32), k4 x1 x2 v_a v_tried v_stands = some res → ∀ (H : Heap) (locs : List Loc) (ls : Array Slot), zW D (zT cI cZ cM) A s [(a_this, .inr (6, [.ref a_a, .ref a_fresh, .ref a_kept, .int v_keptMany, .int v_thrown, .ref a_buffer, .int v_buffered, .int v_size, .int v_at, .int v_behind, .int v_kind, .int v_wrong, .int v_wrongAt, .int v_errorAt, .long v_number, .ref a_best, .ref a_rentBy, .ref a_bareBy, .ref a_aheadBy, .ref a_isEdge, .ref a_tried, .ref a_stands, .ref a_found, .ref a_foundOn, .ref a_moving, .int v_movingMany, .int v_foundIncome, .int v_foundMoves])), (a_a, .inl (cI, 180, .inl v_a)), (a_tried, .inl (cI, 8, .inl v_tried)), (a_stands, .inl (cI, 24, .inl v_stands))] H locs → lv_has ls 5 [(0, .ref a_this), (1, .int x1), (2, .int x2)] → W p l e rmX6_isSound s m args below meth c H locs 0 0 (MQ below (zQi D (zT cI cZ cM) res [(a_this, .inr (6, [.ref a_a, .ref a_fresh, .ref a_kept, .int v_keptMany, .int v_thrown, .ref a_buffer, .int v_buffered, .int v_size, .int v_at, .int v_behind, .int v_kind, .int v_wrong, .int v_wrongAt, .int v_errorAt, .long v_number, .ref a_best, .ref a_rentBy, .ref a_bareBy, .ref a_aheadBy, .ref a_isEdge, .ref a_tried, .ref a_stands, .ref a_found, .ref a_foundOn, .ref a_moving, .int v_movingMany, .int v_foundIncome, .int v_foundMoves])), (a_a, .inl (cI, 180, .inl v_a)), (a_tried, .inl (cI, 8, .inl v_tried)), (a_stands, .inl (cI, 24, .inl v_stands))] A) args s 0 0 A) (F0 m 4 ls [])) : ∀ (t0 : Int32) (t1 : Int32) (x2 : Int32) (v_a : Nat → Int32) (v_tried : Nat → Int32) (v_stands : Nat → Int32), f_X6_isSound_41 n k4 t0 t1 x2 v_a v_tried v_stands = some res → ∀ (H : Heap) (locs : List Loc) (ls : Array Slot), zW D (zT cI cZ cM) A s [(a_this, .inr (6, [.ref a_a, .ref a_fresh, .ref a_kept, .int v_keptMany, .int v_thrown, .ref a_buffer, .int v_buffered, .int v_size, .int v_at, .int v_behind, .int v_kind, .int v_wrong, .int v_wrongAt, .int v_errorAt, .long v_number, .ref a_best, .ref a_rentBy, .ref a_bareBy, .ref a_aheadBy, .ref a_isEdge, .ref a_tried, .ref a_stands, .ref a_found, .ref a_foundOn, .ref a_moving, .int v_movingMany, .int v_foundIncome, .int v_foundMoves])), (a_a, .inl (cI, 180, .inl v_a)), (a_tried, .inl (cI, 8, .inl v_tried)), (a_stands, .inl (cI, 24, .inl v_stands))] H locs → lv_has ls 5 [(0, .ref a_this), (2, .int x2)] → W p l e rmX6_isSound s m args below meth c H locs 0 0 (MQ below (zQi D (zT cI cZ cM) res [(a_this, .inr (6, [.ref a_a, .ref a_fresh, .ref a_kept, .int v_keptMany, .int v_thrown, .ref a_buffer, .int v_buffered, .int v_size, .int v_at, .int v_behind, .int v_kind, .int v_wrong, .int v_wrongAt, .int v_errorAt, .long v_number, .ref a_best, .ref a_rentBy, .ref a_bareBy, .ref a_aheadBy, .ref a_isEdge, .ref a_tried, .ref a_stands, .ref a_found, .ref a_foundOn, .ref a_moving, .int v_movingMany, .int v_foundIncome, .int v_foundMoves])), (a_a, .inl (cI, 180, .inl v_a)), (a_tried, .inl (cI, 8, .inl v_tried)), (a_stands, .inl (cI, 24, .inl v_stands))] A) args s 0 0 A) (F0 m 41 ls [.int t1, .int t0]) := by
  obtain ⟨⟨hx, hb, hml, hown, hts⟩, hr, hlocks⟩ := id E
  intro t0 t1 x2 v_a v_tried v_stands hf H locs ls hw hl
  unfold f_X6_isSound_41 at hf
  refine lv_iadd hx hb dX6_isSound_41 ?_
  obtain ⟨y_10, e_y_10, hf⟩ := oL_elim hf
  refine z_top e_y_10 ?_
  refine lv_istore_n (lv' := [(1, .int y_10), (0, .ref a_this), (2, .int x2)]) hx hb dX6_isSound_42 rfl hl (z_lt rfl) rfl (fun ls hl => ?_)
  refine lv_iinc (v := (x2 + (1 : Int32))) (lv' := [(2, .int (x2 + (1 : Int32))), (1, .int y_10), (0, .ref a_this)]) hx hb dX6_isSound_43 hl (k := 2) rfl rfl (z_lt rfl) rfl (fun ls hl => ?_)
  refine lv_goto (tgt := 4) hx hb dX6_isSound_46 (by decide) ?_
  exact hk4 _ _ _ _ _ hf _ _ _ hw (lv_sub hl [2, 1, 0] rfl)
set_option maxHeartbeats 4000000 in
set_option maxRecDepth 100000 in
theorem w_X6_isSound_4 {n : Nat} (E : zE p s m args meth c cX6_isSound 5 (some .boolean) zwX6_isSound RX6) : ∀ (fu : Nat), ∀ (x1 : Int32) (x2 : Int32) (v_a : Nat → Int32) (v_tried : Nat → Int32) (v_stands : Nat → Int32), f_X6_isSound_4 n fu x1 x2 v_a v_tried v_stands = some res → ∀ (H : Heap) (locs : List Loc) (ls : Array Slot), zW D (zT cI cZ cM) A s [(a_this, .inr (6, [.ref a_a, .ref a_fresh, .ref a_kept, .int v_keptMany, .int v_thrown, .ref a_buffer, .int v_buffered, .int v_size, .int v_at, .int v_behind, .int v_kind, .int v_wrong, .int v_wrongAt, .int v_errorAt, .long v_number, .ref a_best, .ref a_rentBy, .ref a_bareBy, .ref a_aheadBy, .ref a_isEdge, .ref a_tried, .ref a_stands, .ref a_found, .ref a_foundOn, .ref a_moving, .int v_movingMany, .int v_foundIncome, .int v_foundMoves])), (a_a, .inl (cI, 180, .inl v_a)), (a_tried, .inl (cI, 8, .inl v_tried)), (a_stands, .inl (cI, 24, .inl v_stands))] H locs → lv_has ls 5 [(0, .ref a_this), (1, .int x1), (2, .int x2)] → W p l e rmX6_isSound s m args below meth c H locs 0 0 (MQ below (zQi D (zT cI cZ cM) res [(a_this, .inr (6, [.ref a_a, .ref a_fresh, .ref a_kept, .int v_keptMany, .int v_thrown, .ref a_buffer, .int v_buffered, .int v_size, .int v_at, .int v_behind, .int v_kind, .int v_wrong, .int v_wrongAt, .int v_errorAt, .long v_number, .ref a_best, .ref a_rentBy, .ref a_bareBy, .ref a_aheadBy, .ref a_isEdge, .ref a_tried, .ref a_stands, .ref a_found, .ref a_foundOn, .ref a_moving, .int v_movingMany, .int v_foundIncome, .int v_foundMoves])), (a_a, .inl (cI, 180, .inl v_a)), (a_tried, .inl (cI, 8, .inl v_tried)), (a_stands, .inl (cI, 24, .inl v_stands))] A) args s 0 0 A) (F0 m 4 ls []) := by
  obtain ⟨⟨hx, hb, hml, hown, hts⟩, hr, hlocks⟩ := id E
  intro fu
  induction fu with
  | zero => intro x1 x2 v_a v_tried v_stands hf; rw [f_X6_isSound_4.eq_1] at hf; cases hf
  | succ fu ih =>
    intro x1 x2 v_a v_tried v_stands hf H locs ls hw hl
    rw [f_X6_isSound_4.eq_2] at hf
    refine lv_iload_n hx hb dX6_isSound_4 rfl (lv_at hl 2 rfl) ?_
    refine lv_aload_n hx hb dX6_isSound_5 rfl (lv_at hl 0 rfl) ?_
    refine z_get E.1 hw in_wsX60 0 rfl rfl 0 (z_lt rfl) mw_593 (v := .ref a_a) rfl dX6_isSound_6 ?_
    refine lv_bipush (v := 74) hx hb dX6_isSound_9 (by decide) ?_
    obtain ⟨h_11, hf⟩ := oA_elim hf
    refine z_iald E.1 hw 1 0 rfl rfl h_11 dX6_isSound_11 ?_
    refine lv_icmp_ge (tgt := 49) hx hb dX6_isSound_12 (by decide) (fun hc => ?_) (fun hc => ?_)
    · have hf := oI_pos hc hf
      refine lv_iload_n hx hb dX6_isSound_49 rfl (lv_at hl 1 rfl) ?_
      refine lv_aload_n hx hb dX6_isSound_50 rfl (lv_at hl 0 rfl) ?_
      refine z_get E.1 hw in_wsX60 0 rfl rfl 0 (z_lt rfl) mw_593 (v := .ref a_a) rfl dX6_isSound_51 ?_
      refine lv_sipush (v := 179) hx hb dX6_isSound_54 (by decide) ?_
      obtain ⟨h_12, hf⟩ := oA_elim hf
      refine z_iald E.1 hw 1 0 rfl rfl h_12 dX6_isSound_57 ?_
      refine lv_icmp_le (tgt := 63) hx hb dX6_isSound_58 (by decide) (fun hc => ?_) (fun hc => ?_)
      · have hf := oI_pos hc hf
        refine lv_iconst (v := 0) hx hb dX6_isSound_63 (by decide) ?_
        refine lv_istore_n (lv' := [(2, .int (0 : Int32)), (0, .ref a_this), (1, .int x1)]) hx hb dX6_isSound_64 rfl hl (z_lt rfl) rfl (fun ls hl => ?_)
        exact w_X6_isSound_65 E  n _ _ _ hf _ _ _ hw (lv_sub hl [1, 0] rfl)
      · have hf := oI_neg hc hf
        refine lv_iconst (v := 0) hx hb dX6_isSound_61 (by decide) ?_
        cases hf
        exact z_zret E rfl z_n0 hw dX6_isSound_62
    · have hf := oI_neg hc hf
      refine lv_iload_n hx hb dX6_isSound_15 rfl (lv_at hl 1 rfl) ?_
      refine lv_aload_n hx hb dX6_isSound_16 rfl (lv_at hl 0 rfl) ?_
      refine z_get E.1 hw in_wsX60 0 rfl rfl 20 (z_lt rfl) mw_674 (v := .ref a_tried) rfl dX6_isSound_17 ?_
      refine lv_iload_n hx hb dX6_isSound_20 rfl (lv_at hl 2 rfl) ?_
      obtain ⟨h_13, hf⟩ := oA_elim hf
      refine z_iald E.1 hw 2 0 rfl rfl h_13 dX6_isSound_21 ?_
      refine lv_iconst (v := -1) hx hb dX6_isSound_22 (by decide) ?_
      refine lv_icmp_ne (tgt := 30) hx hb dX6_isSound_23 (by decide) (fun hc => ?_) (fun hc => ?_)
      · have hf := oI_neg hc hf
        refine lv_aload_n hx hb dX6_isSound_30 rfl (lv_at hl 0 rfl) ?_
        refine lv_iload_n hx hb dX6_isSound_31 rfl (lv_at hl 2 rfl) ?_
        refine lv_aload_n hx hb dX6_isSound_32 rfl (lv_at hl 0 rfl) ?_
        refine z_get E.1 hw in_wsX60 0 rfl rfl 20 (z_lt rfl) mw_674 (v := .ref a_tried) rfl dX6_isSound_33 ?_
        refine lv_iload_n hx hb dX6_isSound_36 rfl (lv_at hl 2 rfl) ?_
        obtain ⟨h_14, hf⟩ := oA_elim hf
        refine z_iald E.1 hw 2 0 rfl rfl h_14 dX6_isSound_37 ?_
        obtain ⟨r_15, h_16, hf⟩ := oB_elim hf
        refine z_callVi (ws' := [(a_this, .inr (6, [.ref a_a, .ref a_fresh, .ref a_kept, .int v_keptMany, .int v_thrown, .ref a_buffer, .int v_buffered, .int v_size, .int v_at, .int v_behind, .int v_kind, .int v_wrong, .int v_wrongAt, .int v_errorAt, .long v_number, .ref a_best, .ref a_rentBy, .ref a_bareBy, .ref a_aheadBy, .ref a_isEdge, .ref a_tried, .ref a_stands, .ref a_found, .ref a_foundOn, .ref a_moving, .int v_movingMany, .int v_foundIncome, .int v_foundMoves])), (a_a, .inl (cI, 180, .inl v_a)), (a_tried, .inl (cI, 8, .inl v_tried)), (a_stands, .inl (cI, 24, .inl v_stands))]) (wr := [(a_tried, .inl (cI, 8, .inl v_tried)), (a_stands, .inl (cI, 24, .inl v_stands))]) (As := [.int x2, .int (v_tried (x2).toNatClampNeg)]) (rest := [.int x1]) E.1 hl hw (c_X6_bare h_16) (cwV 2 hts (z_gV mw_648 mw_649 mw_650 mw_597 mw_619) rfl rfl rfl (by decide +kernel) ⟨(Nat.le_of_ble_eq_true rfl), (Nat.le_of_ble_eq_true rfl)⟩) 4 [(0, 2)] [(2, 2)] rfl rfl rfl rfl rfl rfl (by decide +kernel) rfl (q0 := 0) rfl rfl rfl (Nat.le_of_ble_eq_true rfl) dX6_isSound_38 ⟨Nat.le_of_ble_eq_true rfl, Nat.le_of_ble_eq_true rfl⟩ (fun H locs hw => ?_)
        exact w_X6_isSound_41 E ih _ _ _ _ _ _ hf _ _ _ hw (lv_sub hl [0, 2] rfl)
      · have hf := oI_pos hc hf
        refine lv_iconst (v := 0) hx hb dX6_isSound_26 (by decide) ?_
        refine lv_goto (tgt := 41) hx hb dX6_isSound_27 (by decide) ?_
        exact w_X6_isSound_41 E ih _ _ _ _ _ _ hf _ _ _ hw (lv_sub hl [0, 2] rfl)
set_option maxHeartbeats 4000000 in
set_option maxRecDepth 100000 in
theorem c_X6_isSound {l : Launch} {D : va_G} {cI cZ cM : ClassId} {a_this a_a a_fresh a_kept a_buffer a_best a_rentBy a_bareBy a_aheadBy a_isEdge a_tried a_stands a_found a_foundOn a_moving : Nat} {v_keptMany : Int32} {v_thrown : Int32} {v_buffered : Int32} {v_size : Int32} {v_at : Int32} {v_behind : Int32} {v_kind : Int32} {v_wrong : Int32} {v_wrongAt : Int32} {v_errorAt : Int32} {v_number : Int64} {v_movingMany : Int32} {v_foundIncome : Int32} {v_foundMoves : Int32} {res : Int32} {sz : Nat} {n : Nat} {v_a : Nat → Int32} {v_tried : Nat → Int32} {v_stands : Nat → Int32} (hf : f_X6_isSound n v_a v_tried v_stands = some res) : Met l yX6_isSound zwX6_isSound rmX6_isSound (zPc D (zT cI cZ cM) [.ref a_this] [(a_this, .inr (6, [.ref a_a, .ref a_fresh, .ref a_kept, .int v_keptMany, .int v_thrown, .ref a_buffer, .int v_buffered, .int v_size, .int v_at, .int v_behind, .int v_kind, .int v_wrong, .int v_wrongAt, .int v_errorAt, .long v_number, .ref a_best, .ref a_rentBy, .ref a_bareBy, .ref a_aheadBy, .ref a_isEdge, .ref a_tried, .ref a_stands, .ref a_found, .ref a_foundOn, .ref a_moving, .int v_movingMany, .int v_foundIncome, .int v_foundMoves])), (a_a, .inl (cI, 180, .inl v_a)), (a_tried, .inl (cI, 8, .inl v_tried)), (a_stands, .inl (cI, 24, .inl v_stands))] sz) (zQi D (zT cI cZ cM) res [(a_this, .inr (6, [.ref a_a, .ref a_fresh, .ref a_kept, .int v_keptMany, .int v_thrown, .ref a_buffer, .int v_buffered, .int v_size, .int v_at, .int v_behind, .int v_kind, .int v_wrong, .int v_wrongAt, .int v_errorAt, .long v_number, .ref a_best, .ref a_rentBy, .ref a_bareBy, .ref a_aheadBy, .ref a_isEdge, .ref a_tried, .ref a_stands, .ref a_found, .ref a_foundOn, .ref a_moving, .int v_movingMany, .int v_foundIncome, .int v_foundMoves])), (a_a, .inl (cI, 180, .inl v_a)), (a_tried, .inl (cI, 8, .inl v_tried)), (a_stands, .inl (cI, 24, .inl v_stands))] (va_A [(a_this, .inr (6, [.ref a_a, .ref a_fresh, .ref a_kept, .int v_keptMany, .int v_thrown, .ref a_buffer, .int v_buffered, .int v_size, .int v_at, .int v_behind, .int v_kind, .int v_wrong, .int v_wrongAt, .int v_errorAt, .long v_number, .ref a_best, .ref a_rentBy, .ref a_bareBy, .ref a_aheadBy, .ref a_isEdge, .ref a_tried, .ref a_stands, .ref a_found, .ref a_foundOn, .ref a_moving, .int v_movingMany, .int v_foundIncome, .int v_foundMoves])), (a_a, .inl (cI, 180, .inl v_a)), (a_tried, .inl (cI, 8, .inl v_tried)), (a_stands, .inl (cI, 24, .inl v_stands))] sz)) 0 0 (va_A [(a_this, .inr (6, [.ref a_a, .ref a_fresh, .ref a_kept, .int v_keptMany, .int v_thrown, .ref a_buffer, .int v_buffered, .int v_size, .int v_at, .int v_behind, .int v_kind, .int v_wrong, .int v_wrongAt, .int v_errorAt, .long v_number, .ref a_best, .ref a_rentBy, .ref a_bareBy, .ref a_aheadBy, .ref a_isEdge, .ref a_tried, .ref a_stands, .ref a_found, .ref a_foundOn, .ref a_moving, .int v_movingMany, .int v_foundIncome, .int v_foundMoves])), (a_a, .inl (cI, 180, .inl v_a)), (a_tried, .inl (cI, 8, .inl v_tried)), (a_stands, .inl (cI, 24, .inl v_stands))] sz) := by
  refine z_met (cc := cX6_isSound) (maxL := 5) (ret := (some .boolean)) (by decide) rfl (Nat.le_of_ble_eq_true rfl) ?_
  intro p e s m below meth c ls E hsz hw hl
  obtain ⟨⟨hx, hb, hml, hown, hts⟩, hr, hlocks⟩ := id E
  have hl : lv_has ls 5 [(0, .ref a_this)] := hl
  unfold f_X6_isSound at hf
  refine lv_iconst (v := 0) hx hb dX6_isSound_0 (by decide) ?_
  refine lv_istore_n (lv' := [(1, .int (0 : Int32)), (0, .ref a_this)]) hx hb dX6_isSound_1 rfl hl (z_lt rfl) rfl (fun ls hl => ?_)
  refine lv_iconst (v := 0) hx hb dX6_isSound_2 (by decide) ?_
  refine lv_istore_n (lv' := [(2, .int (0 : Int32)), (1, .int (0 : Int32)), (0, .ref a_this)]) hx hb dX6_isSound_3 rfl hl (z_lt rfl) rfl (fun ls hl => ?_)
  exact w_X6_isSound_4 E  n _ _ _ _ _ hf _ _ _ hw (lv_sub hl [2, 1, 0] rfl)
end
/-! X6_canSwap -/
section
variable {p : Program} {l : Launch} {e : Env} {s : State} {m : MethodId} {args : Array Value} {below : List Frame} {meth : Method} {c : Code} {D : va_G} {A : Nat → Prop} {cI cZ cM : ClassId} {a_this a_a a_fresh a_kept a_buffer a_best a_rentBy a_bareBy a_aheadBy a_isEdge a_tried a_stands a_found a_foundOn a_moving : Nat} {v_keptMany : Int32} {v_thrown : Int32} {v_buffered : Int32} {v_size : Int32} {v_at : Int32} {v_behind : Int32} {v_kind : Int32} {v_wrong : Int32} {v_wrongAt : Int32} {v_errorAt : Int32} {v_number : Int64} {v_movingMany : Int32} {v_foundIncome : Int32} {v_foundMoves : Int32} {res : Int32 × (Nat → Int32) × (Nat → Int32)}
def rmX6_canSwap : Room := { frames := 2, cells := 0, slots := 0, locals := 48 }
abbrev zwX6_canSwap : List Cond := Cond.code yX6_canSwap cX6_canSwap 4 (some .boolean) :: wsAll
set_option maxHeartbeats 4000000 in
set_option maxRecDepth 100000 in
theorem w_X6_canSwap_152 {n : Nat} (E : zE p s m args meth c cX6_canSwap 4 (some .boolean) zwX6_canSwap RX6) {k56 : Int32 → Int32 → Int32 → (Nat → Int32) → (Nat → Int32) → (Nat → Int32) → Option (Int32 × (Nat → Int32) × (Nat → Int32))} (hk56 : ∀ (x1 : Int32) (x2 : Int32) (x3 : Int32) (v_a : Nat → Int32) (v_tried : Nat → Int32) (v_stands : Nat → Int32), k56 x1 x2 x3 v_a v_tried v_stands = some res → ∀ (H : Heap) (locs : List Loc) (ls : Array Slot), zW D (zT cI cZ cM) A s [(a_this, .inr (6, [.ref a_a, .ref a_fresh, .ref a_kept, .int v_keptMany, .int v_thrown, .ref a_buffer, .int v_buffered, .int v_size, .int v_at, .int v_behind, .int v_kind, .int v_wrong, .int v_wrongAt, .int v_errorAt, .long v_number, .ref a_best, .ref a_rentBy, .ref a_bareBy, .ref a_aheadBy, .ref a_isEdge, .ref a_tried, .ref a_stands, .ref a_found, .ref a_foundOn, .ref a_moving, .int v_movingMany, .int v_foundIncome, .int v_foundMoves])), (a_a, .inl (cI, 180, .inl v_a)), (a_tried, .inl (cI, 8, .inl v_tried)), (a_stands, .inl (cI, 24, .inl v_stands))] H locs → lv_has ls 4 [(0, .ref a_this), (1, .int x1), (2, .int x2), (3, .int x3)] → W p l e rmX6_canSwap s m args below meth c H locs 0 0 (MQ below (zQi D (zT cI cZ cM) res.1 [(a_this, .inr (6, [.ref a_a, .ref a_fresh, .ref a_kept, .int v_keptMany, .int v_thrown, .ref a_buffer, .int v_buffered, .int v_size, .int v_at, .int v_behind, .int v_kind, .int v_wrong, .int v_wrongAt, .int v_errorAt, .long v_number, .ref a_best, .ref a_rentBy, .ref a_bareBy, .ref a_aheadBy, .ref a_isEdge, .ref a_tried, .ref a_stands, .ref a_found, .ref a_foundOn, .ref a_moving, .int v_movingMany, .int v_foundIncome, .int v_foundMoves])), (a_a, .inl (cI, 180, .inl v_a)), (a_tried, .inl (cI, 8, .inl res.2.1)), (a_stands, .inl (cI, 24, .inl res.2.2))] A) args s 0 0 A) (F0 m 56 ls [])) : ∀ (x1 : Int32) (x2 : Int32) (x3 : Int32) (v_a : Nat → Int32) (v_tried : Nat → Int32) (v_stands : Nat → Int32), f_X6_canSwap_152 n k56 x1 x2 x3 v_a v_tried v_stands = some res → ∀ (H : Heap) (locs : List Loc) (ls : Array Slot), zW D (zT cI cZ cM) A s [(a_this, .inr (6, [.ref a_a, .ref a_fresh, .ref a_kept, .int v_keptMany, .int v_thrown, .ref a_buffer, .int v_buffered, .int v_size, .int v_at, .int v_behind, .int v_kind, .int v_wrong, .int v_wrongAt, .int v_errorAt, .long v_number, .ref a_best, .ref a_rentBy, .ref a_bareBy, .ref a_aheadBy, .ref a_isEdge, .ref a_tried, .ref a_stands, .ref a_found, .ref a_foundOn, .ref a_moving, .int v_movingMany, .int v_foundIncome, .int v_foundMoves])), (a_a, .inl (cI, 180, .inl v_a)), (a_tried, .inl (cI, 8, .inl v_tried)), (a_stands, .inl (cI, 24, .inl v_stands))] H locs → lv_has ls 4 [(0, .ref a_this), (1, .int x1), (2, .int x2), (3, .int x3)] → W p l e rmX6_canSwap s m args below meth c H locs 0 0 (MQ below (zQi D (zT cI cZ cM) res.1 [(a_this, .inr (6, [.ref a_a, .ref a_fresh, .ref a_kept, .int v_keptMany, .int v_thrown, .ref a_buffer, .int v_buffered, .int v_size, .int v_at, .int v_behind, .int v_kind, .int v_wrong, .int v_wrongAt, .int v_errorAt, .long v_number, .ref a_best, .ref a_rentBy, .ref a_bareBy, .ref a_aheadBy, .ref a_isEdge, .ref a_tried, .ref a_stands, .ref a_found, .ref a_foundOn, .ref a_moving, .int v_movingMany, .int v_foundIncome, .int v_foundMoves])), (a_a, .inl (cI, 180, .inl v_a)), (a_tried, .inl (cI, 8, .inl res.2.1)), (a_stands, .inl (cI, 24, .inl res.2.2))] A) args s 0 0 A) (F0 m 152 ls []) := by
  obtain ⟨⟨hx, hb, hml, hown, hts⟩, hr, hlocks⟩ := id E
  intro x1 x2 x3 v_a v_tried v_stands hf H locs ls hw hl
  unfold f_X6_canSwap_152 at hf
  refine lv_iinc (v := (x3 + (1 : Int32))) (lv' := [(3, .int (x3 + (1 : Int32))), (0, .ref a_this), (1, .int x1), (2, .int x2)]) hx hb dX6_canSwap_152 hl (k := 3) rfl rfl (z_lt rfl) rfl (fun ls hl => ?_)
  refine lv_goto (tgt := 56) hx hb dX6_canSwap_155 (by decide) ?_
  exact hk56 _ _ _ _ _ _ hf _ _ _ hw (lv_sub hl [1, 2, 3, 0] rfl)
set_option maxHeartbeats 4000000 in
set_option maxRecDepth 100000 in
theorem w_X6_canSwap_110 {n : Nat} (E : zE p s m args meth c cX6_canSwap 4 (some .boolean) zwX6_canSwap RX6) {k56 : Int32 → Int32 → Int32 → (Nat → Int32) → (Nat → Int32) → (Nat → Int32) → Option (Int32 × (Nat → Int32) × (Nat → Int32))} (hk56 : ∀ (x1 : Int32) (x2 : Int32) (x3 : Int32) (v_a : Nat → Int32) (v_tried : Nat → Int32) (v_stands : Nat → Int32), k56 x1 x2 x3 v_a v_tried v_stands = some res → ∀ (H : Heap) (locs : List Loc) (ls : Array Slot), zW D (zT cI cZ cM) A s [(a_this, .inr (6, [.ref a_a, .ref a_fresh, .ref a_kept, .int v_keptMany, .int v_thrown, .ref a_buffer, .int v_buffered, .int v_size, .int v_at, .int v_behind, .int v_kind, .int v_wrong, .int v_wrongAt, .int v_errorAt, .long v_number, .ref a_best, .ref a_rentBy, .ref a_bareBy, .ref a_aheadBy, .ref a_isEdge, .ref a_tried, .ref a_stands, .ref a_found, .ref a_foundOn, .ref a_moving, .int v_movingMany, .int v_foundIncome, .int v_foundMoves])), (a_a, .inl (cI, 180, .inl v_a)), (a_tried, .inl (cI, 8, .inl v_tried)), (a_stands, .inl (cI, 24, .inl v_stands))] H locs → lv_has ls 4 [(0, .ref a_this), (1, .int x1), (2, .int x2), (3, .int x3)] → W p l e rmX6_canSwap s m args below meth c H locs 0 0 (MQ below (zQi D (zT cI cZ cM) res.1 [(a_this, .inr (6, [.ref a_a, .ref a_fresh, .ref a_kept, .int v_keptMany, .int v_thrown, .ref a_buffer, .int v_buffered, .int v_size, .int v_at, .int v_behind, .int v_kind, .int v_wrong, .int v_wrongAt, .int v_errorAt, .long v_number, .ref a_best, .ref a_rentBy, .ref a_bareBy, .ref a_aheadBy, .ref a_isEdge, .ref a_tried, .ref a_stands, .ref a_found, .ref a_foundOn, .ref a_moving, .int v_movingMany, .int v_foundIncome, .int v_foundMoves])), (a_a, .inl (cI, 180, .inl v_a)), (a_tried, .inl (cI, 8, .inl res.2.1)), (a_stands, .inl (cI, 24, .inl res.2.2))] A) args s 0 0 A) (F0 m 56 ls [])) : ∀ (t1 : Int32) (t2 : Int32) (x1 : Int32) (x2 : Int32) (x3 : Int32) (v_a : Nat → Int32) (v_tried : Nat → Int32) (v_stands : Nat → Int32), f_X6_canSwap_110 n k56 t1 t2 x1 x2 x3 v_a v_tried v_stands = some res → ∀ (H : Heap) (locs : List Loc) (ls : Array Slot), zW D (zT cI cZ cM) A s [(a_this, .inr (6, [.ref a_a, .ref a_fresh, .ref a_kept, .int v_keptMany, .int v_thrown, .ref a_buffer, .int v_buffered, .int v_size, .int v_at, .int v_behind, .int v_kind, .int v_wrong, .int v_wrongAt, .int v_errorAt, .long v_number, .ref a_best, .ref a_rentBy, .ref a_bareBy, .ref a_aheadBy, .ref a_isEdge, .ref a_tried, .ref a_stands, .ref a_found, .ref a_foundOn, .ref a_moving, .int v_movingMany, .int v_foundIncome, .int v_foundMoves])), (a_a, .inl (cI, 180, .inl v_a)), (a_tried, .inl (cI, 8, .inl v_tried)), (a_stands, .inl (cI, 24, .inl v_stands))] H locs → lv_has ls 4 [(0, .ref a_this), (1, .int x1), (2, .int x2), (3, .int x3)] → W p l e rmX6_canSwap s m args below meth c H locs 0 0 (MQ below (zQi D (zT cI cZ cM) res.1 [(a_this, .inr (6, [.ref a_a, .ref a_fresh, .ref a_kept, .int v_keptMany, .int v_thrown, .ref a_buffer, .int v_buffered, .int v_size, .int v_at, .int v_behind, .int v_kind, .int v_wrong, .int v_wrongAt, .int v_errorAt, .long v_number, .ref a_best, .ref a_rentBy, .ref a_bareBy, .ref a_aheadBy, .ref a_isEdge, .ref a_tried, .ref a_stands, .ref a_found, .ref a_foundOn, .ref a_moving, .int v_movingMany, .int v_foundIncome, .int v_foundMoves])), (a_a, .inl (cI, 180, .inl v_a)), (a_tried, .inl (cI, 8, .inl res.2.1)), (a_stands, .inl (cI, 24, .inl res.2.2))] A) args s 0 0 A) (F0 m 110 ls [.int t2, .int t1, .ref a_tried]) := by
  obtain ⟨⟨hx, hb, hml, hown, hts⟩, hr, hlocks⟩ := id E
  intro t1 t2 x1 x2 x3 v_a v_tried v_stands hf H locs ls hw hl
  unfold f_X6_canSwap_110 at hf
  obtain ⟨h_1, hf⟩ := oA_elim hf
  obtain ⟨v_2, e_v_2, hf⟩ := oL_elim hf
  refine z_iast (ws' := [(a_this, .inr (6, [.ref a_a, .ref a_fresh, .ref a_kept, .int v_keptMany, .int v_thrown, .ref a_buffer, .int v_buffered, .int v_size, .int v_at, .int v_behind, .int v_kind, .int v_wrong, .int v_wrongAt, .int v_errorAt, .long v_number, .ref a_best, .ref a_rentBy, .ref a_bareBy, .ref a_aheadBy, .ref a_isEdge, .ref a_tried, .ref a_stands, .ref a_found, .ref a_foundOn, .ref a_moving, .int v_movingMany, .int v_foundIncome, .int v_foundMoves])), (a_a, .inl (cI, 180, .inl v_a)), (a_tried, .inl (cI, 8, .inl v_2)), (a_stands, .inl (cI, 24, .inl v_stands))]) E.1 hw 2 0 rfl rfl h_1 (by subst e_v_2; rfl) dX6_canSwap_110 (fun H locs hw => ?_)
  refine lv_aload_n hx hb dX6_canSwap_111 rfl (lv_at hl 0 rfl) ?_
  refine z_get E.1 hw in_wsX60 0 rfl rfl 20 (z_lt rfl) mw_674 (v := .ref a_tried) rfl dX6_canSwap_112 ?_
  refine lv_iload_n hx hb dX6_canSwap_115 rfl (lv_at hl 3 rfl) ?_
  obtain ⟨h_3, hf⟩ := oA_elim hf
  refine z_iald E.1 hw 2 0 rfl rfl h_3 dX6_canSwap_116 ?_
  refine lv_iconst (v := -1) hx hb dX6_canSwap_117 (by decide) ?_
  refine lv_icmp_ne (tgt := 124) hx hb dX6_canSwap_118 (by decide) (fun hc => ?_) (fun hc => ?_)
  · have hf := oI_neg hc hf
    refine lv_aload_n hx hb dX6_canSwap_124 rfl (lv_at hl 0 rfl) ?_
    refine lv_iload_n hx hb dX6_canSwap_125 rfl (lv_at hl 3 rfl) ?_
    refine lv_aload_n hx hb dX6_canSwap_126 rfl (lv_at hl 0 rfl) ?_
    refine z_get E.1 hw in_wsX60 0 rfl rfl 20 (z_lt rfl) mw_674 (v := .ref a_tried) rfl dX6_canSwap_127 ?_
    refine lv_iload_n hx hb dX6_canSwap_130 rfl (lv_at hl 3 rfl) ?_
    obtain ⟨h_4, hf⟩ := oA_elim hf
    refine z_iald E.1 hw 2 0 rfl rfl h_4 dX6_canSwap_131 ?_
    obtain ⟨r_5, h_6, hf⟩ := oB_elim hf
    refine z_callVi (ws' := [(a_this, .inr (6, [.ref a_a, .ref a_fresh, .ref a_kept, .int v_keptMany, .int v_thrown, .ref a_buffer, .int v_buffered, .int v_size, .int v_at, .int v_behind, .int v_kind, .int v_wrong, .int v_wrongAt, .int v_errorAt, .long v_number, .ref a_best, .ref a_rentBy, .ref a_bareBy, .ref a_aheadBy, .ref a_isEdge, .ref a_tried, .ref a_stands, .ref a_found, .ref a_foundOn, .ref a_moving, .int v_movingMany, .int v_foundIncome, .int v_foundMoves])), (a_a, .inl (cI, 180, .inl v_a)), (a_tried, .inl (cI, 8, .inl v_2)), (a_stands, .inl (cI, 24, .inl v_stands))]) (wr := [(a_tried, .inl (cI, 8, .inl v_2))]) (As := [.int x3, .int (v_2 (x3).toNatClampNeg)]) (rest := []) E.1 hl hw (c_X6_fits h_6) (cwV 2 hts (z_gV mw_675 mw_676 mw_677 mw_597 mw_678) rfl rfl rfl (by decide +kernel) ⟨(Nat.le_of_ble_eq_true rfl), (Nat.le_of_ble_eq_true rfl)⟩) 4 [(0, 2), (3, 1)] [(2, 1)] rfl rfl rfl rfl rfl rfl (by decide +kernel) rfl (q0 := 0) rfl rfl rfl (Nat.le_of_ble_eq_true rfl) dX6_canSwap_132 ⟨Nat.le_of_ble_eq_true rfl, Nat.le_of_ble_eq_true rfl⟩ (fun H locs hw => ?_)
    refine lv_if_ne (tgt := 140) hx hb dX6_canSwap_135 (by decide) (fun hc => ?_) (fun hc => ?_)
    · have hf := oI_neg hc hf
      refine lv_aload_n hx hb dX6_canSwap_140 rfl (lv_at hl 0 rfl) ?_
      refine lv_iload_n hx hb dX6_canSwap_141 rfl (lv_at hl 3 rfl) ?_
      refine lv_aload_n hx hb dX6_canSwap_142 rfl (lv_at hl 0 rfl) ?_
      refine z_get E.1 hw in_wsX60 0 rfl rfl 20 (z_lt rfl) mw_674 (v := .ref a_tried) rfl dX6_canSwap_143 ?_
      refine lv_iload_n hx hb dX6_canSwap_146 rfl (lv_at hl 3 rfl) ?_
      obtain ⟨h_7, hf⟩ := oA_elim hf
      refine z_iald E.1 hw 2 0 rfl rfl h_7 dX6_canSwap_147 ?_
      refine lv_iload_n hx hb dX6_canSwap_148 rfl (lv_at hl 3 rfl) ?_
      obtain ⟨v_8, h_9, hf⟩ := oB_elim hf
      refine z_callVv (ws' := [(a_this, .inr (6, [.ref a_a, .ref a_fresh, .ref a_kept, .int v_keptMany, .int v_thrown, .ref a_buffer, .int v_buffered, .int v_size, .int v_at, .int v_behind, .int v_kind, .int v_wrong, .int v_wrongAt, .int v_errorAt, .long v_number, .ref a_best, .ref a_rentBy, .ref a_bareBy, .ref a_aheadBy, .ref a_isEdge, .ref a_tried, .ref a_stands, .ref a_found, .ref a_foundOn, .ref a_moving, .int v_movingMany, .int v_foundIncome, .int v_foundMoves])), (a_a, .inl (cI, 180, .inl v_a)), (a_tried, .inl (cI, 8, .inl v_2)), (a_stands, .inl (cI, 24, .inl v_8))]) (wr := [(a_tried, .inl (cI, 8, .inl v_2))]) (As := [.int x3, .int (v_2 (x3).toNatClampNeg), .int x3]) (rest := []) E.1 hl hw (c_X6_lays h_9) (cwV 3 hts (z_gV mw_683 mw_684 mw_685 mw_597 mw_686) rfl rfl rfl (by decide +kernel) ⟨(Nat.le_of_ble_eq_true rfl), (Nat.le_of_ble_eq_true rfl)⟩) 4 [(0, 2), (3, 1)] [(2, 1)] rfl rfl rfl rfl rfl rfl (by decide +kernel) rfl (q0 := 0) rfl rfl rfl (Nat.le_of_ble_eq_true rfl) dX6_canSwap_149 ⟨Nat.le_of_ble_eq_true rfl, Nat.le_of_ble_eq_true rfl⟩ (fun H locs hw => ?_)
      exact w_X6_canSwap_152 E hk56 _ _ _ _ _ _ hf _ _ _ hw (lv_sub hl [0, 1, 2, 3] rfl)
    · have hf := oI_pos hc hf
      refine lv_iconst (v := 0) hx hb dX6_canSwap_138 (by decide) ?_
      cases hf
      exact z_zret E rfl z_n0 hw dX6_canSwap_139
  · have hf := oI_pos hc hf
    refine lv_goto (tgt := 152) hx hb dX6_canSwap_121 (by decide) ?_
    exact w_X6_canSwap_152 E hk56 _ _ _ _ _ _ hf _ _ _ hw (lv_sub hl [0, 1, 2, 3] rfl)
set_option maxHeartbeats 4000000 in
set_option maxRecDepth 100000 in
theorem w_X6_canSwap_56 {n : Nat} (E : zE p s m args meth c cX6_canSwap 4 (some .boolean) zwX6_canSwap RX6) : ∀ (fu : Nat), ∀ (x1 : Int32) (x2 : Int32) (x3 : Int32) (v_a : Nat → Int32) (v_tried : Nat → Int32) (v_stands : Nat → Int32), f_X6_canSwap_56 n fu x1 x2 x3 v_a v_tried v_stands = some res → ∀ (H : Heap) (locs : List Loc) (ls : Array Slot), zW D (zT cI cZ cM) A s [(a_this, .inr (6, [.ref a_a, .ref a_fresh, .ref a_kept, .int v_keptMany, .int v_thrown, .ref a_buffer, .int v_buffered, .int v_size, .int v_at, .int v_behind, .int v_kind, .int v_wrong, .int v_wrongAt, .int v_errorAt, .long v_number, .ref a_best, .ref a_rentBy, .ref a_bareBy, .ref a_aheadBy, .ref a_isEdge, .ref a_tried, .ref a_stands, .ref a_found, .ref a_foundOn, .ref a_moving, .int v_movingMany, .int v_foundIncome, .int v_foundMoves])), (a_a, .inl (cI, 180, .inl v_a)), (a_tried, .inl (cI, 8, .inl v_tried)), (a_stands, .inl (cI, 24, .inl v_stands))] H locs → lv_has ls 4 [(0, .ref a_this), (1, .int x1), (2, .int x2), (3, .int x3)] → W p l e rmX6_canSwap s m args below meth c H locs 0 0 (MQ below (zQi D (zT cI cZ cM) res.1 [(a_this, .inr (6, [.ref a_a, .ref a_fresh, .ref a_kept, .int v_keptMany, .int v_thrown, .ref a_buffer, .int v_buffered, .int v_size, .int v_at, .int v_behind, .int v_kind, .int v_wrong, .int v_wrongAt, .int v_errorAt, .long v_number, .ref a_best, .ref a_rentBy, .ref a_bareBy, .ref a_aheadBy, .ref a_isEdge, .ref a_tried, .ref a_stands, .ref a_found, .ref a_foundOn, .ref a_moving, .int v_movingMany, .int v_foundIncome, .int v_foundMoves])), (a_a, .inl (cI, 180, .inl v_a)), (a_tried, .inl (cI, 8, .inl res.2.1)), (a_stands, .inl (cI, 24, .inl res.2.2))] A) args s 0 0 A) (F0 m 56 ls []) := by
  obtain ⟨⟨hx, hb, hml, hown, hts⟩, hr, hlocks⟩ := id E
  intro fu
  induction fu with
  | zero => intro x1 x2 x3 v_a v_tried v_stands hf; rw [f_X6_canSwap_56.eq_1] at hf; cases hf
  | succ fu ih =>
    intro x1 x2 x3 v_a v_tried v_stands hf H locs ls hw hl
    rw [f_X6_canSwap_56.eq_2] at hf
    refine lv_iload_n hx hb dX6_canSwap_56 rfl (lv_at hl 3 rfl) ?_
    refine lv_bipush (v := 8) hx hb dX6_canSwap_57 (by decide) ?_
    refine lv_icmp_ge (tgt := 158) hx hb dX6_canSwap_59 (by decide) (fun hc => ?_) (fun hc => ?_)
    · have hf := oI_pos hc hf
      refine lv_aload_n hx hb dX6_canSwap_158 rfl (lv_at hl 0 rfl) ?_
      obtain ⟨r_10, h_11, hf⟩ := oB_elim hf
      refine z_callVi (ws' := [(a_this, .inr (6, [.ref a_a, .ref a_fresh, .ref a_kept, .int v_keptMany, .int v_thrown, .ref a_buffer, .int v_buffered, .int v_size, .int v_at, .int v_behind, .int v_kind, .int v_wrong, .int v_wrongAt, .int v_errorAt, .long v_number, .ref a_best, .ref a_rentBy, .ref a_bareBy, .ref a_aheadBy, .ref a_isEdge, .ref a_tried, .ref a_stands, .ref a_found, .ref a_foundOn, .ref a_moving, .int v_movingMany, .int v_foundIncome, .int v_foundMoves])), (a_a, .inl (cI, 180, .inl v_a)), (a_tried, .inl (cI, 8, .inl v_tried)), (a_stands, .inl (cI, 24, .inl v_stands))]) (wr := []) (As := []) (rest := []) E.1 hl hw (c_X6_isSound h_11) (cwV 0 hts (z_gV mw_687 mw_688 mw_689 mw_597 mw_690) rfl rfl rfl (by decide +kernel) ⟨(Nat.le_of_ble_eq_true rfl), (Nat.le_of_ble_eq_true rfl)⟩) 4 [(0, 4)] [] rfl rfl rfl rfl rfl rfl (by decide +kernel) rfl (q0 := 0) rfl rfl rfl (Nat.le_of_ble_eq_true rfl) dX6_canSwap_159 ⟨Nat.le_of_ble_eq_true rfl, Nat.le_of_ble_eq_true rfl⟩ (fun H locs hw => ?_)
      obtain ⟨h_12, hf⟩ := oG_elim hf
      cases hf
      exact z_zret E rfl (z_nar h_12) hw dX6_canSwap_162
    · have hf := oI_neg hc hf
      refine lv_aload_n hx hb dX6_canSwap_62 rfl (lv_at hl 0 rfl) ?_
      refine z_get E.1 hw in_wsX60 0 rfl rfl 20 (z_lt rfl) mw_674 (v := .ref a_tried) rfl dX6_canSwap_63 ?_
      refine lv_iload_n hx hb dX6_canSwap_66 rfl (lv_at hl 3 rfl) ?_
      refine lv_iload_n hx hb dX6_canSwap_67 rfl (lv_at hl 3 rfl) ?_
      refine lv_iload_n hx hb dX6_canSwap_68 rfl (lv_at hl 1 rfl) ?_
      refine lv_icmp_ne (tgt := 84) hx hb dX6_canSwap_69 (by decide) (fun hc => ?_) (fun hc => ?_)
      · have hf := oI_neg hc hf
        refine lv_iload_n hx hb dX6_canSwap_84 rfl (lv_at hl 3 rfl) ?_
        refine lv_iload_n hx hb dX6_canSwap_85 rfl (lv_at hl 2 rfl) ?_
        refine lv_icmp_ne (tgt := 101) hx hb dX6_canSwap_86 (by decide) (fun hc => ?_) (fun hc => ?_)
        · have hf := oI_neg hc hf
          refine lv_aload_n hx hb dX6_canSwap_101 rfl (lv_at hl 0 rfl) ?_
          refine z_get E.1 hw in_wsX60 0 rfl rfl 0 (z_lt rfl) mw_593 (v := .ref a_a) rfl dX6_canSwap_102 ?_
          refine lv_bipush (v := 107) hx hb dX6_canSwap_105 (by decide) ?_
          refine lv_iload_n hx hb dX6_canSwap_107 rfl (lv_at hl 3 rfl) ?_
          refine lv_iadd hx hb dX6_canSwap_108 ?_
          obtain ⟨h_13, hf⟩ := oA_elim hf
          refine z_iald E.1 hw 1 0 rfl rfl h_13 dX6_canSwap_109 ?_
          exact w_X6_canSwap_110 E ih _ _ _ _ _ _ _ _ hf _ _ _ hw (lv_sub hl [0, 1, 2, 3] rfl)
        · have hf := oI_pos hc hf
          refine lv_aload_n hx hb dX6_canSwap_89 rfl (lv_at hl 0 rfl) ?_
          refine z_get E.1 hw in_wsX60 0 rfl rfl 0 (z_lt rfl) mw_593 (v := .ref a_a) rfl dX6_canSwap_90 ?_
          refine lv_bipush (v := 107) hx hb dX6_canSwap_93 (by decide) ?_
          refine lv_iload_n hx hb dX6_canSwap_95 rfl (lv_at hl 1 rfl) ?_
          refine lv_iadd hx hb dX6_canSwap_96 ?_
          obtain ⟨h_14, hf⟩ := oA_elim hf
          refine z_iald E.1 hw 1 0 rfl rfl h_14 dX6_canSwap_97 ?_
          refine lv_goto (tgt := 110) hx hb dX6_canSwap_98 (by decide) ?_
          exact w_X6_canSwap_110 E ih _ _ _ _ _ _ _ _ hf _ _ _ hw (lv_sub hl [0, 1, 2, 3] rfl)
      · have hf := oI_pos hc hf
        refine lv_aload_n hx hb dX6_canSwap_72 rfl (lv_at hl 0 rfl) ?_
        refine z_get E.1 hw in_wsX60 0 rfl rfl 0 (z_lt rfl) mw_593 (v := .ref a_a) rfl dX6_canSwap_73 ?_
        refine lv_bipush (v := 107) hx hb dX6_canSwap_76 (by decide) ?_
        refine lv_iload_n hx hb dX6_canSwap_78 rfl (lv_at hl 2 rfl) ?_
        refine lv_iadd hx hb dX6_canSwap_79 ?_
        obtain ⟨h_15, hf⟩ := oA_elim hf
        refine z_iald E.1 hw 1 0 rfl rfl h_15 dX6_canSwap_80 ?_
        refine lv_goto (tgt := 110) hx hb dX6_canSwap_81 (by decide) ?_
        exact w_X6_canSwap_110 E ih _ _ _ _ _ _ _ _ hf _ _ _ hw (lv_sub hl [0, 1, 2, 3] rfl)
set_option maxHeartbeats 4000000 in
set_option maxRecDepth 100000 in
theorem w_X6_canSwap_35 {n : Nat} (E : zE p s m args meth c cX6_canSwap 4 (some .boolean) zwX6_canSwap RX6) : ∀ (fu : Nat), ∀ (x1 : Int32) (x2 : Int32) (x3 : Int32) (v_a : Nat → Int32) (v_tried : Nat → Int32) (v_stands : Nat → Int32), f_X6_canSwap_35 n fu x1 x2 x3 v_a v_tried v_stands = some res → ∀ (H : Heap) (locs : List Loc) (ls : Array Slot), zW D (zT cI cZ cM) A s [(a_this, .inr (6, [.ref a_a, .ref a_fresh, .ref a_kept, .int v_keptMany, .int v_thrown, .ref a_buffer, .int v_buffered, .int v_size, .int v_at, .int v_behind, .int v_kind, .int v_wrong, .int v_wrongAt, .int v_errorAt, .long v_number, .ref a_best, .ref a_rentBy, .ref a_bareBy, .ref a_aheadBy, .ref a_isEdge, .ref a_tried, .ref a_stands, .ref a_found, .ref a_foundOn, .ref a_moving, .int v_movingMany, .int v_foundIncome, .int v_foundMoves])), (a_a, .inl (cI, 180, .inl v_a)), (a_tried, .inl (cI, 8, .inl v_tried)), (a_stands, .inl (cI, 24, .inl v_stands))] H locs → lv_has ls 4 [(0, .ref a_this), (1, .int x1), (2, .int x2), (3, .int x3)] → W p l e rmX6_canSwap s m args below meth c H locs 0 0 (MQ below (zQi D (zT cI cZ cM) res.1 [(a_this, .inr (6, [.ref a_a, .ref a_fresh, .ref a_kept, .int v_keptMany, .int v_thrown, .ref a_buffer, .int v_buffered, .int v_size, .int v_at, .int v_behind, .int v_kind, .int v_wrong, .int v_wrongAt, .int v_errorAt, .long v_number, .ref a_best, .ref a_rentBy, .ref a_bareBy, .ref a_aheadBy, .ref a_isEdge, .ref a_tried, .ref a_stands, .ref a_found, .ref a_foundOn, .ref a_moving, .int v_movingMany, .int v_foundIncome, .int v_foundMoves])), (a_a, .inl (cI, 180, .inl v_a)), (a_tried, .inl (cI, 8, .inl res.2.1)), (a_stands, .inl (cI, 24, .inl res.2.2))] A) args s 0 0 A) (F0 m 35 ls []) := by
  obtain ⟨⟨hx, hb, hml, hown, hts⟩, hr, hlocks⟩ := id E
  intro fu
  induction fu with
  | zero => intro x1 x2 x3 v_a v_tried v_stands hf; rw [f_X6_canSwap_35.eq_1] at hf; cases hf
  | succ fu ih =>
    intro x1 x2 x3 v_a v_tried v_stands hf H locs ls hw hl
    rw [f_X6_canSwap_35.eq_2] at hf
    refine lv_iload_n hx hb dX6_canSwap_35 rfl (lv_at hl 3 rfl) ?_
    refine lv_bipush (v := 24) hx hb dX6_canSwap_36 (by decide) ?_
    refine lv_icmp_ge (tgt := 54) hx hb dX6_canSwap_38 (by decide) (fun hc => ?_) (fun hc => ?_)
    · have hf := oI_pos hc hf
      refine lv_iconst (v := 0) hx hb dX6_canSwap_54 (by decide) ?_
      refine lv_istore_n (lv' := [(3, .int (0 : Int32)), (0, .ref a_this), (1, .int x1), (2, .int x2)]) hx hb dX6_canSwap_55 rfl hl (z_lt rfl) rfl (fun ls hl => ?_)
      exact w_X6_canSwap_56 E  n _ _ _ _ _ _ hf _ _ _ hw (lv_sub hl [1, 2, 3, 0] rfl)
    · have hf := oI_neg hc hf
      refine lv_aload_n hx hb dX6_canSwap_41 rfl (lv_at hl 0 rfl) ?_
      refine z_get E.1 hw in_wsX60 0 rfl rfl 21 (z_lt rfl) mw_673 (v := .ref a_stands) rfl dX6_canSwap_42 ?_
      refine lv_iload_n hx hb dX6_canSwap_45 rfl (lv_at hl 3 rfl) ?_
      refine lv_iconst (v := -1) hx hb dX6_canSwap_46 (by decide) ?_
      obtain ⟨h_16, hf⟩ := oA_elim hf
      obtain ⟨v_17, e_v_17, hf⟩ := oL_elim hf
      refine z_iast (ws' := [(a_this, .inr (6, [.ref a_a, .ref a_fresh, .ref a_kept, .int v_keptMany, .int v_thrown, .ref a_buffer, .int v_buffered, .int v_size, .int v_at, .int v_behind, .int v_kind, .int v_wrong, .int v_wrongAt, .int v_errorAt, .long v_number, .ref a_best, .ref a_rentBy, .ref a_bareBy, .ref a_aheadBy, .ref a_isEdge, .ref a_tried, .ref a_stands, .ref a_found, .ref a_foundOn, .ref a_moving, .int v_movingMany, .int v_foundIncome, .int v_foundMoves])), (a_a, .inl (cI, 180, .inl v_a)), (a_tried, .inl (cI, 8, .inl v_tried)), (a_stands, .inl (cI, 24, .inl v_17))]) E.1 hw 3 0 rfl rfl h_16 (by subst e_v_17; rfl) dX6_canSwap_47 (fun H locs hw => ?_)
      refine lv_iinc (v := (x3 + (1 : Int32))) (lv' := [(3, .int (x3 + (1 : Int32))), (0, .ref a_this), (1, .int x1), (2, .int x2)]) hx hb dX6_canSwap_48 hl (k := 3) rfl rfl (z_lt rfl) rfl (fun ls hl => ?_)
      refine lv_goto (tgt := 35) hx hb dX6_canSwap_51 (by decide) ?_
      exact ih _ _ _ _ _ _ hf _ _ _ hw (lv_sub hl [1, 2, 3, 0] rfl)
set_option maxHeartbeats 4000000 in
set_option maxRecDepth 100000 in
theorem c_X6_canSwap {l : Launch} {D : va_G} {cI cZ cM : ClassId} {a_this a_a a_fresh a_kept a_buffer a_best a_rentBy a_bareBy a_aheadBy a_isEdge a_tried a_stands a_found a_foundOn a_moving : Nat} {v_keptMany : Int32} {v_thrown : Int32} {v_buffered : Int32} {v_size : Int32} {v_at : Int32} {v_behind : Int32} {v_kind : Int32} {v_wrong : Int32} {v_wrongAt : Int32} {v_errorAt : Int32} {v_number : Int64} {v_movingMany : Int32} {v_foundIncome : Int32} {v_foundMoves : Int32} {res : Int32 × (Nat → Int32) × (Nat → Int32)} {sz : Nat} {n : Nat} {v_a : Nat → Int32} {v_tried : Nat → Int32} {v_stands : Nat → Int32} {x1 : Int32} {x2 : Int32} (hf : f_X6_canSwap n v_a v_tried v_stands x1 x2 = some res) : Met l yX6_canSwap zwX6_canSwap rmX6_canSwap (zPc D (zT cI cZ cM) [.ref a_this, .int x1, .int x2] [(a_this, .inr (6, [.ref a_a, .ref a_fresh, .ref a_kept, .int v_keptMany, .int v_thrown, .ref a_buffer, .int v_buffered, .int v_size, .int v_at, .int v_behind, .int v_kind, .int v_wrong, .int v_wrongAt, .int v_errorAt, .long v_number, .ref a_best, .ref a_rentBy, .ref a_bareBy, .ref a_aheadBy, .ref a_isEdge, .ref a_tried, .ref a_stands, .ref a_found, .ref a_foundOn, .ref a_moving, .int v_movingMany, .int v_foundIncome, .int v_foundMoves])), (a_a, .inl (cI, 180, .inl v_a)), (a_tried, .inl (cI, 8, .inl v_tried)), (a_stands, .inl (cI, 24, .inl v_stands))] sz) (zQi D (zT cI cZ cM) res.1 [(a_this, .inr (6, [.ref a_a, .ref a_fresh, .ref a_kept, .int v_keptMany, .int v_thrown, .ref a_buffer, .int v_buffered, .int v_size, .int v_at, .int v_behind, .int v_kind, .int v_wrong, .int v_wrongAt, .int v_errorAt, .long v_number, .ref a_best, .ref a_rentBy, .ref a_bareBy, .ref a_aheadBy, .ref a_isEdge, .ref a_tried, .ref a_stands, .ref a_found, .ref a_foundOn, .ref a_moving, .int v_movingMany, .int v_foundIncome, .int v_foundMoves])), (a_a, .inl (cI, 180, .inl v_a)), (a_tried, .inl (cI, 8, .inl res.2.1)), (a_stands, .inl (cI, 24, .inl res.2.2))] (va_A [(a_this, .inr (6, [.ref a_a, .ref a_fresh, .ref a_kept, .int v_keptMany, .int v_thrown, .ref a_buffer, .int v_buffered, .int v_size, .int v_at, .int v_behind, .int v_kind, .int v_wrong, .int v_wrongAt, .int v_errorAt, .long v_number, .ref a_best, .ref a_rentBy, .ref a_bareBy, .ref a_aheadBy, .ref a_isEdge, .ref a_tried, .ref a_stands, .ref a_found, .ref a_foundOn, .ref a_moving, .int v_movingMany, .int v_foundIncome, .int v_foundMoves])), (a_a, .inl (cI, 180, .inl v_a)), (a_tried, .inl (cI, 8, .inl v_tried)), (a_stands, .inl (cI, 24, .inl v_stands))] sz)) 0 0 (va_A [(a_this, .inr (6, [.ref a_a, .ref a_fresh, .ref a_kept, .int v_keptMany, .int v_thrown, .ref a_buffer, .int v_buffered, .int v_size, .int v_at, .int v_behind, .int v_kind, .int v_wrong, .int v_wrongAt, .int v_errorAt, .long v_number, .ref a_best, .ref a_rentBy, .ref a_bareBy, .ref a_aheadBy, .ref a_isEdge, .ref a_tried, .ref a_stands, .ref a_found, .ref a_foundOn, .ref a_moving, .int v_movingMany, .int v_foundIncome, .int v_foundMoves])), (a_a, .inl (cI, 180, .inl v_a)), (a_tried, .inl (cI, 8, .inl v_tried)), (a_stands, .inl (cI, 24, .inl v_stands))] sz) := by
  refine z_met (cc := cX6_canSwap) (maxL := 4) (ret := (some .boolean)) (by decide) rfl (Nat.le_of_ble_eq_true rfl) ?_
  intro p e s m below meth c ls E hsz hw hl
  obtain ⟨⟨hx, hb, hml, hown, hts⟩, hr, hlocks⟩ := id E
  have hl : lv_has ls 4 [(0, .ref a_this), (1, .int x1), (2, .int x2)] := hl
  unfold f_X6_canSwap at hf
  refine lv_iload_n hx hb dX6_canSwap_0 rfl (lv_at hl 1 rfl) ?_
  refine lv_iload_n hx hb dX6_canSwap_1 rfl (lv_at hl 2 rfl) ?_
  refine lv_icmp_eq (tgt := 31) hx hb dX6_canSwap_2 (by decide) (fun hc => ?_) (fun hc => ?_)
  · have hf := oI_pos hc hf
    refine lv_iconst (v := 0) hx hb dX6_canSwap_31 (by decide) ?_
    cases hf
    exact z_zret E rfl z_n0 hw dX6_canSwap_32
  · have hf := oI_neg hc hf
    refine lv_aload_n hx hb dX6_canSwap_5 rfl (lv_at hl 0 rfl) ?_
    refine z_get E.1 hw in_wsX60 0 rfl rfl 0 (z_lt rfl) mw_593 (v := .ref a_a) rfl dX6_canSwap_6 ?_
    refine lv_bipush (v := 107) hx hb dX6_canSwap_9 (by decide) ?_
    refine lv_iload_n hx hb dX6_canSwap_11 rfl (lv_at hl 1 rfl) ?_
    refine lv_iadd hx hb dX6_canSwap_12 ?_
    obtain ⟨h_18, hf⟩ := oA_elim hf
    refine z_iald E.1 hw 1 0 rfl rfl h_18 dX6_canSwap_13 ?_
    refine lv_iconst (v := -1) hx hb dX6_canSwap_14 (by decide) ?_
    refine lv_icmp_eq (tgt := 31) hx hb dX6_canSwap_15 (by decide) (fun hc => ?_) (fun hc => ?_)
    · have hf := oI_pos hc hf
      refine lv_iconst (v := 0) hx hb dX6_canSwap_31 (by decide) ?_
      cases hf
      exact z_zret E rfl z_n0 hw dX6_canSwap_32
    · have hf := oI_neg hc hf
      refine lv_aload_n hx hb dX6_canSwap_18 rfl (lv_at hl 0 rfl) ?_
      refine z_get E.1 hw in_wsX60 0 rfl rfl 0 (z_lt rfl) mw_593 (v := .ref a_a) rfl dX6_canSwap_19 ?_
      refine lv_bipush (v := 107) hx hb dX6_canSwap_22 (by decide) ?_
      refine lv_iload_n hx hb dX6_canSwap_24 rfl (lv_at hl 2 rfl) ?_
      refine lv_iadd hx hb dX6_canSwap_25 ?_
      obtain ⟨h_19, hf⟩ := oA_elim hf
      refine z_iald E.1 hw 1 0 rfl rfl h_19 dX6_canSwap_26 ?_
      refine lv_iconst (v := -1) hx hb dX6_canSwap_27 (by decide) ?_
      refine lv_icmp_ne (tgt := 33) hx hb dX6_canSwap_28 (by decide) (fun hc => ?_) (fun hc => ?_)
      · have hf := oI_neg hc hf
        refine lv_iconst (v := 0) hx hb dX6_canSwap_33 (by decide) ?_
        refine lv_istore_n (lv' := [(3, .int (0 : Int32)), (0, .ref a_this), (1, .int x1), (2, .int x2)]) hx hb dX6_canSwap_34 rfl hl (z_lt rfl) rfl (fun ls hl => ?_)
        exact w_X6_canSwap_35 E  n _ _ _ _ _ _ hf _ _ _ hw (lv_sub hl [1, 2, 3, 0] rfl)
      · have hf := oI_pos hc hf
        refine lv_iconst (v := 0) hx hb dX6_canSwap_31 (by decide) ?_
        cases hf
        exact z_zret E rfl z_n0 hw dX6_canSwap_32
end
/-! X6_clash -/
section
variable {p : Program} {l : Launch} {e : Env} {s : State} {m : MethodId} {args : Array Value} {below : List Frame} {meth : Method} {c : Code} {D : va_G} {A : Nat → Prop} {cI cZ cM : ClassId} {a_this a_a a_fresh a_kept a_buffer a_best a_rentBy a_bareBy a_aheadBy a_isEdge a_tried a_stands a_found a_foundOn a_moving : Nat} {v_keptMany : Int32} {v_buffered : Int32} {v_size : Int32} {v_at : Int32} {v_behind : Int32} {v_kind : Int32} {v_wrong : Int32} {v_wrongAt : Int32} {v_errorAt : Int32} {v_number : Int64} {v_movingMany : Int32} {v_foundIncome : Int32} {v_foundMoves : Int32} {res : Int32 × Int32}
def rmX6_clash : Room := { frames := 2, cells := 0, slots := 0, locals := 46 }
abbrev zwX6_clash : List Cond := Cond.code yX6_clash cX6_clash 3 (some .boolean) :: wsAll
set_option maxHeartbeats 4000000 in
set_option maxRecDepth 100000 in
theorem w_X6_clash_14 (E : zE p s m args meth c cX6_clash 3 (some .boolean) zwX6_clash RX6) : ∀ (t1 : Int32) (x1 : Int32) (x2 : Int32) (v_a : Nat → Int32) (v_thrown : Int32), f_X6_clash_14 t1 x1 x2 v_a v_thrown = some res → ∀ (H : Heap) (locs : List Loc) (ls : Array Slot), zW D (zT cI cZ cM) A s [(a_this, .inr (6, [.ref a_a, .ref a_fresh, .ref a_kept, .int v_keptMany, .int v_thrown, .ref a_buffer, .int v_buffered, .int v_size, .int v_at, .int v_behind, .int v_kind, .int v_wrong, .int v_wrongAt, .int v_errorAt, .long v_number, .ref a_best, .ref a_rentBy, .ref a_bareBy, .ref a_aheadBy, .ref a_isEdge, .ref a_tried, .ref a_stands, .ref a_found, .ref a_foundOn, .ref a_moving, .int v_movingMany, .int v_foundIncome, .int v_foundMoves])), (a_a, .inl (cI, 180, .inl v_a))] H locs → lv_has ls 3 [(0, .ref a_this), (1, .int x1), (2, .int x2)] → W p l e rmX6_clash s m args below meth c H locs 0 0 (MQ below (zQi D (zT cI cZ cM) res.1 [(a_this, .inr (6, [.ref a_a, .ref a_fresh, .ref a_kept, .int v_keptMany, .int res.2, .ref a_buffer, .int v_buffered, .int v_size, .int v_at, .int v_behind, .int v_kind, .int v_wrong, .int v_wrongAt, .int v_errorAt, .long v_number, .ref a_best, .ref a_rentBy, .ref a_bareBy, .ref a_aheadBy, .ref a_isEdge, .ref a_tried, .ref a_stands, .ref a_found, .ref a_foundOn, .ref a_moving, .int v_movingMany, .int v_foundIncome, .int v_foundMoves])), (a_a, .inl (cI, 180, .inl v_a))] A) args s 0 0 A) (F0 m 14 ls [.int t1, .ref a_this]) := by
  obtain ⟨⟨hx, hb, hml, hown, hts⟩, hr, hlocks⟩ := id E
  intro t1 x1 x2 v_a v_thrown hf H locs ls hw hl
  unfold f_X6_clash_14 at hf
  refine z_put (ws' := [(a_this, .inr (6, [.ref a_a, .ref a_fresh, .ref a_kept, .int v_keptMany, .int t1, .ref a_buffer, .int v_buffered, .int v_size, .int v_at, .int v_behind, .int v_kind, .int v_wrong, .int v_wrongAt, .int v_errorAt, .long v_number, .ref a_best, .ref a_rentBy, .ref a_bareBy, .ref a_aheadBy, .ref a_isEdge, .ref a_tried, .ref a_stands, .ref a_found, .ref a_foundOn, .ref a_moving, .int v_movingMany, .int v_foundIncome, .int v_foundMoves])), (a_a, .inl (cI, 180, .inl v_a))]) E.1 hw in_wsX60 tyX6 tyX6_ok nmX6 0 rfl rfl 4 (z_lt rfl) mw_594 rfl rfl rfl (z_lt rfl) rfl dX6_clash_14 (fun H locs hw => ?_)
  refine lv_aload_n hx hb dX6_clash_17 rfl (lv_at hl 0 rfl) ?_
  refine z_get E.1 hw in_wsX60 0 rfl rfl 4 (z_lt rfl) mw_594 (v := .int t1) rfl dX6_clash_18 ?_
  refine lv_if_ne (tgt := 46) hx hb dX6_clash_21 (by decide) (fun hc => ?_) (fun hc => ?_)
  · have hf := oI_neg hc hf
    refine lv_iconst (v := 0) hx hb dX6_clash_46 (by decide) ?_
    cases hf
    exact z_zret E rfl z_n0 hw dX6_clash_47
  · have hf := oI_pos hc hf
    refine lv_aload_n hx hb dX6_clash_24 rfl (lv_at hl 0 rfl) ?_
    refine z_get E.1 hw in_wsX60 0 rfl rfl 0 (z_lt rfl) mw_593 (v := .ref a_a) rfl dX6_clash_25 ?_
    refine lv_bipush (v := 115) hx hb dX6_clash_28 (by decide) ?_
    refine lv_bipush (v := 8) hx hb dX6_clash_30 (by decide) ?_
    refine lv_iload_n hx hb dX6_clash_32 rfl (lv_at hl 1 rfl) ?_
    refine lv_imul hx hb dX6_clash_33 ?_
    refine lv_iadd hx hb dX6_clash_34 ?_
    refine lv_iload_n hx hb dX6_clash_35 rfl (lv_at hl 2 rfl) ?_
    refine lv_iadd hx hb dX6_clash_36 ?_
    obtain ⟨h_1, hf⟩ := oA_elim hf
    refine z_iald E.1 hw 1 0 rfl rfl h_1 dX6_clash_37 ?_
    refine lv_iconst (v := 1) hx hb dX6_clash_38 (by decide) ?_
    refine lv_icmp_ne (tgt := 46) hx hb dX6_clash_39 (by decide) (fun hc => ?_) (fun hc => ?_)
    · have hf := oI_neg hc hf
      refine lv_iconst (v := 0) hx hb dX6_clash_46 (by decide) ?_
      cases hf
      exact z_zret E rfl z_n0 hw dX6_clash_47
    · have hf := oI_pos hc hf
      refine lv_iconst (v := 1) hx hb dX6_clash_42 (by decide) ?_
      refine lv_goto (tgt := 47) hx hb dX6_clash_43 (by decide) ?_
      cases hf
      exact z_zret E rfl z_n1 hw dX6_clash_47
set_option maxHeartbeats 4000000 in
set_option maxRecDepth 100000 in
theorem c_X6_clash {l : Launch} {D : va_G} {cI cZ cM : ClassId} {a_this a_a a_fresh a_kept a_buffer a_best a_rentBy a_bareBy a_aheadBy a_isEdge a_tried a_stands a_found a_foundOn a_moving : Nat} {v_keptMany : Int32} {v_buffered : Int32} {v_size : Int32} {v_at : Int32} {v_behind : Int32} {v_kind : Int32} {v_wrong : Int32} {v_wrongAt : Int32} {v_errorAt : Int32} {v_number : Int64} {v_movingMany : Int32} {v_foundIncome : Int32} {v_foundMoves : Int32} {res : Int32 × Int32} {sz : Nat} {v_a : Nat → Int32} {v_thrown : Int32} {x1 : Int32} {x2 : Int32} (hf : f_X6_clash v_a v_thrown x1 x2 = some res) : Met l yX6_clash zwX6_clash rmX6_clash (zPc D (zT cI cZ cM) [.ref a_this, .int x1, .int x2] [(a_this, .inr (6, [.ref a_a, .ref a_fresh, .ref a_kept, .int v_keptMany, .int v_thrown, .ref a_buffer, .int v_buffered, .int v_size, .int v_at, .int v_behind, .int v_kind, .int v_wrong, .int v_wrongAt, .int v_errorAt, .long v_number, .ref a_best, .ref a_rentBy, .ref a_bareBy, .ref a_aheadBy, .ref a_isEdge, .ref a_tried, .ref a_stands, .ref a_found, .ref a_foundOn, .ref a_moving, .int v_movingMany, .int v_foundIncome, .int v_foundMoves])), (a_a, .inl (cI, 180, .inl v_a))] sz) (zQi D (zT cI cZ cM) res.1 [(a_this, .inr (6, [.ref a_a, .ref a_fresh, .ref a_kept, .int v_keptMany, .int res.2, .ref a_buffer, .int v_buffered, .int v_size, .int v_at, .int v_behind, .int v_kind, .int v_wrong, .int v_wrongAt, .int v_errorAt, .long v_number, .ref a_best, .ref a_rentBy, .ref a_bareBy, .ref a_aheadBy, .ref a_isEdge, .ref a_tried, .ref a_stands, .ref a_found, .ref a_foundOn, .ref a_moving, .int v_movingMany, .int v_foundIncome, .int v_foundMoves])), (a_a, .inl (cI, 180, .inl v_a))] (va_A [(a_this, .inr (6, [.ref a_a, .ref a_fresh, .ref a_kept, .int v_keptMany, .int v_thrown, .ref a_buffer, .int v_buffered, .int v_size, .int v_at, .int v_behind, .int v_kind, .int v_wrong, .int v_wrongAt, .int v_errorAt, .long v_number, .ref a_best, .ref a_rentBy, .ref a_bareBy, .ref a_aheadBy, .ref a_isEdge, .ref a_tried, .ref a_stands, .ref a_found, .ref a_foundOn, .ref a_moving, .int v_movingMany, .int v_foundIncome, .int v_foundMoves])), (a_a, .inl (cI, 180, .inl v_a))] sz)) 0 0 (va_A [(a_this, .inr (6, [.ref a_a, .ref a_fresh, .ref a_kept, .int v_keptMany, .int v_thrown, .ref a_buffer, .int v_buffered, .int v_size, .int v_at, .int v_behind, .int v_kind, .int v_wrong, .int v_wrongAt, .int v_errorAt, .long v_number, .ref a_best, .ref a_rentBy, .ref a_bareBy, .ref a_aheadBy, .ref a_isEdge, .ref a_tried, .ref a_stands, .ref a_found, .ref a_foundOn, .ref a_moving, .int v_movingMany, .int v_foundIncome, .int v_foundMoves])), (a_a, .inl (cI, 180, .inl v_a))] sz) := by
  refine z_met (cc := cX6_clash) (maxL := 3) (ret := (some .boolean)) (by decide) rfl (Nat.le_of_ble_eq_true rfl) ?_
  intro p e s m below meth c ls E hsz hw hl
  obtain ⟨⟨hx, hb, hml, hown, hts⟩, hr, hlocks⟩ := id E
  have hl : lv_has ls 3 [(0, .ref a_this), (1, .int x1), (2, .int x2)] := hl
  unfold f_X6_clash at hf
  refine lv_aload_n hx hb dX6_clash_0 rfl (lv_at hl 0 rfl) ?_
  refine lv_iload_n hx hb dX6_clash_1 rfl (lv_at hl 1 rfl) ?_
  refine lv_iload_n hx hb dX6_clash_2 rfl (lv_at hl 2 rfl) ?_
  obtain ⟨r_2, h_3, hf⟩ := oB_elim hf
  refine z_callSi (ws' := [(a_this, .inr (6, [.ref a_a, .ref a_fresh, .ref a_kept, .int v_keptMany, .int v_thrown, .ref a_buffer, .int v_buffered, .int v_size, .int v_at, .int v_behind, .int v_kind, .int v_wrong, .int v_wrongAt, .int v_errorAt, .long v_number, .ref a_best, .ref a_rentBy, .ref a_bareBy, .ref a_aheadBy, .ref a_isEdge, .ref a_tried, .ref a_stands, .ref a_found, .ref a_foundOn, .ref a_moving, .int v_movingMany, .int v_foundIncome, .int v_foundMoves])), (a_a, .inl (cI, 180, .inl v_a))]) (wr := [(a_this, .inr (6, [.ref a_a, .ref a_fresh, .ref a_kept, .int v_keptMany, .int v_thrown, .ref a_buffer, .int v_buffered, .int v_size, .int v_at, .int v_behind, .int v_kind, .int v_wrong, .int v_wrongAt, .int v_errorAt, .long v_number, .ref a_best, .ref a_rentBy, .ref a_bareBy, .ref a_aheadBy, .ref a_isEdge, .ref a_tried, .ref a_stands, .ref a_found, .ref a_foundOn, .ref a_moving, .int v_movingMany, .int v_foundIncome, .int v_foundMoves])), (a_a, .inl (cI, 180, .inl v_a))]) (As := [.int x1, .int x2]) (rest := [.ref a_this]) E.1 hl hw (c_X6_areTrades h_3) (va_cwS 2 hts (z_gS mw_692 mw_693 mw_597 mw_617) rfl rfl rfl (by decide +kernel) ⟨(Nat.le_of_ble_eq_true rfl), (Nat.le_of_ble_eq_true rfl)⟩) 2 [] [(0, 2)] rfl rfl rfl rfl rfl rfl (by decide +kernel) rfl rfl (Nat.le_of_ble_eq_true rfl) dX6_clash_3 ⟨Nat.le_of_ble_eq_true rfl, Nat.le_of_ble_eq_true rfl⟩ (fun H locs hw => ?_)
  refine lv_if_eq (tgt := 13) hx hb dX6_clash_6 (by decide) (fun hc => ?_) (fun hc => ?_)
  · have hf := oI_pos hc hf
    refine lv_iconst (v := 1) hx hb dX6_clash_13 (by decide) ?_
    exact w_X6_clash_14 E  _ _ _ _ _ hf _ _ _ hw (lv_sub hl [0, 1, 2] rfl)
  · have hf := oI_neg hc hf
    refine lv_iconst (v := 0) hx hb dX6_clash_9 (by decide) ?_
    refine lv_goto (tgt := 14) hx hb dX6_clash_10 (by decide) ?_
    exact w_X6_clash_14 E  _ _ _ _ _ hf _ _ _ hw (lv_sub hl [0, 1, 2] rfl)
end
/-! X6_clashes -/
section
variable {p : Program} {l : Launch} {e : Env} {s : State} {m : MethodId} {args : Array Value} {below : List Frame} {meth : Method} {c : Code} {D : va_G} {A : Nat → Prop} {cI cZ cM : ClassId} {a_o0 : Nat} {res : (Nat → Int32)}
def rmX6_clashes : Room := { frames := 0, cells := 0, slots := 0, locals := 0 }
abbrev zwX6_clashes : List Cond := Cond.code yX6_clashes cX6_clashes 4 none :: wsAll
set_option maxHeartbeats 4000000 in
set_option maxRecDepth 100000 in
theorem c_X6_clashes {l : Launch} {D : va_G} {cI cZ cM : ClassId} {a_o0 : Nat} {res : (Nat → Int32)} {sz : Nat} {v_o0 : Nat → Int32} {x1 : Int32} {x2 : Int32} {x3 : Int32} (hf : f_X6_clashes v_o0 x1 x2 x3 = some res) : Met l yX6_clashes zwX6_clashes rmX6_clashes (zPc D (zT cI cZ cM) [.ref a_o0, .int x1, .int x2, .int x3] [(a_o0, .inl (cI, 180, .inl v_o0))] sz) (zQv D (zT cI cZ cM) [(a_o0, .inl (cI, 180, .inl res))] (va_A [(a_o0, .inl (cI, 180, .inl v_o0))] sz)) 0 0 (va_A [(a_o0, .inl (cI, 180, .inl v_o0))] sz) := by
  refine z_met (cc := cX6_clashes) (maxL := 4) (ret := none) (by decide) rfl (Nat.le_of_ble_eq_true rfl) ?_
  intro p e s m below meth c ls E hsz hw hl
  obtain ⟨⟨hx, hb, hml, hown, hts⟩, hr, hlocks⟩ := id E
  have hl : lv_has ls 4 [(0, .ref a_o0), (1, .int x1), (2, .int x2), (3, .int x3)] := hl
  unfold f_X6_clashes at hf
  refine lv_aload_n hx hb dX6_clashes_0 rfl (lv_at hl 0 rfl) ?_
  refine lv_bipush (v := 115) hx hb dX6_clashes_1 (by decide) ?_
  refine lv_bipush (v := 8) hx hb dX6_clashes_3 (by decide) ?_
  refine lv_iload_n hx hb dX6_clashes_5 rfl (lv_at hl 1 rfl) ?_
  refine lv_imul hx hb dX6_clashes_6 ?_
  refine lv_iadd hx hb dX6_clashes_7 ?_
  refine lv_iload_n hx hb dX6_clashes_8 rfl (lv_at hl 2 rfl) ?_
  refine lv_iadd hx hb dX6_clashes_9 ?_
  refine lv_iload_n hx hb dX6_clashes_10 rfl (lv_at hl 3 rfl) ?_
  obtain ⟨h_1, hf⟩ := oA_elim hf
  obtain ⟨v_2, e_v_2, hf⟩ := oL_elim hf
  refine z_iast (ws' := [(a_o0, .inl (cI, 180, .inl v_2))]) E.1 hw 0 0 rfl rfl h_1 (by subst e_v_2; rfl) dX6_clashes_11 (fun H locs hw => ?_)
  refine lv_aload_n hx hb dX6_clashes_12 rfl (lv_at hl 0 rfl) ?_
  refine lv_bipush (v := 115) hx hb dX6_clashes_13 (by decide) ?_
  refine lv_bipush (v := 8) hx hb dX6_clashes_15 (by decide) ?_
  refine lv_iload_n hx hb dX6_clashes_17 rfl (lv_at hl 2 rfl) ?_
  refine lv_imul hx hb dX6_clashes_18 ?_
  refine lv_iadd hx hb dX6_clashes_19 ?_
  refine lv_iload_n hx hb dX6_clashes_20 rfl (lv_at hl 1 rfl) ?_
  refine lv_iadd hx hb dX6_clashes_21 ?_
  refine lv_iload_n hx hb dX6_clashes_22 rfl (lv_at hl 3 rfl) ?_
  obtain ⟨h_3, hf⟩ := oA_elim hf
  obtain ⟨v_4, e_v_4, hf⟩ := oL_elim hf
  refine z_iast (ws' := [(a_o0, .inl (cI, 180, .inl v_4))]) E.1 hw 0 0 rfl rfl h_3 (by subst e_v_4; rfl) dX6_clashes_23 (fun H locs hw => ?_)
  cases hf
  exact z_vret E rfl hw dX6_clashes_24
end
/-! X6_clashCost -/
section
variable {p : Program} {l : Launch} {e : Env} {s : State} {m : MethodId} {args : Array Value} {below : List Frame} {meth : Method} {c : Code} {D : va_G} {A : Nat → Prop} {cI cZ cM : ClassId} {a_this a_a a_fresh a_kept a_buffer a_best a_rentBy a_bareBy a_aheadBy a_isEdge a_tried a_stands a_found a_foundOn a_moving : Nat} {v_keptMany : Int32} {v_buffered : Int32} {v_size : Int32} {v_at : Int32} {v_behind : Int32} {v_kind : Int32} {v_wrong : Int32} {v_wrongAt : Int32} {v_errorAt : Int32} {v_number : Int64} {v_movingMany : Int32} {v_foundIncome : Int32} {v_foundMoves : Int32} {res : Int32 × (Nat → Int32) × Int32 × (Nat → Int32) × (Nat → Int32) × (Nat → Int32) × (Nat → Int32)}
def rmX6_clashCost : Room := { frames := 3, cells := 0, slots := 0, locals := 79 }
abbrev zwX6_clashCost : List Cond := Cond.code yX6_clashCost cX6_clashCost 5 (some .int) :: wsAll
set_option maxHeartbeats 4000000 in
set_option maxRecDepth 100000 in
theorem w_X6_clashCost_14 {n : Nat} (E : zE p s m args meth c cX6_clashCost 5 (some .int) zwX6_clashCost RX6) : ∀ (t1 : Int32) (x1 : Int32) (x2 : Int32) (v_a : Nat → Int32) (v_thrown : Int32) (v_best : Nat → Int32) (v_rentBy : Nat → Int32) (v_bareBy : Nat → Int32) (v_aheadBy : Nat → Int32), f_X6_clashCost_14 n t1 x1 x2 v_a v_thrown v_best v_rentBy v_bareBy v_aheadBy = some res → ∀ (H : Heap) (locs : List Loc) (ls : Array Slot), zW D (zT cI cZ cM) A s [(a_this, .inr (6, [.ref a_a, .ref a_fresh, .ref a_kept, .int v_keptMany, .int v_thrown, .ref a_buffer, .int v_buffered, .int v_size, .int v_at, .int v_behind, .int v_kind, .int v_wrong, .int v_wrongAt, .int v_errorAt, .long v_number, .ref a_best, .ref a_rentBy, .ref a_bareBy, .ref a_aheadBy, .ref a_isEdge, .ref a_tried, .ref a_stands, .ref a_found, .ref a_foundOn, .ref a_moving, .int v_movingMany, .int v_foundIncome, .int v_foundMoves])), (a_a, .inl (cI, 180, .inl v_a)), (a_best, .inl (cI, 345600, .inl v_best)), (a_rentBy, .inl (cI, 192, .inl v_rentBy)), (a_bareBy, .inl (cI, 192, .inl v_bareBy)), (a_aheadBy, .inl (cI, 192, .inl v_aheadBy))] H locs → lv_has ls 5 [(0, .ref a_this), (1, .int x1), (2, .int x2)] → W p l e rmX6_clashCost s m args below meth c H locs 0 0 (MQ below (zQi D (zT cI cZ cM) res.1 [(a_this, .inr (6, [.ref a_a, .ref a_fresh, .ref a_kept, .int v_keptMany, .int res.2.2.1, .ref a_buffer, .int v_buffered, .int v_size, .int v_at, .int v_behind, .int v_kind, .int v_wrong, .int v_wrongAt, .int v_errorAt, .long v_number, .ref a_best, .ref a_rentBy, .ref a_bareBy, .ref a_aheadBy, .ref a_isEdge, .ref a_tried, .ref a_stands, .ref a_found, .ref a_foundOn, .ref a_moving, .int v_movingMany, .int v_foundIncome, .int v_foundMoves])), (a_a, .inl (cI, 180, .inl res.2.1)), (a_best, .inl (cI, 345600, .inl res.2.2.2.1)), (a_rentBy, .inl (cI, 192, .inl res.2.2.2.2.1)), (a_bareBy, .inl (cI, 192, .inl res.2.2.2.2.2.1)), (a_aheadBy, .inl (cI, 192, .inl res.2.2.2.2.2.2))] A) args s 0 0 A) (F0 m 14 ls [.int t1, .ref a_this]) := by
  obtain ⟨⟨hx, hb, hml, hown, hts⟩, hr, hlocks⟩ := id E
  intro t1 x1 x2 v_a v_thrown v_best v_rentBy v_bareBy v_aheadBy hf H locs ls hw hl
  unfold f_X6_clashCost_14 at hf
  refine z_put (ws' := [(a_this, .inr (6, [.ref a_a, .ref a_fresh, .ref a_kept, .int v_keptMany, .int t1, .ref a_buffer, .int v_buffered, .int v_size, .int v_at, .int v_behind, .int v_kind, .int v_wrong, .int v_wrongAt, .int v_errorAt, .long v_number, .ref a_best, .ref a_rentBy, .ref a_bareBy, .ref a_aheadBy, .ref a_isEdge, .ref a_tried, .ref a_stands, .ref a_found, .ref a_foundOn, .ref a_moving, .int v_movingMany, .int v_foundIncome, .int v_foundMoves])), (a_a, .inl (cI, 180, .inl v_a)), (a_best, .inl (cI, 345600, .inl v_best)), (a_rentBy, .inl (cI, 192, .inl v_rentBy)), (a_bareBy, .inl (cI, 192, .inl v_bareBy)), (a_aheadBy, .inl (cI, 192, .inl v_aheadBy))]) E.1 hw in_wsX60 tyX6 tyX6_ok nmX6 0 rfl rfl 4 (z_lt rfl) mw_594 rfl rfl rfl (z_lt rfl) rfl dX6_clashCost_14 (fun H locs hw => ?_)
  refine lv_aload_n hx hb dX6_clashCost_17 rfl (lv_at hl 0 rfl) ?_
  refine z_get E.1 hw in_wsX60 0 rfl rfl 4 (z_lt rfl) mw_594 (v := .int t1) rfl dX6_clashCost_18 ?_
  refine lv_if_gt (tgt := 41) hx hb dX6_clashCost_21 (by decide) (fun hc => ?_) (fun hc => ?_)
  · have hf := oI_pos hc hf
    refine lv_iconst (v := 0) hx hb dX6_clashCost_41 (by decide) ?_
    cases hf
    exact z_iret E rfl hw dX6_clashCost_42
  · have hf := oI_neg hc hf
    refine lv_aload_n hx hb dX6_clashCost_24 rfl (lv_at hl 0 rfl) ?_
    refine z_get E.1 hw in_wsX60 0 rfl rfl 0 (z_lt rfl) mw_593 (v := .ref a_a) rfl dX6_clashCost_25 ?_
    refine lv_bipush (v := 115) hx hb dX6_clashCost_28 (by decide) ?_
    refine lv_bipush (v := 8) hx hb dX6_clashCost_30 (by decide) ?_
    refine lv_iload_n hx hb dX6_clashCost_32 rfl (lv_at hl 1 rfl) ?_
    refine lv_imul hx hb dX6_clashCost_33 ?_
    refine lv_iadd hx hb dX6_clashCost_34 ?_
    refine lv_iload_n hx hb dX6_clashCost_35 rfl (lv_at hl 2 rfl) ?_
    refine lv_iadd hx hb dX6_clashCost_36 ?_
    obtain ⟨h_1, hf⟩ := oA_elim hf
    refine z_iald E.1 hw 1 0 rfl rfl h_1 dX6_clashCost_37 ?_
    refine lv_if_ne (tgt := 43) hx hb dX6_clashCost_38 (by decide) (fun hc => ?_) (fun hc => ?_)
    · have hf := oI_neg hc hf
      refine lv_aload_n hx hb dX6_clashCost_43 rfl (lv_at hl 0 rfl) ?_
      refine lv_aload_n hx hb dX6_clashCost_44 rfl (lv_at hl 0 rfl) ?_
      refine z_get E.1 hw in_wsX60 0 rfl rfl 0 (z_lt rfl) mw_593 (v := .ref a_a) rfl dX6_clashCost_45 ?_
      refine lv_sipush (v := 179) hx hb dX6_clashCost_48 (by decide) ?_
      obtain ⟨h_2, hf⟩ := oA_elim hf
      refine z_iald E.1 hw 1 0 rfl rfl h_2 dX6_clashCost_51 ?_
      obtain ⟨r_3, v_4, v_5, v_6, v_7, h_8, hf⟩ := oB5_elim hf
      refine z_callVi (ws' := [(a_this, .inr (6, [.ref a_a, .ref a_fresh, .ref a_kept, .int v_keptMany, .int t1, .ref a_buffer, .int v_buffered, .int v_size, .int v_at, .int v_behind, .int v_kind, .int v_wrong, .int v_wrongAt, .int v_errorAt, .long v_number, .ref a_best, .ref a_rentBy, .ref a_bareBy, .ref a_aheadBy, .ref a_isEdge, .ref a_tried, .ref a_stands, .ref a_found, .ref a_foundOn, .ref a_moving, .int v_movingMany, .int v_foundIncome, .int v_foundMoves])), (a_a, .inl (cI, 180, .inl v_a)), (a_best, .inl (cI, 345600, .inl v_4)), (a_rentBy, .inl (cI, 192, .inl v_5)), (a_bareBy, .inl (cI, 192, .inl v_6)), (a_aheadBy, .inl (cI, 192, .inl v_7))]) (wr := []) (As := [.int (v_a ((179 : Int32)).toNatClampNeg)]) (rest := []) E.1 hl hw (c_X6_plans h_8) (cwV 1 hts (z_gV mw_632 mw_633 mw_634 mw_597 mw_635) rfl rfl rfl (by decide +kernel) ⟨(Nat.le_of_ble_eq_true rfl), (Nat.le_of_ble_eq_true rfl)⟩) 6 [(0, 6)] [] rfl rfl rfl rfl rfl rfl (by decide +kernel) rfl (q0 := 0) rfl rfl rfl (Nat.le_of_ble_eq_true rfl) dX6_clashCost_52 ⟨Nat.le_of_ble_eq_true rfl, Nat.le_of_ble_eq_true rfl⟩ (fun H locs hw => ?_)
      refine lv_istore_n (lv' := [(3, .int r_3), (0, .ref a_this), (1, .int x1), (2, .int x2)]) hx hb dX6_clashCost_55 rfl hl (z_lt rfl) rfl (fun ls hl => ?_)
      refine lv_aload_n hx hb dX6_clashCost_56 rfl (lv_at hl 1 rfl) ?_
      refine z_get E.1 hw in_wsX60 0 rfl rfl 0 (z_lt rfl) mw_593 (v := .ref a_a) rfl dX6_clashCost_57 ?_
      refine lv_iload_n hx hb dX6_clashCost_60 rfl (lv_at hl 2 rfl) ?_
      refine lv_iload_n hx hb dX6_clashCost_61 rfl (lv_at hl 3 rfl) ?_
      refine lv_iconst (v := 0) hx hb dX6_clashCost_62 (by decide) ?_
      obtain ⟨v_9, h_10, hf⟩ := oB_elim hf
      refine z_callSv (ws' := [(a_this, .inr (6, [.ref a_a, .ref a_fresh, .ref a_kept, .int v_keptMany, .int t1, .ref a_buffer, .int v_buffered, .int v_size, .int v_at, .int v_behind, .int v_kind, .int v_wrong, .int v_wrongAt, .int v_errorAt, .long v_number, .ref a_best, .ref a_rentBy, .ref a_bareBy, .ref a_aheadBy, .ref a_isEdge, .ref a_tried, .ref a_stands, .ref a_found, .ref a_foundOn, .ref a_moving, .int v_movingMany, .int v_foundIncome, .int v_foundMoves])), (a_a, .inl (cI, 180, .inl v_9)), (a_best, .inl (cI, 345600, .inl v_4)), (a_rentBy, .inl (cI, 192, .inl v_5)), (a_bareBy, .inl (cI, 192, .inl v_6)), (a_aheadBy, .inl (cI, 192, .inl v_7))]) (wr := [(a_this, .inr (6, [.ref a_a, .ref a_fresh, .ref a_kept, .int v_keptMany, .int t1, .ref a_buffer, .int v_buffered, .int v_size, .int v_at, .int v_behind, .int v_kind, .int v_wrong, .int v_wrongAt, .int v_errorAt, .long v_number, .ref a_best, .ref a_rentBy, .ref a_bareBy, .ref a_aheadBy, .ref a_isEdge, .ref a_tried, .ref a_stands, .ref a_found, .ref a_foundOn, .ref a_moving, .int v_movingMany, .int v_foundIncome, .int v_foundMoves])), (a_best, .inl (cI, 345600, .inl v_4)), (a_rentBy, .inl (cI, 192, .inl v_5)), (a_bareBy, .inl (cI, 192, .inl v_6)), (a_aheadBy, .inl (cI, 192, .inl v_7))]) (As := [.ref a_a, .int x1, .int x2, .int (0 : Int32)]) (rest := []) E.1 hl hw (c_X6_clashes h_10) (va_cwS 4 hts (z_gS mw_695 mw_696 mw_597 mw_697) rfl rfl rfl (by decide +kernel) ⟨(Nat.le_of_ble_eq_true rfl), (Nat.le_of_ble_eq_true rfl)⟩) 6 [(1, 1)] [(0, 1), (2, 4)] rfl rfl rfl rfl rfl rfl (by decide +kernel) rfl rfl (Nat.le_of_ble_eq_true rfl) dX6_clashCost_63 ⟨Nat.le_of_ble_eq_true rfl, Nat.le_of_ble_eq_true rfl⟩ (fun H locs hw => ?_)
      refine lv_aload_n hx hb dX6_clashCost_66 rfl (lv_at hl 1 rfl) ?_
      refine lv_aload_n hx hb dX6_clashCost_67 rfl (lv_at hl 1 rfl) ?_
      refine z_get E.1 hw in_wsX60 0 rfl rfl 0 (z_lt rfl) mw_593 (v := .ref a_a) rfl dX6_clashCost_68 ?_
      refine lv_sipush (v := 179) hx hb dX6_clashCost_71 (by decide) ?_
      obtain ⟨h_11, hf⟩ := oA_elim hf
      refine z_iald E.1 hw 1 0 rfl rfl h_11 dX6_clashCost_74 ?_
      obtain ⟨r_12, v_13, v_14, v_15, v_16, h_17, hf⟩ := oB5_elim hf
      refine z_callVi (ws' := [(a_this, .inr (6, [.ref a_a, .ref a_fresh, .ref a_kept, .int v_keptMany, .int t1, .ref a_buffer, .int v_buffered, .int v_size, .int v_at, .int v_behind, .int v_kind, .int v_wrong, .int v_wrongAt, .int v_errorAt, .long v_number, .ref a_best, .ref a_rentBy, .ref a_bareBy, .ref a_aheadBy, .ref a_isEdge, .ref a_tried, .ref a_stands, .ref a_found, .ref a_foundOn, .ref a_moving, .int v_movingMany, .int v_foundIncome, .int v_foundMoves])), (a_a, .inl (cI, 180, .inl v_9)), (a_best, .inl (cI, 345600, .inl v_13)), (a_rentBy, .inl (cI, 192, .inl v_14)), (a_bareBy, .inl (cI, 192, .inl v_15)), (a_aheadBy, .inl (cI, 192, .inl v_16))]) (wr := []) (As := [.int (v_9 ((179 : Int32)).toNatClampNeg)]) (rest := []) E.1 hl hw (c_X6_plans h_17) (cwV 1 hts (z_gV mw_632 mw_633 mw_634 mw_597 mw_635) rfl rfl rfl (by decide +kernel) ⟨(Nat.le_of_ble_eq_true rfl), (Nat.le_of_ble_eq_true rfl)⟩) 6 [(0, 6)] [] rfl rfl rfl rfl rfl rfl (by decide +kernel) rfl (q0 := 0) rfl rfl rfl (Nat.le_of_ble_eq_true rfl) dX6_clashCost_75 ⟨Nat.le_of_ble_eq_true rfl, Nat.le_of_ble_eq_true rfl⟩ (fun H locs hw => ?_)
      refine lv_istore (lv' := [(4, .int r_12), (3, .int r_3), (0, .ref a_this), (1, .int x1), (2, .int x2)]) hx hb dX6_clashCost_78 hl (z_lt rfl) rfl (fun ls hl => ?_)
      refine lv_aload_n hx hb dX6_clashCost_80 rfl (lv_at hl 2 rfl) ?_
      refine z_get E.1 hw in_wsX60 0 rfl rfl 0 (z_lt rfl) mw_593 (v := .ref a_a) rfl dX6_clashCost_81 ?_
      refine lv_iload_n hx hb dX6_clashCost_84 rfl (lv_at hl 3 rfl) ?_
      refine lv_iload_n hx hb dX6_clashCost_85 rfl (lv_at hl 4 rfl) ?_
      refine lv_iconst (v := 1) hx hb dX6_clashCost_86 (by decide) ?_
      obtain ⟨v_18, h_19, hf⟩ := oB_elim hf
      refine z_callSv (ws' := [(a_this, .inr (6, [.ref a_a, .ref a_fresh, .ref a_kept, .int v_keptMany, .int t1, .ref a_buffer, .int v_buffered, .int v_size, .int v_at, .int v_behind, .int v_kind, .int v_wrong, .int v_wrongAt, .int v_errorAt, .long v_number, .ref a_best, .ref a_rentBy, .ref a_bareBy, .ref a_aheadBy, .ref a_isEdge, .ref a_tried, .ref a_stands, .ref a_found, .ref a_foundOn, .ref a_moving, .int v_movingMany, .int v_foundIncome, .int v_foundMoves])), (a_a, .inl (cI, 180, .inl v_18)), (a_best, .inl (cI, 345600, .inl v_13)), (a_rentBy, .inl (cI, 192, .inl v_14)), (a_bareBy, .inl (cI, 192, .inl v_15)), (a_aheadBy, .inl (cI, 192, .inl v_16))]) (wr := [(a_this, .inr (6, [.ref a_a, .ref a_fresh, .ref a_kept, .int v_keptMany, .int t1, .ref a_buffer, .int v_buffered, .int v_size, .int v_at, .int v_behind, .int v_kind, .int v_wrong, .int v_wrongAt, .int v_errorAt, .long v_number, .ref a_best, .ref a_rentBy, .ref a_bareBy, .ref a_aheadBy, .ref a_isEdge, .ref a_tried, .ref a_stands, .ref a_found, .ref a_foundOn, .ref a_moving, .int v_movingMany, .int v_foundIncome, .int v_foundMoves])), (a_best, .inl (cI, 345600, .inl v_13)), (a_rentBy, .inl (cI, 192, .inl v_14)), (a_bareBy, .inl (cI, 192, .inl v_15)), (a_aheadBy, .inl (cI, 192, .inl v_16))]) (As := [.ref a_a, .int x1, .int x2, .int (1 : Int32)]) (rest := []) E.1 hl hw (c_X6_clashes h_19) (va_cwS 4 hts (z_gS mw_695 mw_696 mw_597 mw_697) rfl rfl rfl (by decide +kernel) ⟨(Nat.le_of_ble_eq_true rfl), (Nat.le_of_ble_eq_true rfl)⟩) 6 [(1, 1)] [(0, 1), (2, 4)] rfl rfl rfl rfl rfl rfl (by decide +kernel) rfl rfl (Nat.le_of_ble_eq_true rfl) dX6_clashCost_87 ⟨Nat.le_of_ble_eq_true rfl, Nat.le_of_ble_eq_true rfl⟩ (fun H locs hw => ?_)
      refine lv_iload hx hb dX6_clashCost_90 (lv_at hl 0 rfl) ?_
      refine lv_iload_n hx hb dX6_clashCost_92 rfl (lv_at hl 1 rfl) ?_
      refine lv_isub hx hb dX6_clashCost_93 ?_
      cases hf
      exact z_iret E rfl hw dX6_clashCost_94
    · have hf := oI_pos hc hf
      refine lv_iconst (v := 0) hx hb dX6_clashCost_41 (by decide) ?_
      cases hf
      exact z_iret E rfl hw dX6_clashCost_42
set_option maxHeartbeats 4000000 in
set_option maxRecDepth 100000 in
theorem c_X6_clashCost {l : Launch} {D : va_G} {cI cZ cM : ClassId} {a_this a_a a_fresh a_kept a_buffer a_best a_rentBy a_bareBy a_aheadBy a_isEdge a_tried a_stands a_found a_foundOn a_moving : Nat} {v_keptMany : Int32} {v_buffered : Int32} {v_size : Int32} {v_at : Int32} {v_behind : Int32} {v_kind : Int32} {v_wrong : Int32} {v_wrongAt : Int32} {v_errorAt : Int32} {v_number : Int64} {v_movingMany : Int32} {v_foundIncome : Int32} {v_foundMoves : Int32} {res : Int32 × (Nat → Int32) × Int32 × (Nat → Int32) × (Nat → Int32) × (Nat → Int32) × (Nat → Int32)} {sz : Nat} {n : Nat} {v_a : Nat → Int32} {v_thrown : Int32} {v_best : Nat → Int32} {v_rentBy : Nat → Int32} {v_bareBy : Nat → Int32} {v_aheadBy : Nat → Int32} {x1 : Int32} {x2 : Int32} (hf : f_X6_clashCost n v_a v_thrown v_best v_rentBy v_bareBy v_aheadBy x1 x2 = some res) : Met l yX6_clashCost zwX6_clashCost rmX6_clashCost (zPc D (zT cI cZ cM) [.ref a_this, .int x1, .int x2] [(a_this, .inr (6, [.ref a_a, .ref a_fresh, .ref a_kept, .int v_keptMany, .int v_thrown, .ref a_buffer, .int v_buffered, .int v_size, .int v_at, .int v_behind, .int v_kind, .int v_wrong, .int v_wrongAt, .int v_errorAt, .long v_number, .ref a_best, .ref a_rentBy, .ref a_bareBy, .ref a_aheadBy, .ref a_isEdge, .ref a_tried, .ref a_stands, .ref a_found, .ref a_foundOn, .ref a_moving, .int v_movingMany, .int v_foundIncome, .int v_foundMoves])), (a_a, .inl (cI, 180, .inl v_a)), (a_best, .inl (cI, 345600, .inl v_best)), (a_rentBy, .inl (cI, 192, .inl v_rentBy)), (a_bareBy, .inl (cI, 192, .inl v_bareBy)), (a_aheadBy, .inl (cI, 192, .inl v_aheadBy))] sz) (zQi D (zT cI cZ cM) res.1 [(a_this, .inr (6, [.ref a_a, .ref a_fresh, .ref a_kept, .int v_keptMany, .int res.2.2.1, .ref a_buffer, .int v_buffered, .int v_size, .int v_at, .int v_behind, .int v_kind, .int v_wrong, .int v_wrongAt, .int v_errorAt, .long v_number, .ref a_best, .ref a_rentBy, .ref a_bareBy, .ref a_aheadBy, .ref a_isEdge, .ref a_tried, .ref a_stands, .ref a_found, .ref a_foundOn, .ref a_moving, .int v_movingMany, .int v_foundIncome, .int v_foundMoves])), (a_a, .inl (cI, 180, .inl res.2.1)), (a_best, .inl (cI, 345600, .inl res.2.2.2.1)), (a_rentBy, .inl (cI, 192, .inl res.2.2.2.2.1)), (a_bareBy, .inl (cI, 192, .inl res.2.2.2.2.2.1)), (a_aheadBy, .inl (cI, 192, .inl res.2.2.2.2.2.2))] (va_A [(a_this, .inr (6, [.ref a_a, .ref a_fresh, .ref a_kept, .int v_keptMany, .int v_thrown, .ref a_buffer, .int v_buffered, .int v_size, .int v_at, .int v_behind, .int v_kind, .int v_wrong, .int v_wrongAt, .int v_errorAt, .long v_number, .ref a_best, .ref a_rentBy, .ref a_bareBy, .ref a_aheadBy, .ref a_isEdge, .ref a_tried, .ref a_stands, .ref a_found, .ref a_foundOn, .ref a_moving, .int v_movingMany, .int v_foundIncome, .int v_foundMoves])), (a_a, .inl (cI, 180, .inl v_a)), (a_best, .inl (cI, 345600, .inl v_best)), (a_rentBy, .inl (cI, 192, .inl v_rentBy)), (a_bareBy, .inl (cI, 192, .inl v_bareBy)), (a_aheadBy, .inl (cI, 192, .inl v_aheadBy))] sz)) 0 0 (va_A [(a_this, .inr (6, [.ref a_a, .ref a_fresh, .ref a_kept, .int v_keptMany, .int v_thrown, .ref a_buffer, .int v_buffered, .int v_size, .int v_at, .int v_behind, .int v_kind, .int v_wrong, .int v_wrongAt, .int v_errorAt, .long v_number, .ref a_best, .ref a_rentBy, .ref a_bareBy, .ref a_aheadBy, .ref a_isEdge, .ref a_tried, .ref a_stands, .ref a_found, .ref a_foundOn, .ref a_moving, .int v_movingMany, .int v_foundIncome, .int v_foundMoves])), (a_a, .inl (cI, 180, .inl v_a)), (a_best, .inl (cI, 345600, .inl v_best)), (a_rentBy, .inl (cI, 192, .inl v_rentBy)), (a_bareBy, .inl (cI, 192, .inl v_bareBy)), (a_aheadBy, .inl (cI, 192, .inl v_aheadBy))] sz) := by
  refine z_met (cc := cX6_clashCost) (maxL := 5) (ret := (some .int)) (by decide) rfl (Nat.le_of_ble_eq_true rfl) ?_
  intro p e s m below meth c ls E hsz hw hl
  obtain ⟨⟨hx, hb, hml, hown, hts⟩, hr, hlocks⟩ := id E
  have hl : lv_has ls 5 [(0, .ref a_this), (1, .int x1), (2, .int x2)] := hl
  unfold f_X6_clashCost at hf
  refine lv_aload_n hx hb dX6_clashCost_0 rfl (lv_at hl 0 rfl) ?_
  refine lv_iload_n hx hb dX6_clashCost_1 rfl (lv_at hl 1 rfl) ?_
  refine lv_iload_n hx hb dX6_clashCost_2 rfl (lv_at hl 2 rfl) ?_
  obtain ⟨r_20, h_21, hf⟩ := oB_elim hf
  refine z_callSi (ws' := [(a_this, .inr (6, [.ref a_a, .ref a_fresh, .ref a_kept, .int v_keptMany, .int v_thrown, .ref a_buffer, .int v_buffered, .int v_size, .int v_at, .int v_behind, .int v_kind, .int v_wrong, .int v_wrongAt, .int v_errorAt, .long v_number, .ref a_best, .ref a_rentBy, .ref a_bareBy, .ref a_aheadBy, .ref a_isEdge, .ref a_tried, .ref a_stands, .ref a_found, .ref a_foundOn, .ref a_moving, .int v_movingMany, .int v_foundIncome, .int v_foundMoves])), (a_a, .inl (cI, 180, .inl v_a)), (a_best, .inl (cI, 345600, .inl v_best)), (a_rentBy, .inl (cI, 192, .inl v_rentBy)), (a_bareBy, .inl (cI, 192, .inl v_bareBy)), (a_aheadBy, .inl (cI, 192, .inl v_aheadBy))]) (wr := [(a_this, .inr (6, [.ref a_a, .ref a_fresh, .ref a_kept, .int v_keptMany, .int v_thrown, .ref a_buffer, .int v_buffered, .int v_size, .int v_at, .int v_behind, .int v_kind, .int v_wrong, .int v_wrongAt, .int v_errorAt, .long v_number, .ref a_best, .ref a_rentBy, .ref a_bareBy, .ref a_aheadBy, .ref a_isEdge, .ref a_tried, .ref a_stands, .ref a_found, .ref a_foundOn, .ref a_moving, .int v_movingMany, .int v_foundIncome, .int v_foundMoves])), (a_a, .inl (cI, 180, .inl v_a)), (a_best, .inl (cI, 345600, .inl v_best)), (a_rentBy, .inl (cI, 192, .inl v_rentBy)), (a_bareBy, .inl (cI, 192, .inl v_bareBy)), (a_aheadBy, .inl (cI, 192, .inl v_aheadBy))]) (As := [.int x1, .int x2]) (rest := [.ref a_this]) E.1 hl hw (c_X6_areTrades h_21) (va_cwS 2 hts (z_gS mw_692 mw_693 mw_597 mw_617) rfl rfl rfl (by decide +kernel) ⟨(Nat.le_of_ble_eq_true rfl), (Nat.le_of_ble_eq_true rfl)⟩) 6 [] [(0, 6)] rfl rfl rfl rfl rfl rfl (by decide +kernel) rfl rfl (Nat.le_of_ble_eq_true rfl) dX6_clashCost_3 ⟨Nat.le_of_ble_eq_true rfl, Nat.le_of_ble_eq_true rfl⟩ (fun H locs hw => ?_)
  refine lv_if_eq (tgt := 13) hx hb dX6_clashCost_6 (by decide) (fun hc => ?_) (fun hc => ?_)
  · have hf := oI_pos hc hf
    refine lv_iconst (v := 1) hx hb dX6_clashCost_13 (by decide) ?_
    exact w_X6_clashCost_14 E  _ _ _ _ _ _ _ _ _ hf _ _ _ hw (lv_sub hl [0, 1, 2] rfl)
  · have hf := oI_neg hc hf
    refine lv_iconst (v := 0) hx hb dX6_clashCost_9 (by decide) ?_
    refine lv_goto (tgt := 14) hx hb dX6_clashCost_10 (by decide) ?_
    exact w_X6_clashCost_14 E  _ _ _ _ _ _ _ _ _ hf _ _ _ hw (lv_sub hl [0, 1, 2] rfl)
end
/-! X6_clashesAt -/
section
variable {p : Program} {l : Launch} {e : Env} {s : State} {m : MethodId} {args : Array Value} {below : List Frame} {meth : Method} {c : Code} {D : va_G} {A : Nat → Prop} {cI cZ cM : ClassId} {a_this a_a a_fresh a_kept a_buffer a_best a_rentBy a_bareBy a_aheadBy a_isEdge a_tried a_stands a_found a_foundOn a_moving : Nat} {v_keptMany : Int32} {v_thrown : Int32} {v_buffered : Int32} {v_size : Int32} {v_at : Int32} {v_behind : Int32} {v_kind : Int32} {v_wrong : Int32} {v_wrongAt : Int32} {v_errorAt : Int32} {v_number : Int64} {v_movingMany : Int32} {v_foundIncome : Int32} {v_foundMoves : Int32} {res : Int32}
def rmX6_clashesAt : Room := { frames := 3, cells := 0, slots := 0, locals := 69 }
abbrev zwX6_clashesAt : List Cond := Cond.code yX6_clashesAt cX6_clashesAt 4 (some .boolean) :: wsAll
set_option maxHeartbeats 4000000 in
set_option maxRecDepth 100000 in
theorem c_X6_clashesAt {l : Launch} {D : va_G} {cI cZ cM : ClassId} {a_this a_a a_fresh a_kept a_buffer a_best a_rentBy a_bareBy a_aheadBy a_isEdge a_tried a_stands a_found a_foundOn a_moving : Nat} {v_keptMany : Int32} {v_thrown : Int32} {v_buffered : Int32} {v_size : Int32} {v_at : Int32} {v_behind : Int32} {v_kind : Int32} {v_wrong : Int32} {v_wrongAt : Int32} {v_errorAt : Int32} {v_number : Int64} {v_movingMany : Int32} {v_foundIncome : Int32} {v_foundMoves : Int32} {res : Int32} {sz : Nat} {n : Nat} {v_a : Nat → Int32} {x1 : Int32} {x2 : Int32} {x3 : Int32} (hf : f_X6_clashesAt n v_a x1 x2 x3 = some res) : Met l yX6_clashesAt zwX6_clashesAt rmX6_clashesAt (zPc D (zT cI cZ cM) [.ref a_this, .int x1, .int x2, .int x3] [(a_this, .inr (6, [.ref a_a, .ref a_fresh, .ref a_kept, .int v_keptMany, .int v_thrown, .ref a_buffer, .int v_buffered, .int v_size, .int v_at, .int v_behind, .int v_kind, .int v_wrong, .int v_wrongAt, .int v_errorAt, .long v_number, .ref a_best, .ref a_rentBy, .ref a_bareBy, .ref a_aheadBy, .ref a_isEdge, .ref a_tried, .ref a_stands, .ref a_found, .ref a_foundOn, .ref a_moving, .int v_movingMany, .int v_foundIncome, .int v_foundMoves])), (a_a, .inl (cI, 180, .inl v_a))] sz) (zQi D (zT cI cZ cM) res [(a_this, .inr (6, [.ref a_a, .ref a_fresh, .ref a_kept, .int v_keptMany, .int v_thrown, .ref a_buffer, .int v_buffered, .int v_size, .int v_at, .int v_behind, .int v_kind, .int v_wrong, .int v_wrongAt, .int v_errorAt, .long v_number, .ref a_best, .ref a_rentBy, .ref a_bareBy, .ref a_aheadBy, .ref a_isEdge, .ref a_tried, .ref a_stands, .ref a_found, .ref a_foundOn, .ref a_moving, .int v_movingMany, .int v_foundIncome, .int v_foundMoves])), (a_a, .inl (cI, 180, .inl v_a))] (va_A [(a_this, .inr (6, [.ref a_a, .ref a_fresh, .ref a_kept, .int v_keptMany, .int v_thrown, .ref a_buffer, .int v_buffered, .int v_size, .int v_at, .int v_behind, .int v_kind, .int v_wrong, .int v_wrongAt, .int v_errorAt, .long v_number, .ref a_best, .ref a_rentBy, .ref a_bareBy, .ref a_aheadBy, .ref a_isEdge, .ref a_tried, .ref a_stands, .ref a_found, .ref a_foundOn, .ref a_moving, .int v_movingMany, .int v_foundIncome, .int v_foundMoves])), (a_a, .inl (cI, 180, .inl v_a))] sz)) 0 0 (va_A [(a_this, .inr (6, [.ref a_a, .ref a_fresh, .ref a_kept, .int v_keptMany, .int v_thrown, .ref a_buffer, .int v_buffered, .int v_size, .int v_at, .int v_behind, .int v_kind, .int v_wrong, .int v_wrongAt, .int v_errorAt, .long v_number, .ref a_best, .ref a_rentBy, .ref a_bareBy, .ref a_aheadBy, .ref a_isEdge, .ref a_tried, .ref a_stands, .ref a_found, .ref a_foundOn, .ref a_moving, .int v_movingMany, .int v_foundIncome, .int v_foundMoves])), (a_a, .inl (cI, 180, .inl v_a))] sz) := by
  refine z_met (cc := cX6_clashesAt) (maxL := 4) (ret := (some .boolean)) (by decide) rfl (Nat.le_of_ble_eq_true rfl) ?_
  intro p e s m below meth c ls E hsz hw hl
  obtain ⟨⟨hx, hb, hml, hown, hts⟩, hr, hlocks⟩ := id E
  have hl : lv_has ls 4 [(0, .ref a_this), (1, .int x1), (2, .int x2), (3, .int x3)] := hl
  unfold f_X6_clashesAt at hf
  refine lv_aload_n hx hb dX6_clashesAt_0 rfl (lv_at hl 0 rfl) ?_
  refine lv_iload_n hx hb dX6_clashesAt_1 rfl (lv_at hl 3 rfl) ?_
  obtain ⟨r_1, h_2, hf⟩ := oB_elim hf
  refine z_callVi (ws' := [(a_this, .inr (6, [.ref a_a, .ref a_fresh, .ref a_kept, .int v_keptMany, .int v_thrown, .ref a_buffer, .int v_buffered, .int v_size, .int v_at, .int v_behind, .int v_kind, .int v_wrong, .int v_wrongAt, .int v_errorAt, .long v_number, .ref a_best, .ref a_rentBy, .ref a_bareBy, .ref a_aheadBy, .ref a_isEdge, .ref a_tried, .ref a_stands, .ref a_found, .ref a_foundOn, .ref a_moving, .int v_movingMany, .int v_foundIncome, .int v_foundMoves])), (a_a, .inl (cI, 180, .inl v_a))]) (wr := []) (As := [.int x3]) (rest := []) E.1 hl hw (c_X6_isPitch h_2) (cwV 1 hts (z_gV mw_664 mw_665 mw_666 mw_597 mw_667) rfl rfl rfl (by decide +kernel) ⟨(Nat.le_of_ble_eq_true rfl), (Nat.le_of_ble_eq_true rfl)⟩) 2 [(0, 2)] [] rfl rfl rfl rfl rfl rfl (by decide +kernel) rfl (q0 := 0) rfl rfl rfl (Nat.le_of_ble_eq_true rfl) dX6_clashesAt_2 ⟨Nat.le_of_ble_eq_true rfl, Nat.le_of_ble_eq_true rfl⟩ (fun H locs hw => ?_)
  refine lv_if_eq (tgt := 55) hx hb dX6_clashesAt_5 (by decide) (fun hc => ?_) (fun hc => ?_)
  · have hf := oI_pos hc hf
    refine lv_iconst (v := 0) hx hb dX6_clashesAt_55 (by decide) ?_
    cases hf
    exact z_zret E rfl z_n0 hw dX6_clashesAt_56
  · have hf := oI_neg hc hf
    refine lv_aload_n hx hb dX6_clashesAt_8 rfl (lv_at hl 0 rfl) ?_
    refine z_get E.1 hw in_wsX60 0 rfl rfl 0 (z_lt rfl) mw_593 (v := .ref a_a) rfl dX6_clashesAt_9 ?_
    refine lv_bipush (v := 50) hx hb dX6_clashesAt_12 (by decide) ?_
    refine lv_iload_n hx hb dX6_clashesAt_14 rfl (lv_at hl 3 rfl) ?_
    refine lv_iadd hx hb dX6_clashesAt_15 ?_
    obtain ⟨h_3, hf⟩ := oA_elim hf
    refine z_iald E.1 hw 1 0 rfl rfl h_3 dX6_clashesAt_16 ?_
    refine lv_aload_n hx hb dX6_clashesAt_17 rfl (lv_at hl 0 rfl) ?_
    refine z_get E.1 hw in_wsX60 0 rfl rfl 0 (z_lt rfl) mw_593 (v := .ref a_a) rfl dX6_clashesAt_18 ?_
    refine lv_bipush (v := 50) hx hb dX6_clashesAt_21 (by decide) ?_
    refine lv_iload_n hx hb dX6_clashesAt_23 rfl (lv_at hl 2 rfl) ?_
    refine lv_iadd hx hb dX6_clashesAt_24 ?_
    obtain ⟨h_4, hf⟩ := oA_elim hf
    refine z_iald E.1 hw 1 0 rfl rfl h_4 dX6_clashesAt_25 ?_
    refine lv_icmp_ne (tgt := 55) hx hb dX6_clashesAt_26 (by decide) (fun hc => ?_) (fun hc => ?_)
    · have hf := oI_neg hc hf
      refine lv_iconst (v := 0) hx hb dX6_clashesAt_55 (by decide) ?_
      cases hf
      exact z_zret E rfl z_n0 hw dX6_clashesAt_56
    · have hf := oI_pos hc hf
      refine lv_aload_n hx hb dX6_clashesAt_29 rfl (lv_at hl 0 rfl) ?_
      refine lv_iload_n hx hb dX6_clashesAt_30 rfl (lv_at hl 3 rfl) ?_
      obtain ⟨r_5, h_6, hf⟩ := oB_elim hf
      refine z_callVi (ws' := [(a_this, .inr (6, [.ref a_a, .ref a_fresh, .ref a_kept, .int v_keptMany, .int v_thrown, .ref a_buffer, .int v_buffered, .int v_size, .int v_at, .int v_behind, .int v_kind, .int v_wrong, .int v_wrongAt, .int v_errorAt, .long v_number, .ref a_best, .ref a_rentBy, .ref a_bareBy, .ref a_aheadBy, .ref a_isEdge, .ref a_tried, .ref a_stands, .ref a_found, .ref a_foundOn, .ref a_moving, .int v_movingMany, .int v_foundIncome, .int v_foundMoves])), (a_a, .inl (cI, 180, .inl v_a))]) (wr := []) (As := [.int x3]) (rest := []) E.1 hl hw (c_X6_on h_6) (cwV 1 hts (z_gV mw_609 mw_610 mw_611 mw_597 mw_612) rfl rfl rfl (by decide +kernel) ⟨(Nat.le_of_ble_eq_true rfl), (Nat.le_of_ble_eq_true rfl)⟩) 2 [(0, 2)] [] rfl rfl rfl rfl rfl rfl (by decide +kernel) rfl (q0 := 0) rfl rfl rfl (Nat.le_of_ble_eq_true rfl) dX6_clashesAt_31 ⟨Nat.le_of_ble_eq_true rfl, Nat.le_of_ble_eq_true rfl⟩ (fun H locs hw => ?_)
      refine lv_iconst (v := -1) hx hb dX6_clashesAt_34 (by decide) ?_
      refine lv_icmp_eq (tgt := 55) hx hb dX6_clashesAt_35 (by decide) (fun hc => ?_) (fun hc => ?_)
      · have hf := oI_pos hc hf
        refine lv_iconst (v := 0) hx hb dX6_clashesAt_55 (by decide) ?_
        cases hf
        exact z_zret E rfl z_n0 hw dX6_clashesAt_56
      · have hf := oI_neg hc hf
        refine lv_aload_n hx hb dX6_clashesAt_38 rfl (lv_at hl 0 rfl) ?_
        refine lv_iload_n hx hb dX6_clashesAt_39 rfl (lv_at hl 1 rfl) ?_
        refine lv_aload_n hx hb dX6_clashesAt_40 rfl (lv_at hl 0 rfl) ?_
        refine lv_iload_n hx hb dX6_clashesAt_41 rfl (lv_at hl 3 rfl) ?_
        obtain ⟨r_7, h_8, hf⟩ := oB_elim hf
        refine z_callVi (ws' := [(a_this, .inr (6, [.ref a_a, .ref a_fresh, .ref a_kept, .int v_keptMany, .int v_thrown, .ref a_buffer, .int v_buffered, .int v_size, .int v_at, .int v_behind, .int v_kind, .int v_wrong, .int v_wrongAt, .int v_errorAt, .long v_number, .ref a_best, .ref a_rentBy, .ref a_bareBy, .ref a_aheadBy, .ref a_isEdge, .ref a_tried, .ref a_stands, .ref a_found, .ref a_foundOn, .ref a_moving, .int v_movingMany, .int v_foundIncome, .int v_foundMoves])), (a_a, .inl (cI, 180, .inl v_a))]) (wr := []) (As := [.int x3]) (rest := [.int x1, .ref a_this]) E.1 hl hw (c_X6_on h_8) (cwV 1 hts (z_gV mw_609 mw_610 mw_611 mw_597 mw_612) rfl rfl rfl (by decide +kernel) ⟨(Nat.le_of_ble_eq_true rfl), (Nat.le_of_ble_eq_true rfl)⟩) 2 [(0, 2)] [] rfl rfl rfl rfl rfl rfl (by decide +kernel) rfl (q0 := 0) rfl rfl rfl (Nat.le_of_ble_eq_true rfl) dX6_clashesAt_42 ⟨Nat.le_of_ble_eq_true rfl, Nat.le_of_ble_eq_true rfl⟩ (fun H locs hw => ?_)
        obtain ⟨r_9, h_10, hf⟩ := oB_elim hf
        refine z_callVi (ws' := [(a_this, .inr (6, [.ref a_a, .ref a_fresh, .ref a_kept, .int v_keptMany, .int v_thrown, .ref a_buffer, .int v_buffered, .int v_size, .int v_at, .int v_behind, .int v_kind, .int v_wrong, .int v_wrongAt, .int v_errorAt, .long v_number, .ref a_best, .ref a_rentBy, .ref a_bareBy, .ref a_aheadBy, .ref a_isEdge, .ref a_tried, .ref a_stands, .ref a_found, .ref a_foundOn, .ref a_moving, .int v_movingMany, .int v_foundIncome, .int v_foundMoves])), (a_a, .inl (cI, 180, .inl v_a))]) (wr := []) (As := [.int x1, .int r_7]) (rest := []) E.1 hl hw (c_X6_doClash h_10) (cwV 2 hts (z_gV mw_625 mw_626 mw_627 mw_597 mw_628) rfl rfl rfl (by decide +kernel) ⟨(Nat.le_of_ble_eq_true rfl), (Nat.le_of_ble_eq_true rfl)⟩) 2 [(0, 2)] [] rfl rfl rfl rfl rfl rfl (by decide +kernel) rfl (q0 := 0) rfl rfl rfl (Nat.le_of_ble_eq_true rfl) dX6_clashesAt_45 ⟨Nat.le_of_ble_eq_true rfl, Nat.le_of_ble_eq_true rfl⟩ (fun H locs hw => ?_)
        refine lv_if_eq (tgt := 55) hx hb dX6_clashesAt_48 (by decide) (fun hc => ?_) (fun hc => ?_)
        · have hf := oI_pos hc hf
          refine lv_iconst (v := 0) hx hb dX6_clashesAt_55 (by decide) ?_
          cases hf
          exact z_zret E rfl z_n0 hw dX6_clashesAt_56
        · have hf := oI_neg hc hf
          refine lv_iconst (v := 1) hx hb dX6_clashesAt_51 (by decide) ?_
          refine lv_goto (tgt := 56) hx hb dX6_clashesAt_52 (by decide) ?_
          cases hf
          exact z_zret E rfl z_n1 hw dX6_clashesAt_56
end
