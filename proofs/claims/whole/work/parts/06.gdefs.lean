def g_X2_copyFrom_119 (n : Nat) : Nat → Int → BX2 → BX2 → Option (BX2)
  | 0, _, _, _ => none
  | fu + 1, x2, b_this, b_o1 => (if (8 ≤ x2) then oL (cpyZ (pX2_clashes b_o1) (pX2_clashes b_this) 0 0 8) (fun v_1 => oL (cpyZ (pX2_starts b_o1) (pX2_starts b_this) 0 0 8) (fun v_2 => oL (cpyZ (pX2_standing b_o1) (pX2_standing b_this) 0 0 24) (fun v_3 => some (sX2_coversBusy (sX2_standing (sX2_starts (sX2_covers (sX2_clashes b_this v_1) (pX2_covers b_o1)) v_2) v_3) (pX2_coversBusy b_o1))))) else qA x2 (8) (qA x2 (8) (oL (updZ (pX2_needy b_this) x2 (zNb ((pX2_needy b_o1) x2))) (fun v_6 => oR ((x2 + 1)) (g_X2_copyFrom_119 n fu (x2 + 1) (sX2_needy b_this v_6) b_o1)))))
def g_X2_copyFrom_40 (n : Nat) : Nat → Int → BX2 → BX2 → Option (BX2)
  | 0, _, _, _ => none
  | fu + 1, x2, b_this, b_o1 => (if (24 ≤ x2) then oL (cpyZ (pX2_trades b_o1) (pX2_trades b_this) 0 0 8) (fun v_7 => oL (cpyZ (pX2_fronts b_o1) (pX2_fronts b_this) 0 0 8) (fun v_8 => oL (cpyZ (pX2_limits b_o1) (pX2_limits b_this) 0 0 8) (fun v_9 => g_X2_copyFrom_119 n n (0) (sX2_limits (sX2_fronts (sX2_trades (sX2_traders b_this (pX2_traders b_o1)) v_7) v_8) v_9) b_o1))) else qA x2 (24) (qA x2 (24) (oL (updZ (pX2_roofs b_this) x2 (zNb ((pX2_roofs b_o1) x2))) (fun v_12 => oR ((x2 + 1)) (g_X2_copyFrom_40 n fu (x2 + 1) (sX2_roofs b_this v_12) b_o1)))))
def g_X2_copyFrom (n : Nat) (b_this : BX2) (b_o1 : BX2) : Option (BX2) :=
  oL (cpyZ (pX2_rows b_o1) (pX2_rows b_this) 0 0 24) (fun v_13 => oL (cpyZ (pX2_rents b_o1) (pX2_rents b_this) 0 0 24) (fun v_14 => g_X2_copyFrom_40 n n (0) (sX2_rents (sX2_rows (sX2_pitches b_this (pX2_pitches b_o1)) v_13) v_14) b_o1))
def g_X0_remember_22 (n : Nat) (t1 : Int) (b_this : BX0) (b_o1 : BX2) : Option (BX0) :=
  (if t1 = 0 then oB (g_X2_copyFrom n ((pX0_kept b_this) 0) b_o1) (fun b_1 => (if (6 ≤ (pX0_count b_this)) then some (sX0_newest (sX0_kept b_this (va_up (pX0_kept b_this) 0 b_1)) t1) else oR (((pX0_count b_this) + 1)) (oL ((pX0_count b_this) + 1) (fun y_16 => some (sX0_count (sX0_newest (sX0_kept b_this (va_up (pX0_kept b_this) 0 b_1)) t1) y_16))))) else (if t1 = 1 then oB (g_X2_copyFrom n ((pX0_kept b_this) 1) b_o1) (fun b_31 => (if (6 ≤ (pX0_count b_this)) then some (sX0_newest (sX0_kept b_this (va_up (pX0_kept b_this) 1 b_31)) t1) else oR (((pX0_count b_this) + 1)) (oL ((pX0_count b_this) + 1) (fun y_32 => some (sX0_count (sX0_newest (sX0_kept b_this (va_up (pX0_kept b_this) 1 b_31)) t1) y_32))))) else (if t1 = 2 then oB (g_X2_copyFrom n ((pX0_kept b_this) 2) b_o1) (fun b_61 => (if (6 ≤ (pX0_count b_this)) then some (sX0_newest (sX0_kept b_this (va_up (pX0_kept b_this) 2 b_61)) t1) else oR (((pX0_count b_this) + 1)) (oL ((pX0_count b_this) + 1) (fun y_48 => some (sX0_count (sX0_newest (sX0_kept b_this (va_up (pX0_kept b_this) 2 b_61)) t1) y_48))))) else (if t1 = 3 then oB (g_X2_copyFrom n ((pX0_kept b_this) 3) b_o1) (fun b_91 => (if (6 ≤ (pX0_count b_this)) then some (sX0_newest (sX0_kept b_this (va_up (pX0_kept b_this) 3 b_91)) t1) else oR (((pX0_count b_this) + 1)) (oL ((pX0_count b_this) + 1) (fun y_64 => some (sX0_count (sX0_newest (sX0_kept b_this (va_up (pX0_kept b_this) 3 b_91)) t1) y_64))))) else (if t1 = 4 then oB (g_X2_copyFrom n ((pX0_kept b_this) 4) b_o1) (fun b_121 => (if (6 ≤ (pX0_count b_this)) then some (sX0_newest (sX0_kept b_this (va_up (pX0_kept b_this) 4 b_121)) t1) else oR (((pX0_count b_this) + 1)) (oL ((pX0_count b_this) + 1) (fun y_80 => some (sX0_count (sX0_newest (sX0_kept b_this (va_up (pX0_kept b_this) 4 b_121)) t1) y_80))))) else (if t1 = 5 then oB (g_X2_copyFrom n ((pX0_kept b_this) 5) b_o1) (fun b_151 => (if (6 ≤ (pX0_count b_this)) then some (sX0_newest (sX0_kept b_this (va_up (pX0_kept b_this) 5 b_151)) t1) else oR (((pX0_count b_this) + 1)) (oL ((pX0_count b_this) + 1) (fun y_96 => some (sX0_count (sX0_newest (sX0_kept b_this (va_up (pX0_kept b_this) 5 b_151)) t1) y_96))))) else none))))))
def g_X0_remember (n : Nat) (b_this : BX0) (b_o1 : BX2) : Option (BX0) :=
  oR (((pX0_newest b_this) + 1)) ((if (6 ≤ ((pX0_newest b_this) + 1)) then g_X0_remember_22 n (0) b_this b_o1 else g_X0_remember_22 n ((pX0_newest b_this) + 1) b_this b_o1))
def g_X0_takeBack_38 (n : Nat) (t1 : Int) (b_this : BX0) (b_o1 : BX2) : Option (BX0 × BX2) :=
  oR (((pX0_count b_this) - 1)) (oL ((pX0_count b_this) - 1) (fun y_1 => some ((sX0_count (sX0_newest b_this t1) y_1), b_o1)))
def g_X0_takeBack (n : Nat) (b_this : BX0) (b_o1 : BX2) : Option (BX0 × BX2) :=
  (if ((pX0_count b_this) ≤ 0) then some (b_this, b_o1) else (if (pX0_newest b_this) = 0 then oB (g_X2_copyFrom n b_o1 ((pX0_kept b_this) 0)) (fun b_2 => (if ((pX0_newest b_this) ≤ 0) then g_X0_takeBack_38 n (5) b_this b_2 else oR (((pX0_newest b_this) - 1)) (g_X0_takeBack_38 n ((pX0_newest b_this) - 1) b_this b_2))) else (if (pX0_newest b_this) = 1 then oB (g_X2_copyFrom n b_o1 ((pX0_kept b_this) 1)) (fun b_18 => (if ((pX0_newest b_this) ≤ 0) then g_X0_takeBack_38 n (5) b_this b_18 else oR (((pX0_newest b_this) - 1)) (g_X0_takeBack_38 n ((pX0_newest b_this) - 1) b_this b_18))) else (if (pX0_newest b_this) = 2 then oB (g_X2_copyFrom n b_o1 ((pX0_kept b_this) 2)) (fun b_34 => (if ((pX0_newest b_this) ≤ 0) then g_X0_takeBack_38 n (5) b_this b_34 else oR (((pX0_newest b_this) - 1)) (g_X0_takeBack_38 n ((pX0_newest b_this) - 1) b_this b_34))) else (if (pX0_newest b_this) = 3 then oB (g_X2_copyFrom n b_o1 ((pX0_kept b_this) 3)) (fun b_50 => (if ((pX0_newest b_this) ≤ 0) then g_X0_takeBack_38 n (5) b_this b_50 else oR (((pX0_newest b_this) - 1)) (g_X0_takeBack_38 n ((pX0_newest b_this) - 1) b_this b_50))) else (if (pX0_newest b_this) = 4 then oB (g_X2_copyFrom n b_o1 ((pX0_kept b_this) 4)) (fun b_66 => (if ((pX0_newest b_this) ≤ 0) then g_X0_takeBack_38 n (5) b_this b_66 else oR (((pX0_newest b_this) - 1)) (g_X0_takeBack_38 n ((pX0_newest b_this) - 1) b_this b_66))) else (if (pX0_newest b_this) = 5 then oB (g_X2_copyFrom n b_o1 ((pX0_kept b_this) 5)) (fun b_82 => (if ((pX0_newest b_this) ≤ 0) then g_X0_takeBack_38 n (5) b_this b_82 else oR (((pX0_newest b_this) - 1)) (g_X0_takeBack_38 n ((pX0_newest b_this) - 1) b_this b_82))) else none)))))))
def g_X2_isSeated (b_this : BX2) (x1 : Int) : Option (Int) :=
  qA x1 (8) ((if (((pX2_starts b_this) x1) = (-1)) then some (0) else some (1)))
def g_X2_settle_8 (n : Nat) : Nat → Int → Int → Int → BX2 → Option (BX2)
  | 0, _, _, _, _ => none
  | fu + 1, x3, x4, x5, b_this => (if (x4 ≤ x5) then some b_this else (if ((pX2_pitches b_this) ≤ x5) then some b_this else qA x5 (24) (oL (updZ (pX2_standing b_this) x5 x3) (fun v_2 => oR ((x5 + 1)) (g_X2_settle_8 n fu x3 x4 (x5 + 1) (sX2_standing b_this v_2))))))
def g_X2_settle (n : Nat) (b_this : BX2) (x1 : Int) (x2 : Int) (x3 : Int) : Option (BX2) :=
  oR ((x1 + x2)) (oL (x1 + x2) (fun y_3 => g_X2_settle_8 n n x3 y_3 x1 b_this))
def g_X2_openPitches_44 (n : Nat) (k15 : Int → Int → Int → BX2 → Option (Int)) (x3 : Int) (x4 : Int) (x5 : Int) (b_this : BX2) : Option (Int) :=
  oR ((x5 + 1)) (k15 x3 x4 (x5 + 1) b_this)
def g_X2_openPitches_15 (n : Nat) : Nat → Int → Int → Int → BX2 → Option (Int)
  | 0, _, _, _, _ => none
  | fu + 1, x3, x4, x5, b_this => (if (x4 ≤ x5) then some x3 else (if ((pX2_pitches b_this) ≤ x5) then some x3 else qA x5 (24) ((if (((pX2_roofs b_this) x5) = 0) then oR ((x3 + 1)) (g_X2_openPitches_44 n (g_X2_openPitches_15 n fu) (x3 + 1) x4 x5 b_this) else g_X2_openPitches_44 n (g_X2_openPitches_15 n fu) x3 x4 x5 b_this))))
def g_X2_openPitches (n : Nat) (b_this : BX2) (x1 : Int) (x2 : Int) : Option (Int) :=
  qA x1 (8) (oR ((x2 + ((pX2_fronts b_this) x1))) (oL (x2 + ((pX2_fronts b_this) x1)) (fun y_3 => g_X2_openPitches_15 n n (0) y_3 x2 b_this)))
def g_X2_coversFor (n : Nat) (b_this : BX2) (x1 : Int) (x2 : Int) : Option (Int) :=
  qA x1 (8) ((if (((pX2_needy b_this) x1) = 0) then some (0) else oB (g_X2_openPitches n b_this x1 x2) (fun r_2 => some r_2)))
def g_X2_unseat (n : Nat) (b_this : BX2) (x1 : Int) : Option (BX2) :=
  oB (g_X2_isSeated b_this x1) (fun r_1 => (if (r_1 = 0) then some b_this else qA x1 (8) (oL ((pX2_starts b_this) x1) (fun y_4 => qA x1 (8) (oB (g_X2_settle n b_this y_4 ((pX2_fronts b_this) x1) (-1)) (fun b_4 => qA x1 (8) (oL (updZ (pX2_starts b_4) x1 (-1)) (fun v_9 => oB (g_X2_coversFor n (sX2_starts b_4 v_9) x1 y_4) (fun r_10 => oR (((pX2_coversBusy b_4) - r_10)) (oL ((pX2_coversBusy b_4) - r_10) (fun y_12 => some (sX2_coversBusy (sX2_starts b_4 v_9) y_12))))))))))))
def g_X2_seat (n : Nat) (b_this : BX2) (x1 : Int) (x2 : Int) : Option (BX2) :=
  qA x1 (8) (oB (g_X2_settle n b_this x2 ((pX2_fronts b_this) x1) x1) (fun b_2 => qA x1 (8) (oL (updZ (pX2_starts b_2) x1 x2) (fun v_5 => oB (g_X2_coversFor n (sX2_starts b_2 v_5) x1 x2) (fun r_6 => oR (((pX2_coversBusy b_2) + r_6)) (oL ((pX2_coversBusy b_2) + r_6) (fun y_8 => some (sX2_coversBusy (sX2_starts b_2 v_5) y_8))))))))
def g_X2_blockRent_15 (n : Nat) : Nat → Int → Int → Int → BX2 → Option (Int)
  | 0, _, _, _, _ => none
  | fu + 1, x3, x4, x5, b_this => (if (x4 ≤ x5) then some x3 else (if ((pX2_pitches b_this) ≤ x5) then some x3 else qA x5 (24) (oR ((x3 + ((pX2_rents b_this) x5))) (oL (x3 + ((pX2_rents b_this) x5)) (fun y_2 => oR ((x5 + 1)) (g_X2_blockRent_15 n fu y_2 x4 (x5 + 1) b_this))))))
def g_X2_blockRent (n : Nat) (b_this : BX2) (x1 : Int) (x2 : Int) : Option (Int) :=
  qA x1 (8) (oR ((x2 + ((pX2_fronts b_this) x1))) (oL (x2 + ((pX2_fronts b_this) x1)) (fun y_4 => g_X2_blockRent_15 n n (0) y_4 x2 b_this)))
def g_X2_shareRow (b_this : BX2) (x1 : Int) (x2 : Int) : Option (Int) :=
  (if (x1 < 0) then some (0) else (if (x2 < x1) then some (0) else (if ((pX2_pitches b_this) ≤ x2) then some (0) else qA x1 (24) (qA x2 (24) ((if (((pX2_rows b_this) x1) = ((pX2_rows b_this) x2)) then some (1) else some (0)))))))
def g_X2_isInOneRow (b_this : BX2) (x1 : Int) (x2 : Int) : Option (Int) :=
  qA x1 (8) (oR (((x2 + ((pX2_fronts b_this) x1)) - 1)) (oB (g_X2_shareRow b_this x2 ((x2 + ((pX2_fronts b_this) x1)) - 1)) (fun r_2 => oG (zNb r_2 = r_2) (some r_2))))
def g_X2_isBlockFree_12 (n : Nat) : Nat → Int → Int → BX2 → Option (Int)
  | 0, _, _, _ => none
  | fu + 1, x3, x4, b_this => (if (x3 ≤ x4) then some (1) else (if ((pX2_pitches b_this) ≤ x4) then some (1) else qA x4 (24) ((if (((pX2_standing b_this) x4) = (-1)) then oR ((x4 + 1)) (g_X2_isBlockFree_12 n fu x3 (x4 + 1) b_this) else some (0)))))
def g_X2_isBlockFree (n : Nat) (b_this : BX2) (x1 : Int) (x2 : Int) : Option (Int) :=
  qA x1 (8) (oR ((x2 + ((pX2_fronts b_this) x1))) (oL (x2 + ((pX2_fronts b_this) x1)) (fun y_3 => g_X2_isBlockFree_12 n n y_3 x2 b_this)))
def g_X2_affords (n : Nat) (b_this : BX2) (x1 : Int) (x2 : Int) : Option (Int) :=
  oB (g_X2_blockRent n b_this x1 x2) (fun r_1 => qA x1 (8) ((if (((pX2_limits b_this) x1) < r_1) then some (0) else some (1))))
def g_X2_clashesWith (b_this : BX2) (x1 : Int) (x2 : Int) : Option (Int) :=
  (if (x2 = (-1)) then some (0) else qA x1 (8) (qA ((pX2_trades b_this) x1) (8) (qA x2 (8) ((if ((zAnd (zShr ((pX2_clashes b_this) ((pX2_trades b_this) x1)) ((pX2_trades b_this) x2)) 1) = 0) then some (0) else some (1))))))
def g_X2_clashesBeside_65 (b_this : BX2) : Option (Int) :=
  some (1)
def g_X2_clashesBeside_38 (x1 : Int) (x3 : Int) (b_this : BX2) : Option (Int) :=
  oR ((x3 + 1)) (oB (g_X2_shareRow b_this x3 (x3 + 1)) (fun r_1 => (if (r_1 = 0) then some (0) else qA (x3 + 1) (24) (oB (g_X2_clashesWith b_this x1 ((pX2_standing b_this) (x3 + 1))) (fun r_4 => (if (r_4 = 0) then some (0) else g_X2_clashesBeside_65 b_this))))))
def g_X2_clashesBeside (b_this : BX2) (x1 : Int) (x2 : Int) : Option (Int) :=
  qA x1 (8) (oR (((x2 + ((pX2_fronts b_this) x1)) - 1)) (oL ((x2 + ((pX2_fronts b_this) x1)) - 1) (fun y_7 => oR ((x2 - 1)) (oB (g_X2_shareRow b_this (x2 - 1) x2) (fun r_8 => (if (r_8 = 0) then g_X2_clashesBeside_38 x1 y_7 b_this else qA (x2 - 1) (24) (oB (g_X2_clashesWith b_this x1 ((pX2_standing b_this) (x2 - 1))) (fun r_11 => (if (r_11 = 0) then g_X2_clashesBeside_38 x1 y_7 b_this else g_X2_clashesBeside_65 b_this)))))))))
def g_X2_hindrance (n : Nat) (b_this : BX2) (x1 : Int) (x2 : Int) : Option (Int) :=
  oB (g_X2_isSeated b_this x1) (fun r_1 => (if (r_1 = 0) then oB (g_X2_isInOneRow b_this x1 x2) (fun r_3 => (if (r_3 = 0) then some (2) else oB (g_X2_isBlockFree n b_this x1 x2) (fun r_5 => (if (r_5 = 0) then some (3) else oB (g_X2_affords n b_this x1 x2) (fun r_7 => (if (r_7 = 0) then some (4) else oB (g_X2_coversFor n b_this x1 x2) (fun r_9 => oR (((pX2_coversBusy b_this) + r_9)) ((if (((pX2_coversBusy b_this) + r_9) ≤ (pX2_covers b_this)) then oB (g_X2_clashesBeside b_this x1 x2) (fun r_11 => (if (r_11 = 0) then some (0) else some (6))) else some (5)))))))))) else some (1)))
def g_X2_dearestStart_56 (n : Nat) (k8 : Int → Int → Int → Int → Int → BX2 → Option (Int)) (x1 : Int) (x2 : Int) (x3 : Int) (x4 : Int) (x5 : Int) (b_this : BX2) : Option (Int) :=
  oR ((x5 + 1)) (k8 x1 x2 x3 x4 (x5 + 1) b_this)
def g_X2_dearestStart_8 (n : Nat) : Nat → Int → Int → Int → Int → Int → BX2 → Option (Int)
  | 0, _, _, _, _, _, _ => none
  | fu + 1, x1, x2, x3, x4, x5, b_this => (if ((pX2_pitches b_this) ≤ x5) then some x3 else oB (g_X2_blockRent n b_this x1 x5) (fun r_1 => (if (r_1 ≤ x4) then g_X2_dearestStart_56 n (g_X2_dearestStart_8 n fu) x1 x2 x3 x4 x5 b_this else (if (x5 = x2) then g_X2_dearestStart_56 n (g_X2_dearestStart_8 n fu) x1 x2 x3 x4 x5 b_this else oB (g_X2_hindrance n b_this x1 x5) (fun r_3 => (if (r_3 = 0) then g_X2_dearestStart_56 n (g_X2_dearestStart_8 n fu) x1 x2 x5 r_1 x5 b_this else g_X2_dearestStart_56 n (g_X2_dearestStart_8 n fu) x1 x2 x3 x4 x5 b_this))))))
def g_X2_dearestStart (n : Nat) (b_this : BX2) (x1 : Int) (x2 : Int) : Option (Int) :=
  g_X2_dearestStart_8 n n x1 x2 (-1) (0) (0) b_this
def g_X1_sumHopes_11 (n : Nat) : Nat → Int → BX1 → Option (Int × BX1)
  | 0, _, _ => none
  | fu + 1, x2, b_this => (if (x2 < 0) then some (1, b_this) else qA x2 (3) (qA x2 (3) (qA ((pX1_walkers b_this) x2) (8) (oB (g_X2_dearestStart n (pX1_street b_this) ((pX1_walkers b_this) x2) ((pX1_oldStarts b_this) ((pX1_walkers b_this) x2))) (fun r_4 => (if (r_4 = (-1)) then some (0, b_this) else qA (x2 + 1) (4) (qA x2 (3) (oB (g_X2_blockRent n (pX1_street b_this) ((pX1_walkers b_this) x2) r_4) (fun r_8 => qA x2 (4) (oR ((((pX1_hopes b_this) (x2 + 1)) + r_8)) (oL (updZ (pX1_hopes b_this) x2 (((pX1_hopes b_this) (x2 + 1)) + r_8)) (fun v_11 => oR ((x2 + (-1))) (g_X1_sumHopes_11 n fu (x2 + (-1)) (sX1_hopes b_this v_11))))))))))))))
def g_X1_sumHopes (n : Nat) (b_this : BX1) (x1 : Int) : Option (Int × BX1) :=
  qA (x1 + 1) (4) (oL (updZ (pX1_hopes b_this) (x1 + 1) (0)) (fun v_13 => g_X1_sumHopes_11 n n x1 (sX1_hopes b_this v_13)))
def g_X2_totalRent_34 (n : Nat) (k4 : Int → Int → BX2 → Option (Int)) (x1 : Int) (x2 : Int) (b_this : BX2) : Option (Int) :=
  oR ((x2 + 1)) (k4 x1 (x2 + 1) b_this)
def g_X2_totalRent_4 (n : Nat) : Nat → Int → Int → BX2 → Option (Int)
  | 0, _, _, _ => none
  | fu + 1, x1, x2, b_this => (if ((pX2_traders b_this) ≤ x2) then some x1 else oB (g_X2_isSeated b_this x2) (fun r_1 => (if (r_1 = 0) then g_X2_totalRent_34 n (g_X2_totalRent_4 n fu) x1 x2 b_this else qA x2 (8) (oB (g_X2_blockRent n b_this x2 ((pX2_starts b_this) x2)) (fun r_4 => oR ((x1 + r_4)) (oL (x1 + r_4) (fun y_6 => g_X2_totalRent_34 n (g_X2_totalRent_4 n fu) y_6 x2 b_this)))))))
def g_X2_totalRent (n : Nat) (b_this : BX2) : Option (Int) :=
  g_X2_totalRent_4 n n (0) (0) b_this
def g_X2_seatIfPossible (n : Nat) (b_this : BX2) (x1 : Int) (x2 : Int) : Option (Int × BX2) :=
  oB (g_X2_hindrance n b_this x1 x2) (fun r_1 => (if (r_1 = 0) then oB (g_X2_seat n b_this x1 x2) (fun b_2 => some (1, b_2)) else some (0, b_this)))
def g_X2_comesBefore_48 (n : Nat) (b_this : BX2) (b_o1 : BX2) : Option (Int) :=
  some (1)
def g_X2_comesBefore_2 (n : Nat) : Nat → Int → BX2 → BX2 → Option (Int)
  | 0, _, _, _ => none
  | fu + 1, x2, b_this, b_o1 => (if ((pX2_pitches b_this) ≤ x2) then some (0) else qA x2 (24) (oL ((pX2_standing b_this) x2) (fun y_2 => qA x2 (24) (oL ((pX2_standing b_o1) x2) (fun y_4 => (if (y_2 = y_4) then oR ((x2 + 1)) (g_X2_comesBefore_2 n fu (x2 + 1) b_this b_o1) else (if (y_4 = (-1)) then g_X2_comesBefore_48 n b_this b_o1 else (if (y_2 = (-1)) then some (0) else (if (y_4 ≤ y_2) then some (0) else g_X2_comesBefore_48 n b_this b_o1)))))))))
def g_X2_comesBefore (n : Nat) (b_this : BX2) (b_o1 : BX2) : Option (Int) :=
  g_X2_comesBefore_2 n n (0) b_this b_o1
def g_X1_consider_46 (n : Nat) (x1 : Int) (x2 : Int) (b_this : BX1) : Option (BX1) :=
  oB (g_X2_copyFrom n (pX1_found b_this) (pX1_street b_this)) (fun b_1 => some (sX1_fewestMoved (sX1_mostIncome (sX1_found b_this b_1) x2) x1))
def g_X1_consider (n : Nat) (b_this : BX1) (x1 : Int) (x2 : Int) : Option (BX1) :=
  (if ((pX1_mostIncome b_this) < x2) then g_X1_consider_46 n x1 x2 b_this else (if (x2 = (pX1_mostIncome b_this)) then (if (x1 < (pX1_fewestMoved b_this)) then g_X1_consider_46 n x1 x2 b_this else (if (x1 = (pX1_fewestMoved b_this)) then oB (g_X2_comesBefore n (pX1_street b_this) (pX1_found b_this)) (fun r_16 => (if (r_16 = 0) then some b_this else g_X1_consider_46 n x1 x2 b_this)) else some b_this)) else some b_this))
def g_X1_isHopeless_24 (b_this : BX1) : Option (Int) :=
  some (1)
def g_X1_isHopeless (b_this : BX1) (x1 : Int) (x2 : Int) : Option (Int) :=
  (if (x2 < (pX1_mostIncome b_this)) then g_X1_isHopeless_24 b_this else (if (x2 = (pX1_mostIncome b_this)) then (if (x1 ≤ (pX1_fewestMoved b_this)) then some (0) else g_X1_isHopeless_24 b_this) else some (0)))
def g_X1_seatWalkers_113 (n : Nat) (rc : BX1 → Int → Int → Int → Option (BX1)) (k45 : Int → Int → Int → Int → Int → BX1 → Option (BX1)) (x1 : Int) (x2 : Int) (x3 : Int) (x4 : Int) (x5 : Int) (b_this : BX1) : Option (BX1) :=
  oR ((x5 + 1)) (k45 x1 x2 x3 x4 (x5 + 1) b_this)
def g_X1_seatWalkers_45 (n : Nat) (rc : BX1 → Int → Int → Int → Option (BX1)) : Nat → Int → Int → Int → Int → Int → BX1 → Option (BX1)
  | 0, _, _, _, _, _, _ => none
  | fu + 1, x1, x2, x3, x4, x5, b_this => (if ((pX2_pitches (pX1_street b_this)) ≤ x5) then some b_this else qA x4 (8) ((if (x5 = ((pX1_oldStarts b_this) x4)) then g_X1_seatWalkers_113 n rc (g_X1_seatWalkers_45 n rc fu) x1 x2 x3 x4 x5 b_this else oB2 (g_X2_seatIfPossible n (pX1_street b_this) x4 x5) (fun r_2 b_3 => (if (r_2 = 0) then g_X1_seatWalkers_113 n rc (g_X1_seatWalkers_45 n rc fu) x1 x2 x3 x4 x5 (sX1_street b_this b_3) else oB (g_X2_blockRent n b_3 x4 x5) (fun r_7 => oR ((x1 + 1)) (oR ((x3 + r_7)) (oB (rc (sX1_street b_this b_3) (x1 + 1) x2 (x3 + r_7)) (fun b_33 => oB (g_X2_unseat n (pX1_street b_33) x4) (fun b_95 => g_X1_seatWalkers_113 n rc (g_X1_seatWalkers_45 n rc fu) x1 x2 x3 x4 x5 (sX1_street b_33 b_95)))))))))))
def g_X1_seatWalkers_27 (n : Nat) (rc : BX1 → Int → Int → Int → Option (BX1)) (x2 : Int) (x3 : Int) (b_this : BX1) : Option (BX1) :=
  oB (g_X1_consider n b_this x2 x3) (fun b_121 => some b_121)
def g_X1_seatWalkers (n : Nat) : Nat → BX1 → Int → Int → Int → Option (BX1)
  | 0, _, _, _, _ => none
  | d + 1, b_this, x1, x2, x3 => qA x1 (4) (oR ((x3 + ((pX1_hopes b_this) x1))) (oB (g_X1_isHopeless b_this x2 (x3 + ((pX1_hopes b_this) x1))) (fun r_51 => (if (r_51 = 0) then (if (x2 < x1) then g_X1_seatWalkers_27 n (g_X1_seatWalkers n d) x2 x3 b_this else (if (x1 ≤ 2) then qA x1 (3) (oL ((pX1_walkers b_this) x1) (fun y_54 => g_X1_seatWalkers_45 n (g_X1_seatWalkers n d) n x1 x2 x3 y_54 (0) b_this)) else g_X1_seatWalkers_27 n (g_X1_seatWalkers n d) x2 x3 b_this)) else some b_this))))
def g_X1_chooseMovers_106 (n : Nat) (rc : BX1 → Int → Int → Int → Option (BX1)) (k35 : Int → Int → Int → BX1 → Option (BX1)) (x1 : Int) (x3 : Int) (x4 : Int) (b_this : BX1) : Option (BX1) :=
  oR ((x4 + 1)) (k35 x1 x3 (x4 + 1) b_this)
def g_X1_chooseMovers_35 (n : Nat) (rc : BX1 → Int → Int → Int → Option (BX1)) : Nat → Int → Int → Int → BX1 → Option (BX1)
  | 0, _, _, _, _ => none
  | fu + 1, x1, x3, x4, b_this => (if ((pX2_traders (pX1_street b_this)) ≤ x4) then some b_this else oB (g_X2_isSeated (pX1_street b_this) x4) (fun r_1 => (if (r_1 = 0) then g_X1_chooseMovers_106 n rc (g_X1_chooseMovers_35 n rc fu) x1 x3 x4 b_this else oB (g_X2_unseat n (pX1_street b_this) x4) (fun b_3 => qA (x1 + 1) (3) (oL (updZ (pX1_walkers b_this) (x1 + 1) x4) (fun v_8 => oR ((x1 + 1)) (oR ((x4 + 1)) (oB (rc (sX1_walkers (sX1_street b_this b_3) v_8) (x1 + 1) (x4 + 1) x3) (fun b_32 => qA x4 (8) (oB (g_X2_seat n (pX1_street b_32) x4 ((pX1_oldStarts b_32) x4)) (fun b_91 => g_X1_chooseMovers_106 n rc (g_X1_chooseMovers_35 n rc fu) x1 x3 x4 (sX1_street b_32 b_91))))))))))))
def g_X1_chooseMovers_21 (n : Nat) (rc : BX1 → Int → Int → Int → Option (BX1)) (x1 : Int) (x2 : Int) (x3 : Int) (b_this : BX1) : Option (BX1) :=
  (if (x3 ≤ x1) then some b_this else (if (x1 < 2) then g_X1_chooseMovers_35 n rc n x1 x3 x2 b_this else some b_this))
def g_X1_chooseMovers (n : Nat) : Nat → BX1 → Int → Int → Int → Option (BX1)
  | 0, _, _, _, _ => none
  | d + 1, b_this, x1, x2, x3 => oB2 (g_X1_sumHopes n b_this x1) (fun r_36 b_117 => (if (r_36 = 0) then g_X1_chooseMovers_21 n (g_X1_chooseMovers n d) x1 x2 x3 b_117 else oB (g_X2_totalRent n (pX1_street b_117)) (fun r_39 => oB (g_X1_seatWalkers n 5 b_117 (0) x1 r_39) (fun b_159 => g_X1_chooseMovers_21 n (g_X1_chooseMovers n d) x1 x2 x3 b_159))))
def g_X1_search (n : Nat) (b_this : BX1) (b_o1 : BX2) (x2 : Int) (x3 : Int) : Option (BX1) :=
  oB (g_X2_copyFrom n (pX1_street b_this) b_o1) (fun b_1 => oL (cpyZ (pX2_starts b_o1) (pX1_oldStarts b_this) 0 0 8) (fun v_16 => qA (0) (3) (oL (updZ (pX1_walkers b_this) (0) x2) (fun v_18 => oB (g_X1_chooseMovers n 4 (sX1_walkers (sX1_oldStarts (sX1_fewestMoved (sX1_mostIncome (sX1_street b_this b_1) (-1)) 0) v_16) v_18) (0) (0) x3) (fun b_17 => some b_17)))))
def g_X2_addPitch (b_this : BX2) (x1 : Int) (x2 : Int) (x3 : Int) : Option (BX2) :=
  (if (24 ≤ (pX2_pitches b_this)) then some b_this else qA (pX2_pitches b_this) (24) (oL (updZ (pX2_rows b_this) (pX2_pitches b_this) x1) (fun v_2 => qA (pX2_pitches b_this) (24) (oL (updZ (pX2_rents b_this) (pX2_pitches b_this) x2) (fun v_4 => qA (pX2_pitches b_this) (24) (oL (updZ (pX2_roofs b_this) (pX2_pitches b_this) (zNb x3)) (fun v_6 => oR (((pX2_pitches b_this) + 1)) (oL ((pX2_pitches b_this) + 1) (fun y_7 => some (sX2_roofs (sX2_rents (sX2_rows (sX2_pitches b_this y_7) v_2) v_4) v_6))))))))))
def g_X2_areClashing (b_this : BX2) (x1 : Int) (x2 : Int) : Option (Int) :=
  qA x1 (8) ((if ((zAnd (zShr ((pX2_clashes b_this) x1) x2) 1) = 0) then some (0) else some (1)))
def g_X2_countSeated_23 (n : Nat) (k4 : Int → Int → BX2 → Option (Int)) (x1 : Int) (x2 : Int) (b_this : BX2) : Option (Int) :=
  oR ((x2 + 1)) (k4 x1 (x2 + 1) b_this)
def g_X2_countSeated_4 (n : Nat) : Nat → Int → Int → BX2 → Option (Int)
  | 0, _, _, _ => none
  | fu + 1, x1, x2, b_this => (if ((pX2_traders b_this) ≤ x2) then some x1 else oB (g_X2_isSeated b_this x2) (fun r_1 => (if (r_1 = 0) then g_X2_countSeated_23 n (g_X2_countSeated_4 n fu) x1 x2 b_this else oR ((x1 + 1)) (g_X2_countSeated_23 n (g_X2_countSeated_4 n fu) (x1 + 1) x2 b_this))))
def g_X2_countSeated (n : Nat) (b_this : BX2) : Option (Int) :=
  g_X2_countSeated_4 n n (0) (0) b_this
def g_X2_enrol (b_this : BX2) (x1 : Int) (x2 : Int) (x3 : Int) (x4 : Int) : Option (BX2) :=
  (if (8 ≤ (pX2_traders b_this)) then some b_this else qA (pX2_traders b_this) (8) (oL (updZ (pX2_trades b_this) (pX2_traders b_this) x1) (fun v_2 => qA (pX2_traders b_this) (8) (oL (updZ (pX2_fronts b_this) (pX2_traders b_this) x2) (fun v_4 => qA (pX2_traders b_this) (8) (oL (updZ (pX2_limits b_this) (pX2_traders b_this) x3) (fun v_6 => qA (pX2_traders b_this) (8) (oL (updZ (pX2_needy b_this) (pX2_traders b_this) (zNb x4)) (fun v_8 => oR (((pX2_traders b_this) + 1)) (oL ((pX2_traders b_this) + 1) (fun y_9 => some (sX2_needy (sX2_limits (sX2_fronts (sX2_trades (sX2_traders b_this y_9) v_2) v_4) v_6) v_8))))))))))))
def g_X2_hasPitch (b_this : BX2) (x1 : Int) : Option (Int) :=
  (if (x1 < 0) then some (0) else (if ((pX2_pitches b_this) ≤ x1) then some (0) else some (1)))
def g_X2_hasTrader (b_this : BX2) (x1 : Int) : Option (Int) :=
  (if (x1 < 0) then some (0) else (if ((pX2_traders b_this) ≤ x1) then some (0) else some (1)))
def g_X2_isPair_20 : Option (Int) :=
  some (1)
def g_X2_isPair_10 (x0 : Int) (x1 : Int) (x2 : Int) (x3 : Int) : Option (Int) :=
  (if (x0 = x3) then (if (x1 = x2) then g_X2_isPair_20 else some (0)) else some (0))
def g_X2_isPair (x0 : Int) (x1 : Int) (x2 : Int) (x3 : Int) : Option (Int) :=
  (if (x0 = x2) then (if (x1 = x3) then g_X2_isPair_20 else g_X2_isPair_10 x0 x1 x2 x3) else g_X2_isPair_10 x0 x1 x2 x3)
def g_X2_isSheltered_23 (n : Nat) (b_this : BX2) : Option (Int) :=
  some (1)
def g_X2_isSheltered (n : Nat) (b_this : BX2) (x1 : Int) : Option (Int) :=
  qA x1 (8) ((if (((pX2_needy b_this) x1) = 0) then qA x1 (8) (oB (g_X2_openPitches n b_this x1 ((pX2_starts b_this) x1)) (fun r_3 => (if (r_3 = 0) then g_X2_isSheltered_23 n b_this else some (0)))) else g_X2_isSheltered_23 n b_this))
def g_X2_putClash (b_this : BX2) (x1 : Int) (x2 : Int) (x3 : Int) : Option (BX2) :=
  (if (x3 = 0) then qA x1 (8) (qA x1 (8) (oL (updZ (pX2_clashes b_this) x1 (zAnd ((pX2_clashes b_this) x1) (zXor (zShl 1 x2) (-1)))) (fun v_3 => qA x2 (8) (qA x2 (8) (oL (updZ v_3 x2 (zAnd (v_3 x2) (zXor (zShl 1 x1) (-1)))) (fun v_6 => some (sX2_clashes b_this v_6))))))) else qA x1 (8) (qA x1 (8) (oL (updZ (pX2_clashes b_this) x1 (zOr ((pX2_clashes b_this) x1) (zShl 1 x2))) (fun v_9 => qA x2 (8) (qA x2 (8) (oL (updZ v_9 x2 (zOr (v_9 x2) (zShl 1 x1))) (fun v_12 => some (sX2_clashes b_this v_12))))))))
def g_X2_seatDearest (n : Nat) (b_this : BX2) (x1 : Int) : Option (BX2) :=
  oB (g_X2_dearestStart n b_this x1 (-1)) (fun r_1 => (if (r_1 = (-1)) then some b_this else oB (g_X2_seat n b_this x1 r_1) (fun b_2 => some b_2)))
def g_X2_standSideBySide_84 (n : Nat) (k2 : Int → Int → Int → BX2 → Option (Int)) (x1 : Int) (x2 : Int) (x3 : Int) (b_this : BX2) : Option (Int) :=
  oR ((x3 + 1)) (k2 x1 x2 (x3 + 1) b_this)
def g_X2_standSideBySide_2 (n : Nat) : Nat → Int → Int → Int → BX2 → Option (Int)
  | 0, _, _, _, _ => none
  | fu + 1, x1, x2, x3, b_this => oR ((x3 + 1)) ((if ((pX2_pitches b_this) ≤ (x3 + 1)) then some (0) else qA x3 (24) (oL ((pX2_standing b_this) x3) (fun y_2 => qA (x3 + 1) (24) (oL ((pX2_standing b_this) (x3 + 1)) (fun y_4 => (if (y_2 = y_4) then g_X2_standSideBySide_84 n (g_X2_standSideBySide_2 n fu) x1 x2 x3 b_this else (if (y_2 = (-1)) then g_X2_standSideBySide_84 n (g_X2_standSideBySide_2 n fu) x1 x2 x3 b_this else (if (y_4 = (-1)) then g_X2_standSideBySide_84 n (g_X2_standSideBySide_2 n fu) x1 x2 x3 b_this else oB (g_X2_shareRow b_this x3 (x3 + 1)) (fun r_5 => (if (r_5 = 0) then g_X2_standSideBySide_84 n (g_X2_standSideBySide_2 n fu) x1 x2 x3 b_this else qA y_2 (8) (qA y_4 (8) (oB (g_X2_isPair ((pX2_trades b_this) y_2) ((pX2_trades b_this) y_4) x1 x2) (fun r_9 => (if (r_9 = 0) then g_X2_standSideBySide_84 n (g_X2_standSideBySide_2 n fu) x1 x2 x3 b_this else some (1))))))))))))))))
def g_X2_standSideBySide (n : Nat) (b_this : BX2) (x1 : Int) (x2 : Int) : Option (Int) :=
  g_X2_standSideBySide_2 n n x1 x2 (0) b_this
def g_X2_unseatAll_2 (n : Nat) : Nat → Int → BX2 → Option (BX2)
  | 0, _, _ => none
  | fu + 1, x1, b_this => (if ((pX2_traders b_this) ≤ x1) then some b_this else oB (g_X2_unseat n b_this x1) (fun b_1 => oR ((x1 + 1)) (g_X2_unseatAll_2 n fu (x1 + 1) b_1)))
def g_X2_unseatAll (n : Nat) (b_this : BX2) : Option (BX2) :=
  g_X2_unseatAll_2 n n (0) b_this
def g_X2_turnAround_13 (n : Nat) : Nat → Int → Int → BX2 → Option (BX2)
  | 0, _, _, _ => none
  | fu + 1, x1, x2, b_this => (if (x2 ≤ x1) then some b_this else qA x1 (24) (oL ((pX2_rows b_this) x1) (fun y_2 => qA x2 (24) (qA x1 (24) (oL (updZ (pX2_rows b_this) x1 ((pX2_rows b_this) x2)) (fun v_5 => qA x2 (24) (oL (updZ v_5 x2 y_2) (fun v_7 => qA x1 (24) (oL ((pX2_rents b_this) x1) (fun y_9 => qA x2 (24) (qA x1 (24) (oL (updZ (pX2_rents b_this) x1 ((pX2_rents b_this) x2)) (fun v_12 => qA x2 (24) (oL (updZ v_12 x2 y_9) (fun v_14 => qA x1 (24) (oL ((pX2_roofs b_this) x1) (fun y_16 => qA x2 (24) (qA x1 (24) (oL (updZ (pX2_roofs b_this) x1 (zNb ((pX2_roofs b_this) x2))) (fun v_19 => qA x2 (24) (oL (updZ v_19 x2 (zNb y_16)) (fun v_21 => oR ((x1 + 1)) (oR ((x2 + (-1))) (g_X2_turnAround_13 n fu (x1 + 1) (x2 + (-1)) (sX2_roofs (sX2_rents (sX2_rows b_this v_7) v_14) v_21)))))))))))))))))))))))))
def g_X2_turnAround (n : Nat) (b_this : BX2) : Option (BX2) :=
  oB (g_X2_unseatAll n b_this) (fun b_15 => oR (((pX2_pitches b_15) - 1)) (oL ((pX2_pitches b_15) - 1) (fun y_26 => g_X2_turnAround_13 n n (0) y_26 b_15)))
def g_X2_wipe_21 (n : Nat) : Nat → Int → BX2 → Option (BX2)
  | 0, _, _ => none
  | fu + 1, x1, b_this => (if (8 ≤ x1) then some b_this else qA x1 (8) (oL (updZ (pX2_clashes b_this) x1 (0)) (fun v_2 => oR ((x1 + 1)) (g_X2_wipe_21 n fu (x1 + 1) (sX2_clashes b_this v_2)))))
def g_X2_wipe (n : Nat) (b_this : BX2) : Option (BX2) :=
  oB (g_X2_unseatAll n b_this) (fun b_3 => g_X2_wipe_21 n n (0) (sX2_covers (sX2_traders (sX2_pitches b_3 0) 0) 0))
def g_X3_canCome (b_this : BX3) (x1 : Int) (x2 : Int) (x3 : Int) : Option (Int) :=
  (if ((zAnd (zShr x3 x1) 1) = 0) then qA ((x1 * 24) + x2) (192) ((if (((pX3_worths b_this) ((x1 * 24) + x2)) ≤ 0) then some (0) else some (1))) else some (0))
def g_X3_cell (b_this : BX3) (x1 : Int) (x2 : Int) (x3 : Int) : Option (Int) :=
  oR ((((((x1 * (pX3_sets b_this)) + x2) * (pX3_kinds b_this)) + x3) * (pX3_levels b_this))) (some (((((x1 * (pX3_sets b_this)) + x2) * (pX3_kinds b_this)) + x3) * (pX3_levels b_this)))
def g_X3_cellAfter (b_this : BX3) (x1 : Int) (x2 : Int) (x3 : Int) : Option (Int) :=
  qA ((x1 * 24) + x2) (192) (oL ((pX3_kindsBehind b_this) ((x1 * 24) + x2)) (fun y_2 => qA x1 (8) (oR ((x2 + ((pX2_fronts (pX3_street b_this)) x1))) (oB (g_X3_cell b_this (x2 + ((pX2_fronts (pX3_street b_this)) x1)) (zOr x3 (zShl 1 x1)) y_2) (fun r_4 => some r_4)))))
def g_X3_level (b_this : BX3) (x1 : Int) : Option (Int) :=
  oR (((pX3_levels b_this) - 1)) (some (min x1 ((pX3_levels b_this) - 1)))
def g_X3_kindBeside (b_this : BX3) (x1 : Int) (x2 : Int) (x3 : Int) : Option (Int) :=
  oB (g_X2_shareRow (pX3_street b_this) x2 x3) (fun r_1 => (if (r_1 = 0) then some (0) else qA x1 (8) (some ((pX3_kindOf b_this) x1))))
def g_X3_worthAround_182 (n : Nat) (k60 : Int → Int → Int → Int → Int → Int → Int → Int → BX3 → BX3 → Option (Int)) (x1 : Int) (x2 : Int) (x4 : Int) (x6 : Int) (x7 : Int) (x8 : Int) (x9 : Int) (x10 : Int) (b_this : BX3) (b_o5 : BX3) : Option (Int) :=
  oR ((x10 + 1)) (k60 x1 x2 x4 x6 x7 x8 x9 (x10 + 1) b_this b_o5)
def g_X3_worthAround_124 (n : Nat) (k60 : Int → Int → Int → Int → Int → Int → Int → Int → BX3 → BX3 → Option (Int)) : Nat → Int → Int → Int → Int → Int → Int → Int → Int → Int → Int → Int → BX3 → BX3 → Option (Int)
  | 0, _, _, _, _, _, _, _, _, _, _, _, _, _ => none
  | fu + 1, x1, x2, x4, x6, x7, x8, x9, x10, x11, x12, x13, b_this, b_o5 => (if (x4 < x13) then g_X3_worthAround_182 n k60 x1 x2 x4 x6 x7 x8 x9 x10 b_this b_o5 else oB (g_X3_level b_o5 x13) (fun r_1 => qA (x11 + r_1) (pX3_tableN b_o5) (oR ((x4 - x13)) (oB (g_X3_level b_this (x4 - x13)) (fun r_4 => qA (x12 + r_4) (pX3_tableN b_this) (oR ((((pX3_table b_o5) (x11 + r_1)) + ((pX3_table b_this) (x12 + r_4)))) (oL (((pX3_table b_o5) (x11 + r_1)) + ((pX3_table b_this) (x12 + r_4))) (fun y_7 => oL (max x9 y_7) (fun y_8 => oR ((x13 + 1)) (g_X3_worthAround_124 n k60 fu x1 x2 x4 x6 x7 x8 y_8 x10 x11 x12 (x13 + 1) b_this b_o5))))))))))
def g_X3_worthAround_60 (n : Nat) : Nat → Int → Int → Int → Int → Int → Int → Int → Int → BX3 → BX3 → Option (Int)
  | 0, _, _, _, _, _, _, _, _, _, _ => none
  | fu + 1, x1, x2, x4, x6, x7, x8, x9, x10, b_this, b_o5 => (if ((pX3_sets b_this) ≤ x10) then some x9 else (if ((zAnd x10 x6) = 0) then oR (((pX2_pitches (pX3_street b_this)) - x1)) (oR ((((pX3_sets b_this) - 1) - x10)) (oB (g_X3_cell b_o5 ((pX2_pitches (pX3_street b_this)) - x1) (((pX3_sets b_this) - 1) - x10) x7) (fun r_9 => oB (g_X3_cell b_this x2 (zOr x10 x6) x8) (fun r_11 => g_X3_worthAround_124 n (g_X3_worthAround_60 n fu) n x1 x2 x4 x6 x7 x8 x9 x10 r_9 r_11 (0) b_this b_o5)))) else g_X3_worthAround_182 n (g_X3_worthAround_60 n fu) x1 x2 x4 x6 x7 x8 x9 x10 b_this b_o5))
def g_X3_worthAround_52 (n : Nat) (t0 : Int) (x1 : Int) (x2 : Int) (x4 : Int) (x6 : Int) (x7 : Int) (b_this : BX3) (b_o5 : BX3) : Option (Int) :=
  g_X3_worthAround_60 n n x1 x2 x4 x6 x7 t0 (0) (0) b_this b_o5
def g_X3_worthAround_32 (n : Nat) (t0 : Int) (x1 : Int) (x2 : Int) (x3 : Int) (x4 : Int) (x6 : Int) (b_this : BX3) (b_o5 : BX3) : Option (Int) :=
  (if (x3 = (-1)) then g_X3_worthAround_52 n (0) x1 x2 x4 x6 t0 b_this b_o5 else oR ((x2 - 1)) (oB (g_X3_kindBeside b_this x3 (x2 - 1) x2) (fun r_13 => g_X3_worthAround_52 n r_13 x1 x2 x4 x6 t0 b_this b_o5)))
def g_X3_worthAround_12 (n : Nat) (t0 : Int) (x1 : Int) (x2 : Int) (x3 : Int) (x4 : Int) (b_this : BX3) (b_o5 : BX3) : Option (Int) :=
  (if (x3 = (-1)) then g_X3_worthAround_32 n (0) x1 x2 x3 x4 t0 b_this b_o5 else oR ((x1 - 1)) (oB (g_X3_kindBeside b_this x3 (x1 - 1) x1) (fun r_15 => g_X3_worthAround_32 n r_15 x1 x2 x3 x4 t0 b_this b_o5)))
def g_X3_worthAround (n : Nat) (b_this : BX3) (x1 : Int) (x2 : Int) (x3 : Int) (x4 : Int) (b_o5 : BX3) : Option (Int) :=
  (if (x3 = (-1)) then g_X3_worthAround_12 n (0) x1 x2 x3 x4 b_this b_o5 else g_X3_worthAround_12 n (zShl 1 x3) x1 x2 x3 x4 b_this b_o5)
def g_X3_dearestRent_222 (n : Nat) (k27 : Int → Int → Int → Int → BX3 → BX3 → Option (Int)) (k55 : Int → Int → Int → Int → Int → BX3 → BX3 → Option (Int)) (x1 : Int) (x3 : Int) (x4 : Int) (x5 : Int) (x6 : Int) (b_this : BX3) (b_o2 : BX3) : Option (Int) :=
  oR ((x6 + 1)) (k55 x1 x3 x4 x5 (x6 + 1) b_this b_o2)
def g_X3_dearestRent_215 (n : Nat) (k27 : Int → Int → Int → Int → BX3 → BX3 → Option (Int)) (k55 : Int → Int → Int → Int → Int → BX3 → BX3 → Option (Int)) (x1 : Int) (x5 : Int) (x6 : Int) (x8 : Int) (x11 : Int) (b_this : BX3) (b_o2 : BX3) : Option (Int) :=
  g_X3_dearestRent_222 n k27 k55 x1 x11 x8 x5 x6 b_this b_o2
def g_X3_dearestRent_55 (n : Nat) (k27 : Int → Int → Int → Int → BX3 → BX3 → Option (Int)) : Nat → Int → Int → Int → Int → Int → BX3 → BX3 → Option (Int)
  | 0, _, _, _, _, _, _, _ => none
  | fu + 1, x1, x3, x4, x5, x6, b_this, b_o2 => (if (x1 < x6) then oR ((x5 + 1)) (k27 x1 x3 x4 (x5 + 1) b_this b_o2) else oB (g_X2_isInOneRow (pX3_street b_this) x5 x6) (fun r_1 => (if (r_1 = 0) then g_X3_dearestRent_222 n k27 (g_X3_dearestRent_55 n k27 fu) x1 x3 x4 x5 x6 b_this b_o2 else oB (g_X2_blockRent n (pX3_street b_this) x5 x6) (fun r_3 => qA x1 (24) (oR ((r_3 - ((pX2_rents (pX3_street b_this)) x1))) (oL (r_3 - ((pX2_rents (pX3_street b_this)) x1)) (fun y_6 => qA x5 (8) (oR ((((pX2_limits (pX3_street b_this)) x5) - y_6)) (oL (min (((pX2_limits (pX3_street b_this)) x5) - y_6) 999) (fun y_8 => oB (g_X2_coversFor n (pX3_street b_this) x5 x6) (fun r_9 => oR (((pX2_covers (pX3_street b_this)) - r_9)) (oL ((pX2_covers (pX3_street b_this)) - r_9) (fun y_11 => (if (y_8 < 1) then g_X3_dearestRent_222 n k27 (g_X3_dearestRent_55 n k27 fu) x1 x3 x4 x5 x6 b_this b_o2 else (if (0 ≤ y_11) then qA x5 (8) (oR ((x6 + ((pX2_fronts (pX3_street b_this)) x5))) (oL (x6 + ((pX2_fronts (pX3_street b_this)) x5)) (fun y_13 => oB (g_X3_worthAround n b_this x6 y_13 x5 y_11 b_o2) (fun r_14 => qD r_14 (16) (oR ((((r_14 / 16) + y_6) + y_8)) (oL (((r_14 / 16) + y_6) + y_8) (fun y_16 => (if (x3 < y_16) then g_X3_dearestRent_215 n k27 (g_X3_dearestRent_55 n k27 fu) x1 x5 x6 y_8 y_16 b_this b_o2 else (if (y_16 = x3) then (if (x4 ≤ y_8) then g_X3_dearestRent_222 n k27 (g_X3_dearestRent_55 n k27 fu) x1 x3 x4 x5 x6 b_this b_o2 else g_X3_dearestRent_215 n k27 (g_X3_dearestRent_55 n k27 fu) x1 x5 x6 y_8 y_16 b_this b_o2) else g_X3_dearestRent_222 n k27 (g_X3_dearestRent_55 n k27 fu) x1 x3 x4 x5 x6 b_this b_o2))))))))) else g_X3_dearestRent_222 n k27 (g_X3_dearestRent_55 n k27 fu) x1 x3 x4 x5 x6 b_this b_o2)))))))))))))))
def g_X3_dearestRent_27 (n : Nat) : Nat → Int → Int → Int → Int → BX3 → BX3 → Option (Int)
  | 0, _, _, _, _, _, _ => none
  | fu + 1, x1, x3, x4, x5, b_this, b_o2 => (if ((pX2_traders (pX3_street b_this)) ≤ x5) then some x4 else qA x5 (8) (oR (((x1 - ((pX2_fronts (pX3_street b_this)) x5)) + 1)) (oL ((x1 - ((pX2_fronts (pX3_street b_this)) x5)) + 1) (fun y_18 => g_X3_dearestRent_55 n (g_X3_dearestRent_27 n fu) n x1 x3 x4 x5 y_18 b_this b_o2))))
def g_X3_dearestRent (n : Nat) (b_this : BX3) (x1 : Int) (b_o2 : BX3) : Option (Int) :=
  oR ((x1 + 1)) (oB (g_X3_worthAround n b_this x1 (x1 + 1) (-1) (pX2_covers (pX3_street b_this)) b_o2) (fun r_19 => qD r_19 (16) (oR ((r_19 / 16)) (oL (r_19 / 16) (fun y_21 => g_X3_dearestRent_27 n n x1 y_21 (1) (0) b_this b_o2)))))
def g_X3_isBarred (b_this : BX3) (x1 : Int) (x2 : Int) : Option (Int) :=
  qA x2 (9) ((if ((zAnd (zShr ((pX3_barred b_this) x2) x1) 1) = 0) then some (0) else some (1)))
def g_X3_tryStart_133 (n : Nat) (k56 : Int → Int → Int → Int → Int → Int → BX3 → Option (BX3)) (x1 : Int) (x5 : Int) (x6 : Int) (x7 : Int) (x8 : Int) (x10 : Int) (b_this : BX3) : Option (BX3) :=
  oR ((x7 + (pX3_levels b_this))) (oL (x7 + (pX3_levels b_this)) (fun y_1 => oR ((x10 + 1)) (k56 x1 x5 x6 y_1 x8 (x10 + 1) b_this)))
def g_X3_tryStart_127 (n : Nat) (k56 : Int → Int → Int → Int → Int → Int → BX3 → Option (BX3)) (k82 : Int → Int → Int → Int → Int → Int → Int → BX3 → Option (BX3)) (x1 : Int) (x5 : Int) (x6 : Int) (x7 : Int) (x8 : Int) (x10 : Int) (x11 : Int) (b_this : BX3) : Option (BX3) :=
  oR ((x11 + 1)) (k82 x1 x5 x6 x7 x8 x10 (x11 + 1) b_this)
def g_X3_tryStart_82 (n : Nat) (k56 : Int → Int → Int → Int → Int → Int → BX3 → Option (BX3)) : Nat → Int → Int → Int → Int → Int → Int → Int → BX3 → Option (BX3)
  | 0, _, _, _, _, _, _, _, _ => none
  | fu + 1, x1, x5, x6, x7, x8, x10, x11, b_this => (if ((pX3_levels b_this) ≤ x11) then g_X3_tryStart_133 n k56 x1 x5 x6 x7 x8 x10 b_this else qA (x8 + x11) (pX3_tableN b_this) (oR ((x5 + ((pX3_table b_this) (x8 + x11)))) (oL (x5 + ((pX3_table b_this) (x8 + x11))) (fun y_3 => qA (x7 + x11) (pX3_tableN b_this) ((if (y_3 ≤ ((pX3_table b_this) (x7 + x11))) then g_X3_tryStart_127 n k56 (g_X3_tryStart_82 n k56 fu) x1 x5 x6 x7 x8 x10 x11 b_this else qA (x7 + x11) (pX3_tableN b_this) (oL (updZ (pX3_table b_this) (x7 + x11) y_3) (fun v_6 => g_X3_tryStart_127 n k56 (g_X3_tryStart_82 n k56 fu) x1 x5 x6 x7 x8 x10 x11 (sX3_table b_this v_6)))))))))
def g_X3_tryStart_56 (n : Nat) : Nat → Int → Int → Int → Int → Int → Int → BX3 → Option (BX3)
  | 0, _, _, _, _, _, _, _ => none
  | fu + 1, x1, x5, x6, x7, x8, x10, b_this => (if ((pX3_kinds b_this) ≤ x10) then some b_this else oB (g_X3_isBarred b_this x1 x10) (fun r_7 => (if (r_7 = 0) then g_X3_tryStart_82 n (g_X3_tryStart_56 n fu) n x1 x5 x6 x7 x8 x10 x6 b_this else g_X3_tryStart_133 n (g_X3_tryStart_56 n fu) x1 x5 x6 x7 x8 x10 b_this)))
def g_X3_tryStart (n : Nat) (b_this : BX3) (x1 : Int) (x2 : Int) (x3 : Int) : Option (BX3) :=
  oR (((x1 * 24) + x2)) (oL ((x1 * 24) + x2) (fun y_9 => qA y_9 (192) (oL ((pX3_worths b_this) y_9) (fun y_11 => qA y_9 (192) (oL ((pX3_needs b_this) y_9) (fun y_13 => oB (g_X3_cell b_this x2 x3 (0)) (fun r_14 => oB (g_X3_cellAfter b_this x1 x2 x3) (fun r_16 => oR ((r_16 - y_13)) (oL (r_16 - y_13) (fun y_18 => g_X3_tryStart_56 n n x1 y_11 y_13 r_14 y_18 (0) b_this))))))))))
def g_X3_fill_116 (n : Nat) (k85 : Int → Int → Int → BX3 → Option (BX3)) (x1 : Int) (x2 : Int) (x5 : Int) (b_this : BX3) : Option (BX3) :=
  oR ((x5 + 1)) (k85 x1 x2 (x5 + 1) b_this)
def g_X3_fill_85 (n : Nat) : Nat → Int → Int → Int → BX3 → Option (BX3)
  | 0, _, _, _, _ => none
  | fu + 1, x1, x2, x5, b_this => (if ((pX2_traders (pX3_street b_this)) ≤ x5) then some b_this else oB (g_X3_canCome b_this x5 x1 x2) (fun r_1 => (if (r_1 = 0) then g_X3_fill_116 n (g_X3_fill_85 n fu) x1 x2 x5 b_this else oB (g_X3_tryStart n b_this x5 x1 x2) (fun b_3 => g_X3_fill_116 n (g_X3_fill_85 n fu) x1 x2 x5 b_3))))
def g_X3_fill_34 (n : Nat) (k22 : Int → Int → Int → Int → Int → BX3 → Option (BX3)) : Nat → Int → Int → Int → Int → Int → Int → BX3 → Option (BX3)
  | 0, _, _, _, _, _, _, _ => none
  | fu + 1, x1, x2, x3, x4, x5, x6, b_this => (if ((pX3_levels b_this) ≤ x6) then oR ((x5 + 1)) (k22 x1 x2 x3 x4 (x5 + 1) b_this) else qA (x4 + x6) (pX3_tableN b_this) (qA ((x3 + (x5 * (pX3_levels b_this))) + x6) (pX3_tableN b_this) (oL (updZ (pX3_table b_this) ((x3 + (x5 * (pX3_levels b_this))) + x6) ((pX3_table b_this) (x4 + x6))) (fun v_7 => oR ((x6 + 1)) (g_X3_fill_34 n k22 fu x1 x2 x3 x4 x5 (x6 + 1) (sX3_table b_this v_7))))))
def g_X3_fill_22 (n : Nat) : Nat → Int → Int → Int → Int → Int → BX3 → Option (BX3)
  | 0, _, _, _, _, _, _ => none
  | fu + 1, x1, x2, x3, x4, x5, b_this => (if ((pX3_kinds b_this) ≤ x5) then g_X3_fill_85 n n x1 x2 (0) b_this else g_X3_fill_34 n (g_X3_fill_22 n fu) n x1 x2 x3 x4 x5 (0) b_this)
def g_X3_fill (n : Nat) (b_this : BX3) (x1 : Int) (x2 : Int) : Option (BX3) :=
  oB (g_X3_cell b_this x1 x2 (0)) (fun r_8 => oR ((x1 + 1)) (oB (g_X3_cell b_this (x1 + 1) x2 (0)) (fun r_10 => g_X3_fill_22 n n x1 x2 r_8 r_10 (0) b_this)))
def g_X3_firstChoice_114 (n : Nat) (k20 : Int → Int → Int → Int → Int → Int → BX3 → Option (Int)) (x1 : Int) (x2 : Int) (x3 : Int) (x4 : Int) (x5 : Int) (x6 : Int) (b_this : BX3) : Option (Int) :=
  oR ((x6 + 1)) (k20 x1 x2 x3 x4 x5 (x6 + 1) b_this)
def g_X3_firstChoice_20 (n : Nat) : Nat → Int → Int → Int → Int → Int → Int → BX3 → Option (Int)
  | 0, _, _, _, _, _, _, _ => none
  | fu + 1, x1, x2, x3, x4, x5, x6, b_this => (if ((pX2_traders (pX3_street b_this)) ≤ x6) then some (-1) else oR (((x6 * 24) + x1)) (oL ((x6 * 24) + x1) (fun y_1 => oB (g_X3_canCome b_this x6 x1 x2) (fun r_2 => (if (r_2 = 0) then g_X3_firstChoice_114 n (g_X3_firstChoice_20 n fu) x1 x2 x3 x4 x5 x6 b_this else oB (g_X3_isBarred b_this x6 x3) (fun r_4 => (if (r_4 = 0) then qA y_1 (192) ((if (x4 < ((pX3_needs b_this) y_1)) then g_X3_firstChoice_114 n (g_X3_firstChoice_20 n fu) x1 x2 x3 x4 x5 x6 b_this else qA y_1 (192) (oB (g_X3_cellAfter b_this x6 x1 x2) (fun r_8 => qA y_1 (192) (qA ((r_8 + x4) - ((pX3_needs b_this) y_1)) (pX3_tableN b_this) (oR ((((pX3_worths b_this) y_1) + ((pX3_table b_this) ((r_8 + x4) - ((pX3_needs b_this) y_1))))) ((if ((((pX3_worths b_this) y_1) + ((pX3_table b_this) ((r_8 + x4) - ((pX3_needs b_this) y_1)))) = x5) then some x6 else g_X3_firstChoice_114 n (g_X3_firstChoice_20 n fu) x1 x2 x3 x4 x5 x6 b_this)))))))) else g_X3_firstChoice_114 n (g_X3_firstChoice_20 n fu) x1 x2 x3 x4 x5 x6 b_this)))))))
def g_X3_firstChoice (n : Nat) (b_this : BX3) (x1 : Int) (x2 : Int) (x3 : Int) (x4 : Int) : Option (Int) :=
  oB (g_X3_cell b_this x1 x2 x3) (fun r_12 => qA (r_12 + x4) (pX3_tableN b_this) (oL ((pX3_table b_this) (r_12 + x4)) (fun y_15 => g_X3_firstChoice_20 n n x1 x2 x3 x4 y_15 (0) b_this)))
def g_X3_foesOf_38 (n : Nat) (k4 : Int → Int → Int → BX3 → Option (Int)) (x1 : Int) (x2 : Int) (x3 : Int) (b_this : BX3) : Option (Int) :=
  oR ((x3 + 1)) (k4 x1 x2 (x3 + 1) b_this)
def g_X3_foesOf_4 (n : Nat) : Nat → Int → Int → Int → BX3 → Option (Int)
  | 0, _, _, _, _ => none
  | fu + 1, x1, x2, x3, b_this => (if ((pX2_traders (pX3_street b_this)) ≤ x3) then some x2 else (if (x3 = x1) then g_X3_foesOf_38 n (g_X3_foesOf_4 n fu) x1 x2 x3 b_this else oB (g_X2_clashesWith (pX3_street b_this) x1 x3) (fun r_1 => (if (r_1 = 0) then g_X3_foesOf_38 n (g_X3_foesOf_4 n fu) x1 x2 x3 b_this else oL (zOr x2 (zShl 1 x3)) (fun y_3 => g_X3_foesOf_38 n (g_X3_foesOf_4 n fu) x1 y_3 x3 b_this)))))
def g_X3_foesOf (n : Nat) (b_this : BX3) (x1 : Int) : Option (Int) :=
  g_X3_foesOf_4 n n x1 (0) (0) b_this
def g_X3_incomeWithout (b_this : BX3) (x1 : Int) (x2 : Int) : Option (Int) :=
  oB (g_X3_cell b_this (0) x1 (0)) (fun r_1 => oB (g_X3_level b_this x2) (fun r_3 => qA (r_1 + r_3) (pX3_tableN b_this) (qD ((pX3_table b_this) (r_1 + r_3)) (16) (oR ((((pX3_table b_this) (r_1 + r_3)) / 16)) (some (((pX3_table b_this) (r_1 + r_3)) / 16))))))
def g_X3_makeRoom (b28 : Nat) (b_this : BX3) (x1 : Int) : Option (Nat × BX3) :=
  oR ((pX3_tableN b_this)) ((if (x1 ≤ (pX3_tableN b_this)) then some (0, b_this) else oR ((2 * (pX3_tableN b_this))) (oL (max x1 (min (2 * (pX3_tableN b_this)) 345600)) (fun y_1 => oG (¬ y_1 < 0) (oG (y_1 ≤ 134217728 ∧ y_1 ≤ (b28 : Int)) (some (0, (sX3_tableN (sX3_table b_this (fun _ => 0)) y_1))))))))
def g_X3_measureBlocks_171 (n : Nat) (k4 : Int → Int → BX3 → Option (BX3)) (k20 : Int → Int → Int → Int → BX3 → Option (BX3)) (t0 : Int) (t1 : Int) (x1 : Int) (x2 : Int) (x4 : Int) (b_this : BX3) : Option (BX3) :=
  oL (max t0 t1) (fun y_1 => oR ((x4 + 1)) (k20 x1 x2 y_1 (x4 + 1) b_this))
def g_X3_measureBlocks_104 (n : Nat) (k4 : Int → Int → BX3 → Option (BX3)) (k20 : Int → Int → Int → Int → BX3 → Option (BX3)) (t1 : Int) (t2 : Int) (x1 : Int) (x2 : Int) (x3 : Int) (x4 : Int) (x5 : Int) (x6 : Int) (b_this : BX3) : Option (BX3) :=
  qA t1 (192) (oL (updZ (pX3_worths b_this) t1 t2) (fun v_3 => oB (g_X2_coversFor n (pX3_street b_this) x2 x4) (fun r_4 => qA x5 (192) (oL (updZ (pX3_needs b_this) x5 r_4) (fun v_7 => qA x2 (8) (oR ((x4 + ((pX2_fronts (pX3_street b_this)) x2))) (oL (x4 + ((pX2_fronts (pX3_street b_this)) x2)) (fun y_9 => oR ((y_9 - 1)) (oB (g_X3_kindBeside (sX3_needs (sX3_worths b_this v_3) v_7) x2 (y_9 - 1) y_9) (fun r_10 => qA x5 (192) (oL (updZ (pX3_kindsBehind b_this) x5 r_10) (fun v_13 => (if (x6 = 0) then g_X3_measureBlocks_171 n k4 k20 x3 (0) x1 x2 x4 (sX3_kindsBehind (sX3_needs (sX3_worths b_this v_3) v_7) v_13) else qA x5 (192) (g_X3_measureBlocks_171 n k4 k20 x3 (v_7 x5) x1 x2 x4 (sX3_kindsBehind (sX3_needs (sX3_worths b_this v_3) v_7) v_13)))))))))))))))
def g_X3_measureBlocks_72 (n : Nat) (k4 : Int → Int → BX3 → Option (BX3)) (k20 : Int → Int → Int → Int → BX3 → Option (BX3)) (t0 : Int) (x1 : Int) (x2 : Int) (x3 : Int) (x4 : Int) (x5 : Int) (b_this : BX3) : Option (BX3) :=
  (if (t0 = 0) then g_X3_measureBlocks_104 n k4 k20 x5 (0) x1 x2 x3 x4 x5 t0 b_this else oB (g_X2_blockRent n (pX3_street b_this) x2 x4) (fun r_15 => oR (((r_15 * 16) + 1)) (g_X3_measureBlocks_104 n k4 k20 x5 ((r_15 * 16) + 1) x1 x2 x3 x4 x5 t0 b_this)))
def g_X3_measureBlocks_71 (n : Nat) (k4 : Int → Int → BX3 → Option (BX3)) (k20 : Int → Int → Int → Int → BX3 → Option (BX3)) (x1 : Int) (x2 : Int) (x3 : Int) (x4 : Int) (x5 : Int) (b_this : BX3) : Option (BX3) :=
  g_X3_measureBlocks_72 n k4 k20 (0) x1 x2 x3 x4 x5 b_this
def g_X3_measureBlocks_20 (n : Nat) (k4 : Int → Int → BX3 → Option (BX3)) : Nat → Int → Int → Int → Int → BX3 → Option (BX3)
  | 0, _, _, _, _, _ => none
  | fu + 1, x1, x2, x3, x4, b_this => (if ((pX2_pitches (pX3_street b_this)) ≤ x4) then oR ((x1 + x3)) (oL (x1 + x3) (fun y_17 => oR ((x2 + 1)) (k4 y_17 (x2 + 1) b_this))) else oR (((x2 * 24) + x4)) (oL ((x2 * 24) + x4) (fun y_18 => oB (g_X2_isInOneRow (pX3_street b_this) x2 x4) (fun r_19 => (if (r_19 = 0) then g_X3_measureBlocks_71 n k4 (g_X3_measureBlocks_20 n k4 fu) x1 x2 x3 x4 y_18 b_this else oB (g_X2_affords n (pX3_street b_this) x2 x4) (fun r_21 => (if (r_21 = 0) then g_X3_measureBlocks_71 n k4 (g_X3_measureBlocks_20 n k4 fu) x1 x2 x3 x4 y_18 b_this else g_X3_measureBlocks_72 n k4 (g_X3_measureBlocks_20 n k4 fu) (1) x1 x2 x3 x4 y_18 b_this)))))))
def g_X3_measureBlocks_4 (n : Nat) : Nat → Int → Int → BX3 → Option (BX3)
  | 0, _, _, _ => none
  | fu + 1, x1, x2, b_this => (if ((pX2_traders (pX3_street b_this)) ≤ x2) then oR (((pX2_covers (pX3_street b_this)) + 1)) (oR (((min ((pX2_covers (pX3_street b_this)) + 1) x1) + 1)) (oL ((min ((pX2_covers (pX3_street b_this)) + 1) x1) + 1) (fun y_23 => some (sX3_levels b_this y_23)))) else g_X3_measureBlocks_20 n (g_X3_measureBlocks_4 n fu) n x1 x2 (0) (0) b_this)
def g_X3_measureBlocks (n : Nat) (b_this : BX3) : Option (BX3) :=
  g_X3_measureBlocks_4 n n (0) (0) b_this
def g_X3_sortKinds_82 (n : Nat) (k14 : Int → BX3 → Option (BX3)) (x1 : Int) (x3 : Int) (b_this : BX3) : Option (BX3) :=
  qA x1 (8) (oL (updZ (pX3_kindOf b_this) x1 x3) (fun v_2 => oR ((x1 + 1)) (k14 (x1 + 1) (sX3_kindOf b_this v_2))))
def g_X3_sortKinds_57 (n : Nat) (k14 : Int → BX3 → Option (BX3)) (x1 : Int) (x2 : Int) (x3 : Int) (b_this : BX3) : Option (BX3) :=
  (if (x3 = (pX3_kinds b_this)) then qA x3 (9) (oL (updZ (pX3_barred b_this) x3 x2) (fun v_4 => oR (((pX3_kinds b_this) + 1)) (oL ((pX3_kinds b_this) + 1) (fun y_5 => g_X3_sortKinds_82 n k14 x1 x3 (sX3_barred (sX3_kinds b_this y_5) v_4))))) else g_X3_sortKinds_82 n k14 x1 x3 b_this)
def g_X3_sortKinds_33 (n : Nat) (k14 : Int → BX3 → Option (BX3)) : Nat → Int → Int → Int → BX3 → Option (BX3)
  | 0, _, _, _, _ => none
  | fu + 1, x1, x2, x3, b_this => (if ((pX3_kinds b_this) ≤ x3) then g_X3_sortKinds_57 n k14 x1 x2 x3 b_this else qA x3 (9) ((if (((pX3_barred b_this) x3) = x2) then g_X3_sortKinds_57 n k14 x1 x2 x3 b_this else oR ((x3 + 1)) (g_X3_sortKinds_33 n k14 fu x1 x2 (x3 + 1) b_this))))
def g_X3_sortKinds_14 (n : Nat) : Nat → Int → BX3 → Option (BX3)
  | 0, _, _ => none
  | fu + 1, x1, b_this => (if ((pX2_traders (pX3_street b_this)) ≤ x1) then some b_this else oB (g_X3_foesOf n b_this x1) (fun r_7 => g_X3_sortKinds_33 n (g_X3_sortKinds_14 n fu) n x1 r_7 (0) b_this))
def g_X3_sortKinds (n : Nat) (b_this : BX3) : Option (BX3) :=
  qA (0) (9) (oL (updZ (pX3_barred b_this) (0) (0)) (fun v_10 => g_X3_sortKinds_14 n n (0) (sX3_barred (sX3_kinds b_this 1) v_10)))
def g_X3_plan_123 (n : Nat) (b54_b28 : Nat) (k116 : Int → BX3 → BX2 → Option (Nat × BX3)) : Nat → Int → Int → BX3 → BX2 → Option (Nat × BX3)
  | 0, _, _, _, _ => none
  | fu + 1, x3, x4, b_this, b_o1 => (if ((pX3_sets b_this) ≤ x4) then oR ((x3 + (-1))) (k116 (x3 + (-1)) b_this b_o1) else oB (g_X3_fill n b_this x3 x4) (fun b_2 => oR ((x4 + 1)) (g_X3_plan_123 n b54_b28 k116 fu x3 (x4 + 1) b_2 b_o1)))
def g_X3_plan_116 (n : Nat) (b54_b28 : Nat) : Nat → Int → BX3 → BX2 → Option (Nat × BX3)
  | 0, _, _, _ => none
  | fu + 1, x3, b_this, b_o1 => (if (x3 < 0) then some (0, b_this) else g_X3_plan_123 n b54_b28 (g_X3_plan_116 n b54_b28 fu) n x3 (0) b_this b_o1)
def g_X3_plan_73 (n : Nat) (b54_b28 : Nat) : Nat → Int → Int → BX3 → BX2 → Option (Nat × BX3)
  | 0, _, _, _, _ => none
  | fu + 1, x2, x3, b_this, b_o1 => oR ((x2 + (((pX3_sets b_this) * (pX3_kinds b_this)) * (pX3_levels b_this)))) ((if ((x2 + (((pX3_sets b_this) * (pX3_kinds b_this)) * (pX3_levels b_this))) ≤ x3) then oR (((pX2_pitches (pX3_street b_this)) - 1)) (oL ((pX2_pitches (pX3_street b_this)) - 1) (fun y_3 => g_X3_plan_116 n b54_b28 n y_3 b_this b_o1)) else qA x3 (pX3_tableN b_this) (oL (updZ (pX3_table b_this) x3 (0)) (fun v_5 => oR ((x3 + 1)) (g_X3_plan_73 n b54_b28 fu x2 (x3 + 1) (sX3_table b_this v_5) b_o1)))))
def g_X3_plan (n : Nat) (b54_b28 : Nat) (b_this : BX3) (b_o1 : BX2) : Option (Nat × BX3) :=
  oB (g_X2_copyFrom n (pX3_street b_this) b_o1) (fun b_42 => oL (zShl 1 (pX2_traders b_42)) (fun y_21 => oB (g_X3_sortKinds n (sX3_sets (sX3_street b_this b_42) y_21)) (fun b_57 => oB (g_X3_measureBlocks n b_57) (fun b_98 => oR ((((((pX2_pitches (pX3_street b_98)) + 1) * (pX3_sets b_98)) * (pX3_kinds b_98)) * (pX3_levels b_98))) (oB2 (g_X3_makeRoom b54_b28 b_98 (((((pX2_pitches (pX3_street b_98)) + 1) * (pX3_sets b_98)) * (pX3_kinds b_98)) * (pX3_levels b_98))) (fun cd_31 b_131 => (if cd_31 = 0 then oB (g_X3_cell b_131 (pX2_pitches (pX3_street b_131)) (0) (0)) (fun r_36 => g_X3_plan_73 n b54_b28 n r_36 r_36 b_131 b_o1) else some (cd_31, b_131))))))))
def g_X3_seatBest_128 (n : Nat) (k23 : Int → Int → Int → Int → Int → BX3 → BX2 → Option (BX2)) (x2 : Int) (x3 : Int) (x4 : Int) (x5 : Int) (x6 : Int) (b_this : BX3) (b_o1 : BX2) : Option (BX2) :=
  oR ((x6 + 1)) (k23 x2 x3 x4 x5 (x6 + 1) b_this b_o1)
def g_X3_seatBest_23 (n : Nat) : Nat → Int → Int → Int → Int → Int → BX3 → BX2 → Option (BX2)
  | 0, _, _, _, _, _, _, _ => none
  | fu + 1, x2, x3, x4, x5, x6, b_this, b_o1 => (if ((pX2_pitches (pX3_street b_this)) ≤ x6) then some b_o1 else (if (x5 ≤ x6) then oB (g_X3_firstChoice n b_this x6 x2 x3 x4) (fun r_1 => (if (r_1 = (-1)) then g_X3_seatBest_128 n (g_X3_seatBest_23 n fu) x2 (0) x4 x5 x6 b_this b_o1 else oR (((r_1 * 24) + x6)) (oL ((r_1 * 24) + x6) (fun y_3 => oB (g_X2_seat n b_o1 r_1 x6) (fun b_4 => oL (zOr x2 (zShl 1 r_1)) (fun y_8 => qA y_3 (192) (oR ((x4 - ((pX3_needs b_this) y_3))) (oL (x4 - ((pX3_needs b_this) y_3)) (fun y_10 => qA y_3 (192) (oL ((pX3_kindsBehind b_this) y_3) (fun y_12 => qA r_1 (8) (oR ((x6 + ((pX2_fronts (pX3_street b_this)) r_1))) (oL (x6 + ((pX2_fronts (pX3_street b_this)) r_1)) (fun y_14 => g_X3_seatBest_128 n (g_X3_seatBest_23 n fu) y_8 y_12 y_10 y_14 x6 b_this b_4)))))))))))))) else g_X3_seatBest_128 n (g_X3_seatBest_23 n fu) x2 x3 x4 x5 x6 b_this b_o1))
def g_X3_seatBest (n : Nat) (b_this : BX3) (b_o1 : BX2) : Option (BX2) :=
  oB (g_X3_level b_this (pX2_covers (pX3_street b_this))) (fun r_15 => g_X3_seatBest_23 n n (0) (0) r_15 (0) (0) b_this b_o1)
def g_X4_fail (b_this : BX4) (x1 : Int) (x2 : Int) : Option (BX4) :=
  (if ((pX4_error b_this) = 0) then some (sX4_errorAt (sX4_error b_this x1) x2) else some b_this)
def g_X4_skipSpaces_0 (n : Nat) : Nat → BX4 → Option (BX4)
  | 0, _ => none
  | fu + 1, b_this => (if ((pX4_length b_this) ≤ (pX4_position b_this)) then some b_this else qA (pX4_position b_this) (600) ((if (((pX4_text b_this) (pX4_position b_this)) = 32) then oR (((pX4_position b_this) + 1)) (oL ((pX4_position b_this) + 1) (fun y_2 => g_X4_skipSpaces_0 n fu (sX4_position b_this y_2))) else some b_this)))
def g_X4_skipSpaces (n : Nat) (b_this : BX4) : Option (BX4) :=
  g_X4_skipSpaces_0 n n b_this
def g_X4_isDigit (b_this : BX4) (x1 : Int) : Option (Int) :=
  (if ((pX4_length b_this) ≤ x1) then some (0) else qA x1 (600) ((if (((pX4_text b_this) x1) < 48) then some (0) else qA x1 (600) ((if (57 < ((pX4_text b_this) x1)) then some (0) else some (1))))))
def g_X4_isAtDigit (n : Nat) (b_this : BX4) : Option (Int × BX4) :=
  oB (g_X4_skipSpaces n b_this) (fun b_1 => (if ((pX4_error b_1) = 0) then oB (g_X4_isDigit b_1 (pX4_position b_1)) (fun r_3 => (if (r_3 = 0) then some (0, b_1) else some (1, b_1))) else some (0, b_1)))
def g_X4_isLetter (b_this : BX4) (x1 : Int) : Option (Int) :=
  (if ((pX4_length b_this) ≤ x1) then some (0) else qA x1 (600) ((if (((pX4_text b_this) x1) < 97) then some (0) else qA x1 (600) ((if (122 < ((pX4_text b_this) x1)) then some (0) else some (1))))))
def g_X4_readSemicolon_49 (n : Nat) (b_this : BX4) : Option (BX4) :=
  oB (g_X4_fail b_this (-2) (pX4_position b_this)) (fun b_1 => some b_1)
def g_X4_readSemicolon (n : Nat) (b_this : BX4) : Option (BX4) :=
  oB (g_X4_skipSpaces n b_this) (fun b_9 => (if ((pX4_error b_9) = 0) then (if ((pX4_length b_9) ≤ (pX4_position b_9)) then g_X4_readSemicolon_49 n b_9 else qA (pX4_position b_9) (600) ((if (((pX4_text b_9) (pX4_position b_9)) = 59) then oR (((pX4_position b_9) + 1)) (oL ((pX4_position b_9) + 1) (fun y_7 => some (sX4_position b_9 y_7))) else g_X4_readSemicolon_49 n b_9))) else g_X4_readSemicolon_49 n b_9))
def g_X4_takesWord_46 (n : Nat) : Nat → Nat → Int → Int → BX4 → Option (Int × BX4)
  | 0, _, _, _, _ => none
  | fu + 1, x1, x2, x3, b_this => (if (x2 ≤ x3) then oR (((pX4_position b_this) + x2)) (oL ((pX4_position b_this) + x2) (fun y_1 => some (1, (sX4_position b_this y_1)))) else qA ((pX4_position b_this) + x3) (600) (oG (x1 < jsN) (qA x3 ((jsLen.getD x1 0 : Nat) : Int) ((if (((pX4_text b_this) ((pX4_position b_this) + x3)) = ((jsCh x1 (Int.toNat x3)).toInt)) then oR ((x3 + 1)) (g_X4_takesWord_46 n fu x1 x2 (x3 + 1) b_this) else some (0, b_this))))))
def g_X4_takesWord (n : Nat) (b_this : BX4) (x1 : Nat) : Option (Int × BX4) :=
  oB (g_X4_skipSpaces n b_this) (fun b_6 => oG (x1 < jsN) (oR (((jsLen.getD x1 0 : Nat) : Int)) (oL ((jsLen.getD x1 0 : Nat) : Int) (fun y_11 => (if ((pX4_error b_6) = 0) then oR (((pX4_position b_6) + y_11)) ((if ((pX4_length b_6) < ((pX4_position b_6) + y_11)) then some (0, b_6) else oB (g_X4_isLetter b_6 ((pX4_position b_6) + y_11)) (fun r_12 => (if (r_12 = 0) then g_X4_takesWord_46 n n x1 y_11 (0) b_6 else some (0, b_6))))) else some (0, b_6))))))
def g_X5_isOutside_10 : Option (Int) :=
  some (1)
def g_X5_isOutside (x0 : Int) (x1 : Int) (x2 : Int) : Option (Int) :=
  (if (x0 < x1) then g_X5_isOutside_10 else (if (x0 ≤ x2) then some (0) else g_X5_isOutside_10))
def g_X4_readNumber_88 (n : Nat) (x1 : Int) (x2 : Int) (x3 : Int) (x4 : Int) (b_this : BX4) : Option (Int × BX4) :=
  oB (g_X5_isOutside x4 x1 x2) (fun r_1 => (if (r_1 = 0) then some (x4, b_this) else oB (g_X4_fail b_this (-3) x3) (fun b_2 => some (0, b_2))))
def g_X4_readNumber_27 (n : Nat) : Nat → Int → Int → Int → Int → BX4 → Option (Int × BX4)
  | 0, _, _, _, _, _ => none
  | fu + 1, x1, x2, x3, x4, b_this => (if ((pX4_length b_this) ≤ (pX4_position b_this)) then g_X4_readNumber_88 n x1 x2 x3 x4 b_this else oB (g_X4_isDigit b_this (pX4_position b_this)) (fun r_6 => (if (r_6 = 0) then g_X4_readNumber_88 n x1 x2 x3 x4 b_this else qA (pX4_position b_this) (600) (oR ((((x4 * 10) + ((pX4_text b_this) (pX4_position b_this))) - 48)) (oL (min (((x4 * 10) + ((pX4_text b_this) (pX4_position b_this))) - 48) 10000) (fun y_9 => oR (((pX4_position b_this) + 1)) (oL ((pX4_position b_this) + 1) (fun y_10 => g_X4_readNumber_27 n fu x1 x2 x3 y_9 (sX4_position b_this y_10)))))))))
def g_X4_readNumber (n : Nat) (b_this : BX4) (x1 : Int) (x2 : Int) : Option (Int × BX4) :=
  oB2 (g_X4_isAtDigit n b_this) (fun r_11 b_14 => (if (r_11 = 0) then oB (g_X4_fail b_14 (-2) (pX4_position b_14)) (fun b_26 => some (0, b_26)) else g_X4_readNumber_27 n n x1 x2 (pX4_position b_14) (0) b_14))
def g_X4_readClash (n : Nat) (b_this : BX4) (b_o1 : BX2) : Option (BX4 × BX2) :=
  oB2 (g_X4_readNumber n b_this (0) (7)) (fun r_1 b_1 => oB2 (g_X4_readNumber n b_1 (0) (7)) (fun r_6 b_11 => (if ((pX4_error b_11) = 0) then oB (g_X2_putClash b_o1 r_1 r_6 (1)) (fun b_21 => some (b_11, b_21)) else some (b_11, b_o1))))
def g_X4_readWord (n : Nat) (b_this : BX4) (x1 : Nat) : Option (BX4) :=
  oB2 (g_X4_takesWord n b_this x1) (fun r_1 b_1 => (if (r_1 = 0) then oB (g_X4_fail b_1 (-2) (pX4_position b_1)) (fun b_13 => some b_13) else some b_1))
def g_X4_readTrader_16 (n : Nat) (b_this : BX4) (b_o1 : BX2) : Option (BX4 × BX2) :=
  oB2 (g_X4_readNumber n b_this (0) (7)) (fun r_1 b_1 => oB (g_X4_readWord n b_1 5) (fun b_11 => oB2 (g_X4_readNumber n b_11 (1) (3)) (fun r_10 b_20 => oB (g_X4_readWord n b_20 6) (fun b_30 => oB2 (g_X4_readNumber n b_30 (1) (9999)) (fun r_19 b_39 => oB2 (g_X4_takesWord n b_39 7) (fun r_24 b_49 => (if ((pX4_error b_49) = 0) then oB (g_X2_enrol b_o1 r_1 r_10 r_19 r_24) (fun b_61 => some (b_49, b_61)) else some (b_49, b_o1))))))))
def g_X4_readTrader (n : Nat) (b_this : BX4) (b_o1 : BX2) (x2 : Int) : Option (BX4 × BX2) :=
  (if ((pX2_traders b_o1) < 8) then g_X4_readTrader_16 n b_this b_o1 else oB (g_X4_fail b_this (-4) x2) (fun b_76 => g_X4_readTrader_16 n b_76 b_o1))
def g_X4_readPitch_41 (n : Nat) (x4 : Int) (b_this : BX4) (b_o1 : BX2) : Option (BX4 × BX2) :=
  oB2 (g_X4_takesWord n b_this 4) (fun r_1 b_1 => (if ((pX4_error b_1) = 0) then oB (g_X2_addPitch b_o1 (pX4_rowsRead b_1) x4 r_1) (fun b_14 => some (b_1, b_14)) else some (b_1, b_o1)))
def g_X4_readPitch_34 (n : Nat) (x3 : Int) (x4 : Int) (b_this : BX4) (b_o1 : BX2) : Option (BX4 × BX2) :=
  oB (g_X4_fail b_this (-4) x3) (fun b_29 => g_X4_readPitch_41 n x4 b_29 b_o1)
def g_X4_readPitch (n : Nat) (b_this : BX4) (b_o1 : BX2) (x2 : Int) : Option (BX4 × BX2) :=
  oB (g_X4_skipSpaces n b_this) (fun b_40 => oB2 (g_X4_readNumber n b_40 (1) (999)) (fun r_14 b_52 => (if (12 ≤ x2) then g_X4_readPitch_34 n (pX4_position b_40) r_14 b_52 b_o1 else (if ((pX2_pitches b_o1) < 24) then g_X4_readPitch_41 n r_14 b_52 b_o1 else g_X4_readPitch_34 n (pX4_position b_40) r_14 b_52 b_o1))))
def g_X4_readRow_49 (n : Nat) (b_this : BX4) (b_o1 : BX2) : Option (BX4 × BX2) :=
  oR (((pX4_rowsRead b_this) + 1)) (oL ((pX4_rowsRead b_this) + 1) (fun y_1 => some ((sX4_rowsRead b_this y_1), b_o1)))
def g_X4_readRow_24 (n : Nat) : Nat → Int → BX4 → BX2 → Option (BX4 × BX2)
  | 0, _, _, _ => none
  | fu + 1, x3, b_this, b_o1 => (if (12 < x3) then g_X4_readRow_49 n b_this b_o1 else oB2 (g_X4_isAtDigit n b_this) (fun r_2 b_2 => (if (r_2 = 0) then g_X4_readRow_49 n b_2 b_o1 else oB2 (g_X4_readPitch n b_2 b_o1 x3) (fun b_15 b_16 => oR ((x3 + 1)) (g_X4_readRow_24 n fu (x3 + 1) b_15 b_16)))))
def g_X4_readRow (n : Nat) (b_this : BX4) (b_o1 : BX2) (x2 : Int) : Option (BX4 × BX2) :=
  (if ((pX4_rowsRead b_this) < 4) then oB2 (g_X4_readPitch n b_this b_o1 (0)) (fun b_41 b_42 => g_X4_readRow_24 n n (1) b_41 b_42) else oB (g_X4_fail b_this (-4) x2) (fun b_66 => some (b_66, b_o1)))
def g_X4_readStatement_87 (n : Nat) (b_this : BX4) (b_o1 : BX2) : Option (BX4 × BX2) :=
  oB (g_X4_readSemicolon n b_this) (fun b_1 => some (b_1, b_o1))
def g_X4_readStatement (n : Nat) (b_this : BX4) (b_o1 : BX2) : Option (BX4 × BX2) :=
  oB2 (g_X4_takesWord n b_this 0) (fun r_5 b_11 => (if (r_5 = 0) then oB2 (g_X4_takesWord n b_11 1) (fun r_8 b_24 => (if (r_8 = 0) then oB2 (g_X4_takesWord n b_24 2) (fun r_11 b_37 => (if (r_11 = 0) then oB2 (g_X4_takesWord n b_37 3) (fun r_14 b_50 => (if (r_14 = 0) then oB (g_X4_fail b_50 (-2) (pX4_position b_this)) (fun b_63 => g_X4_readStatement_87 n b_63 b_o1) else oB2 (g_X4_readNumber n b_50 (0) (4)) (fun r_20 b_74 => g_X4_readStatement_87 n b_74 (sX2_covers b_o1 r_20)))) else oB2 (g_X4_readClash n b_37 b_o1) (fun b_85 b_86 => g_X4_readStatement_87 n b_85 b_86))) else oB2 (g_X4_readTrader n b_24 b_o1 (pX4_position b_this)) (fun b_120 b_121 => g_X4_readStatement_87 n b_120 b_121))) else oB2 (g_X4_readRow n b_11 b_o1 (pX4_position b_this)) (fun b_151 b_152 => g_X4_readStatement_87 n b_151 b_152)))
def g_X4_read_42 (n : Nat) : Nat → Int → BX4 → (Int → Int) → BX2 → Option (Int × BX4 × BX2)
  | 0, _, _, _, _ => none
  | fu + 1, x4, b_this, b_o1, b_o3 => (if (600 < x4) then some ((-2), b_this, b_o3) else oB (g_X4_skipSpaces n b_this) (fun b_1 => (if ((pX4_position b_1) < (pX4_length b_1)) then oB2 (g_X4_readStatement n b_1 b_o3) (fun b_12 b_13 => (if ((pX4_error b_12) = 0) then oR ((x4 + 1)) (g_X4_read_42 n fu (x4 + 1) b_12 b_o1 b_13) else some ((pX4_error b_12), b_12, b_13))) else some (x4, b_1, b_o3))))
def g_X4_read (n : Nat) (b_this : BX4) (b_o1 : (Int → Int)) (x2 : Int) (b_o3 : BX2) : Option (Int × BX4 × BX2) :=
  oL (min x2 600) (fun y_19 => oB (g_X2_wipe n b_o3) (fun b_39 => g_X4_read_42 n n (0) (sX4_errorAt (sX4_error (sX4_rowsRead (sX4_position (sX4_length (sX4_text b_this b_o1) y_19) 0) 0) 0) (-1)) b_o1 b_39))
def g_X5_isNoTrade (x0 : Int) : Option (Int) :=
  oB (g_X5_isOutside x0 (0) (7)) (fun r_1 => oG (zNb r_1 = r_1) (some r_1))
def g_X5_addTrader_27 (n : Nat) (b_this : BX5) : Option (Nat × Int × BX5) :=
  some (2, 0, b_this)
def g_X5_addTrader (n : Nat) (b_this : BX5) (x1 : Int) (x2 : Int) (x3 : Int) (x4 : Int) : Option (Nat × Int × BX5) :=
  oB (g_X5_isNoTrade x1) (fun r_1 => (if (r_1 = 0) then oB (g_X5_isOutside x2 (1) (3)) (fun r_3 => (if (r_3 = 0) then oB (g_X5_isOutside x3 (1) (9999)) (fun r_5 => (if (r_5 = 0) then (if ((pX2_traders (pX5_market b_this)) < 8) then oB (g_X0_remember n (pX5_history b_this) (pX5_market b_this)) (fun b_4 => oB (g_X2_enrol (pX5_market b_this) x1 x2 x3 x4) (fun b_21 => oR (((pX2_traders b_21) - 1)) (some (0, ((pX2_traders b_21) - 1), (sX5_planned (sX5_history (sX5_market b_this b_21) b_4) 0))))) else some (3, 0, b_this)) else g_X5_addTrader_27 n b_this)) else g_X5_addTrader_27 n b_this)) else g_X5_addTrader_27 n b_this))
def g_X5_appendFour_3 (n : Nat) : Nat → Int → Int → BX5 → Option (BX5)
  | 0, _, _, _ => none
  | fu + 1, x1, x2, b_this => (if (x2 < 0) then some b_this else (if (600 ≤ (pX5_textLength b_this)) then some b_this else qA (pX5_textLength b_this) (600) (oL (updZ (pX5_text b_this) (pX5_textLength b_this) (zAnd (zUshr x1 x2) 255)) (fun v_2 => oR (((pX5_textLength b_this) + 1)) (oL ((pX5_textLength b_this) + 1) (fun y_3 => oR ((x2 + (-8))) (g_X5_appendFour_3 n fu x1 (x2 + (-8)) (sX5_textLength (sX5_text b_this v_2) y_3))))))))
def g_X5_appendFour (n : Nat) (b_this : BX5) (x1 : Int) : Option (BX5) :=
  g_X5_appendFour_3 n n x1 (24) b_this
def g_X5_append (n : Nat) (b_this : BX5) (x1 : Int) (x2 : Int) (x3 : Int) (x4 : Int) (x5 : Int) : Option (Nat × Int × BX5) :=
  oR (((pX5_textLength b_this) + 20)) ((if (((pX5_textLength b_this) + 20) ≤ 600) then oB (g_X5_appendFour n b_this x1) (fun b_2 => oB (g_X5_appendFour n b_2 x2) (fun b_15 => oB (g_X5_appendFour n b_15 x3) (fun b_28 => oB (g_X5_appendFour n b_28 x4) (fun b_41 => oB (g_X5_appendFour n b_41 x5) (fun b_54 => some (0, (pX5_textLength b_54), b_54)))))) else some (3, 0, b_this)))
def g_X5_preparePlan (n : Nat) (b15_b54_b28 : Nat) (b_this : BX5) : Option (Nat × BX5) :=
  (if ((pX5_planned b_this) = 0) then oB2 (g_X3_plan n b15_b54_b28 (pX5_planner b_this) (pX5_market b_this)) (fun cd_1 b_1 => (if cd_1 = 0 then some (0, (sX5_planned (sX5_planner b_this b_1) 1)) else some (cd_1, (sX5_planner b_this b_1)))) else some (0, b_this))
def g_X5_bestIncome (n : Nat) (b1_b15_b54_b28 : Nat) (b_this : BX5) : Option (Nat × Int × BX5) :=
  oB2 (g_X5_preparePlan n b1_b15_b54_b28 b_this) (fun cd_1 b_1 => (if cd_1 = 0 then oB (g_X3_incomeWithout (pX5_planner b_1) (0) (pX2_covers (pX5_market b_1))) (fun r_29 => some (0, r_29, b_1)) else some (cd_1, 0, b_1)))
def g_X5_requirePitch (b_this : BX5) (x1 : Int) : Option (Nat) :=
  oB (g_X2_hasPitch (pX5_market b_this) x1) (fun r_1 => (if (r_1 = 0) then some (1) else some (0)))
def g_X5_bestRent (n : Nat) (b6_b15_b54_b28 : Nat) (b35_b54_b28 : Nat) (b_this : BX5) (x1 : Int) : Option (Nat × Int × BX5) :=
  oB (g_X5_requirePitch b_this x1) (fun cd_1 => (if cd_1 = 0 then oB2 (g_X5_preparePlan n b6_b15_b54_b28 b_this) (fun cd_3 b_2 => (if cd_3 = 0 then oB (g_X2_copyFrom n (pX5_draft b_2) (pX5_market b_2)) (fun b_91 => oB (g_X2_turnAround n b_91) (fun b_106 => oB2 (g_X3_plan n b35_b54_b28 (pX5_trialPlanner b_2) b_106) (fun cd_53 b_129 => (if cd_53 = 0 then oB (g_X3_dearestRent n (pX5_planner b_2) x1 b_129) (fun r_80 => some (0, r_80, (sX5_trialPlanner (sX5_draft b_2 b_106) b_129))) else some (cd_53, 0, (sX5_trialPlanner (sX5_draft b_2 b_106) b_129)))))) else some (cd_3, 0, b_2))) else some (cd_1, 0, b_this)))
def g_X5_requireTrades_14 : Option (Nat) :=
  some (2)
def g_X5_requireTrades (x0 : Int) (x1 : Int) : Option (Nat) :=
  oB (g_X5_isNoTrade x0) (fun r_1 => (if (r_1 = 0) then oB (g_X5_isNoTrade x1) (fun r_3 => (if (r_3 = 0) then some (0) else g_X5_requireTrades_14)) else g_X5_requireTrades_14))
def g_X5_clash (b_this : BX5) (x1 : Int) (x2 : Int) : Option (Nat × Int) :=
  oB (g_X5_requireTrades x1 x2) (fun cd_1 => (if cd_1 = 0 then oB (g_X2_areClashing (pX5_market b_this) x1 x2) (fun r_3 => oG (zNb r_3 = r_3) (some (0, r_3))) else some (cd_1, 0)))
def g_X5_clashCost (n : Nat) (b20_b15_b54_b28 : Nat) (b52_b54_b28 : Nat) (b_this : BX5) (x1 : Int) (x2 : Int) : Option (Nat × Int × BX5) :=
  oB (g_X5_requireTrades x1 x2) (fun cd_1 => (if cd_1 = 0 then oB (g_X2_areClashing (pX5_market b_this) x1 x2) (fun r_3 => (if (r_3 = 0) then some (0, 0, b_this) else oB2 (g_X5_preparePlan n b20_b15_b54_b28 b_this) (fun cd_5 b_3 => (if cd_5 = 0 then oB (g_X2_copyFrom n (pX5_draft b_3) (pX5_market b_3)) (fun b_92 => oB (g_X2_putClash b_92 x1 x2 (0)) (fun b_107 => oB2 (g_X3_plan n b52_b54_b28 (pX5_trialPlanner b_3) b_107) (fun cd_50 b_135 => (if cd_50 = 0 then oB (g_X3_incomeWithout b_135 (0) (pX2_covers (pX5_market b_3))) (fun r_77 => oB (g_X3_incomeWithout (pX5_planner b_3) (0) (pX2_covers (pX5_market b_3))) (fun r_79 => oR ((r_77 - r_79)) (some (0, (r_77 - r_79), (sX5_trialPlanner (sX5_draft b_3 b_107) b_135))))) else some (cd_50, 0, (sX5_trialPlanner (sX5_draft b_3 b_107) b_135)))))) else some (cd_5, 0, b_3))))) else some (cd_1, 0, b_this)))
def g_X5_clear (n : Nat) (b_this : BX5) : Option (Int × BX5) :=
  oB (g_X0_remember n (pX5_history b_this) (pX5_market b_this)) (fun b_1 => oB (g_X2_countSeated n (pX5_market b_this)) (fun r_18 => oB (g_X2_unseatAll n (pX5_market b_this)) (fun b_19 => some (r_18, (sX5_history (sX5_market b_this b_19) b_1)))))
def g_X5_requireTrader (b_this : BX5) (x1 : Int) : Option (Nat) :=
  oB (g_X2_hasTrader (pX5_market b_this) x1) (fun r_1 => (if (r_1 = 0) then some (1) else some (0)))
def g_X5_contribution (n : Nat) (b6_b15_b54_b28 : Nat) (b_this : BX5) (x1 : Int) : Option (Nat × Int × BX5) :=
  oB (g_X5_requireTrader b_this x1) (fun cd_1 => (if cd_1 = 0 then oB2 (g_X5_preparePlan n b6_b15_b54_b28 b_this) (fun cd_3 b_2 => (if cd_3 = 0 then oB (g_X3_incomeWithout (pX5_planner b_2) (0) (pX2_covers (pX5_market b_2))) (fun r_31 => oB (g_X3_incomeWithout (pX5_planner b_2) (zShl 1 x1) (pX2_covers (pX5_market b_2))) (fun r_33 => oR ((r_31 - r_33)) (some (0, (r_31 - r_33), b_2)))) else some (cd_3, 0, b_2))) else some (cd_1, 0, b_this)))
def g_X5_coverValue (n : Nat) (b1_b15_b54_b28 : Nat) (b_this : BX5) : Option (Nat × Int × BX5) :=
  oB2 (g_X5_preparePlan n b1_b15_b54_b28 b_this) (fun cd_1 b_1 => (if cd_1 = 0 then oR (((pX2_covers (pX5_market b_1)) + 1)) (oB (g_X3_incomeWithout (pX5_planner b_1) (0) ((pX2_covers (pX5_market b_1)) + 1)) (fun r_29 => oB (g_X3_incomeWithout (pX5_planner b_1) (0) (pX2_covers (pX5_market b_1))) (fun r_31 => oR ((r_29 - r_31)) (some (0, (r_29 - r_31), b_1))))) else some (cd_1, 0, b_1)))
def g_X5_coversUsed (b_this : BX5) : Option (Int) :=
  some (pX2_coversBusy (pX5_market b_this))
def g_X5_draftExchange (n : Nat) (b_this : BX5) (x1 : Int) (x2 : Int) : Option (Int × BX5) :=
  oB (g_X2_copyFrom n (pX5_draft b_this) (pX5_market b_this)) (fun b_1 => oB (g_X2_unseat n b_1 x1) (fun b_16 => oB (g_X2_unseat n b_16 x2) (fun b_42 => qA x2 (8) (oB2 (g_X2_seatIfPossible n b_42 x1 ((pX2_starts (pX5_market b_this)) x2)) (fun r_25 b_69 => (if (r_25 = 0) then some (0, (sX5_draft b_this b_69)) else qA x1 (8) (oB2 (g_X2_seatIfPossible n b_69 x2 ((pX2_starts (pX5_market b_this)) x1)) (fun r_31 b_97 => (if (r_31 = 0) then some (0, (sX5_draft b_this b_97)) else some (1, (sX5_draft b_this b_97)))))))))))
def g_X5_errorPosition (b_this : BX5) : Option (Int) :=
  some (pX5_errorAt b_this)
def g_X5_expectedIncome_110 (n : Nat) (k27 : UInt64 → UInt64 → Int → BX5 → Option (Nat × UInt64)) (x1 : UInt64) (x3 : UInt64) (x5 : Int) (b_this : BX5) : Option (Nat × UInt64) :=
  oR ((x5 + 1)) (k27 x1 x3 (x5 + 1) b_this)
def g_X5_expectedIncome_108 (n : Nat) (k27 : UInt64 → UInt64 → Int → BX5 → Option (Nat × UInt64)) (t0 : UInt64) (t1 : UInt64) (x1 : UInt64) (x5 : Int) (b_this : BX5) : Option (Nat × UInt64) :=
  oN (FP.dadd t0 t1) (fun z_1 => g_X5_expectedIncome_110 n k27 x1 z_1 x5 b_this)
def g_X5_expectedIncome_27 (n : Nat) : Nat → UInt64 → UInt64 → Int → BX5 → Option (Nat × UInt64)
  | 0, _, _, _, _ => none
  | fu + 1, x1, x3, x5, b_this => (if ((pX2_traders (pX5_market b_this)) ≤ x5) then some (0, x3) else oB (g_X2_isSeated (pX5_market b_this) x5) (fun r_3 => (if (r_3 = 0) then g_X5_expectedIncome_110 n (g_X5_expectedIncome_27 n fu) x1 x3 x5 b_this else qA x5 (8) (oB (g_X2_blockRent n (pX5_market b_this) x5 ((pX2_starts (pX5_market b_this)) x5)) (fun r_6 => oB (g_X2_isSheltered n (pX5_market b_this) x5) (fun r_8 => (if (r_8 = 0) then oN (FP.dsub FP.dconst1 x1) (fun z_10 => oN (FP.dmul (FP.i2d (Int32.ofInt r_6)) z_10) (fun z_12 => oN (FP.dmul (FP.i2d (Int32.ofInt r_6)) (4602678819172646912 : UInt64)) (fun z_14 => oN (FP.dmul z_14 x1) (fun z_16 => oN (FP.dadd z_12 z_16) (fun z_18 => g_X5_expectedIncome_108 n (g_X5_expectedIncome_27 n fu) x3 z_18 x1 x5 b_this))))) else g_X5_expectedIncome_108 n (g_X5_expectedIncome_27 n fu) x3 (FP.i2d (Int32.ofInt r_6)) x1 x5 b_this)))))))
def g_X5_expectedIncome_12 (n : Nat) (b_this : BX5) : Option (Nat × UInt64) :=
  some (2, 0)
def g_X5_expectedIncome (n : Nat) (b_this : BX5) (x1 : UInt64) : Option (Nat × UInt64) :=
  (if (((dcL x1 FP.dconst0).toInt) < 0) then g_X5_expectedIncome_12 n b_this else (if (((dcG x1 FP.dconst1).toInt) ≤ 0) then g_X5_expectedIncome_27 n n x1 FP.dconst0 (0) b_this else g_X5_expectedIncome_12 n b_this))
def g_X5_readQueue_16 (n : Nat) : Nat → Int → Int → Int → BX5 → Option (Int × BX5)
  | 0, _, _, _, _ => none
  | fu + 1, x3, x4, x5, b_this => (if (x5 ≤ 0) then some (x4, b_this) else qD x5 (10) (oRJ ((x5 % 10)) (oR (((x5 % 10) - 1)) (oL ((x5 % 10) - 1) (fun y_1 => oB (g_X2_hasTrader (pX5_market b_this) y_1) (fun r_2 => (if (r_2 = 0) then some ((-1), b_this) else (if ((zAnd (zShr x3 y_1) 1) = 0) then (if (x4 < 8) then oL (zOr x3 (zShl 1 y_1)) (fun y_4 => qA x4 (8) (oL (updZ (pX5_queue b_this) x4 y_1) (fun v_6 => oRJ ((x5 / 10)) (oL (x5 / 10) (fun y_7 => oR ((x4 + 1)) (g_X5_readQueue_16 n fu y_4 (x4 + 1) y_7 (sX5_queue b_this v_6))))))) else some ((-1), b_this)) else some ((-1), b_this)))))))))
def g_X5_readQueue (n : Nat) (b_this : BX5) (x1 : Int) : Option (Int × BX5) :=
  (if (0 ≤ x1) then g_X5_readQueue_16 n n (0) (0) x1 b_this else some ((-1), b_this))
def g_X5_firstCome_43 (n : Nat) : Nat → Int → BX5 → Option (Nat × Int × BX5)
  | 0, _, _ => none
  | fu + 1, x4, b_this => (if (x4 < 0) then oB (g_X2_totalRent n (pX5_draft b_this)) (fun r_1 => some (0, r_1, b_this)) else qA x4 (8) (oB (g_X2_seatDearest n (pX5_draft b_this) ((pX5_queue b_this) x4)) (fun b_3 => oR ((x4 + (-1))) (g_X5_firstCome_43 n fu (x4 + (-1)) (sX5_draft b_this b_3)))))
def g_X5_firstCome (n : Nat) (b_this : BX5) (x1 : Int) : Option (Nat × Int × BX5) :=
  oB2 (g_X5_readQueue n b_this x1) (fun r_8 b_30 => (if (0 ≤ r_8) then oB (g_X2_copyFrom n (pX5_draft b_30) (pX5_market b_30)) (fun b_72 => oB (g_X2_unseatAll n b_72) (fun b_87 => oR ((r_8 - 1)) (oL (r_8 - 1) (fun y_30 => g_X5_firstCome_43 n n y_30 (sX5_draft b_30 b_87))))) else some (2, 0, b_30)))
def g_X5_frontage (b_this : BX5) (x1 : Int) : Option (Nat × Int) :=
  oB (g_X5_requireTrader b_this x1) (fun cd_1 => (if cd_1 = 0 then qA x1 (8) (some (0, ((pX2_fronts (pX5_market b_this)) x1))) else some (cd_1, 0)))
def g_X5_income (n : Nat) (b_this : BX5) : Option (Int) :=
  oB (g_X2_totalRent n (pX5_market b_this)) (fun r_1 => some r_1)
def g_X5_requireNewcomer (b_this : BX5) (x1 : Int) (x2 : Int) : Option (Nat) :=
  oB (g_X5_requireTrader b_this x1) (fun cd_1 => (if cd_1 = 0 then oB (g_X5_isOutside x2 (0) (2)) (fun r_3 => (if (r_3 = 0) then oB (g_X2_isSeated (pX5_market b_this) x1) (fun r_5 => (if (r_5 = 0) then some (0) else some (3))) else some (2))) else some cd_1))
def g_X5_insert (n : Nat) (b_this : BX5) (x1 : Int) (x2 : Int) : Option (Nat × Int × BX5) :=
  oB (g_X5_requireNewcomer b_this x1 x2) (fun cd_1 => (if cd_1 = 0 then oB (g_X1_search n (pX5_insertion b_this) (pX5_market b_this) x1 x2) (fun b_2 => (if (0 ≤ (pX1_mostIncome b_2)) then oB (g_X0_remember n (pX5_history b_this) (pX5_market b_this)) (fun b_36 => oB (g_X2_copyFrom n (pX5_market b_this) (pX1_found b_2)) (fun b_53 => some (0, (pX1_fewestMoved b_2), (sX5_insertion (sX5_history (sX5_market b_this b_53) b_36) b_2)))) else some (3, 0, (sX5_insertion b_this b_2)))) else some (cd_1, 0, b_this)))
def g_X5_insertionIncome (n : Nat) (b_this : BX5) (x1 : Int) (x2 : Int) : Option (Nat × Int × BX5) :=
  oB (g_X5_requireNewcomer b_this x1 x2) (fun cd_1 => (if cd_1 = 0 then oB (g_X1_search n (pX5_insertion b_this) (pX5_market b_this) x1 x2) (fun b_2 => some (0, (pX1_mostIncome b_2), (sX5_insertion b_this b_2))) else some (cd_1, 0, b_this)))
def g_X5_isRoofed (b_this : BX5) (x1 : Int) : Option (Nat × Int) :=
  oB (g_X5_requirePitch b_this x1) (fun cd_1 => (if cd_1 = 0 then qA x1 (24) (oG (zNb ((pX2_roofs (pX5_market b_this)) x1) = ((pX2_roofs (pX5_market b_this)) x1)) (some (0, ((pX2_roofs (pX5_market b_this)) x1)))) else some (cd_1, 0)))
def g_X5_load_12 (n : Nat) (b_this : BX5) : Option (Nat × Int × BX5) :=
  some (2, 0, b_this)
def g_X5_load (n : Nat) (b_this : BX5) (x1 : Int) : Option (Nat × Int × BX5) :=
  (if (x1 < 0) then g_X5_load_12 n b_this else (if (x1 ≤ (pX5_textLength b_this)) then oB3 (g_X4_read n (pX5_reader b_this) (pX5_text b_this) x1 (pX5_draft b_this)) (fun r_1 b_1 b_2 => (if (r_1 < 0) then some (0, r_1, (sX5_draft (sX5_reader (sX5_errorAt (sX5_textLength b_this 0) (pX4_errorAt b_1)) b_1) b_2)) else oB (g_X0_remember n (pX5_history b_this) (pX5_market b_this)) (fun b_24 => oB (g_X2_copyFrom n (pX5_market b_this) b_2) (fun b_41 => some (0, r_1, (sX5_planned (sX5_history (sX5_draft (sX5_market (sX5_reader (sX5_errorAt (sX5_textLength b_this 0) (pX4_errorAt b_1)) b_1) b_41) b_2) b_24) 0)))))) else g_X5_load_12 n b_this))
def g_X5_obstacle (n : Nat) (b_this : BX5) (x1 : Int) (x2 : Int) : Option (Nat × Int) :=
  oB (g_X5_requireTrader b_this x1) (fun cd_1 => (if cd_1 = 0 then oB (g_X5_requirePitch b_this x2) (fun cd_3 => (if cd_3 = 0 then oB (g_X2_hindrance n (pX5_market b_this) x1 x2) (fun r_5 => some (0, r_5)) else some (cd_3, 0))) else some (cd_1, 0)))
def g_X5_optimise (n : Nat) (b1_b15_b54_b28 : Nat) (b_this : BX5) : Option (Nat × Int × BX5) :=
  oB2 (g_X5_preparePlan n b1_b15_b54_b28 b_this) (fun cd_1 b_1 => (if cd_1 = 0 then oB (g_X0_remember n (pX5_history b_1) (pX5_market b_1)) (fun b_68 => oB (g_X2_unseatAll n (pX5_market b_1)) (fun b_85 => oB (g_X3_seatBest n (pX5_planner b_1) b_85) (fun b_111 => oB (g_X2_countSeated n b_111) (fun r_54 => some (0, r_54, (sX5_history (sX5_market b_1 b_111) b_68)))))) else some (cd_1, 0, b_1)))
def g_X5_pitchCount (b_this : BX5) : Option (Int) :=
  some (pX2_pitches (pX5_market b_this))
def g_X5_place (n : Nat) (b_this : BX5) (x1 : Int) (x2 : Int) : Option (Nat × Int × BX5) :=
  oB (g_X5_requireTrader b_this x1) (fun cd_1 => (if cd_1 = 0 then oB (g_X5_requirePitch b_this x2) (fun cd_3 => (if cd_3 = 0 then oB (g_X2_hindrance n (pX5_market b_this) x1 x2) (fun r_5 => (if (r_5 = 0) then oB (g_X0_remember n (pX5_history b_this) (pX5_market b_this)) (fun b_4 => oB (g_X2_seat n (pX5_market b_this) x1 x2) (fun b_21 => oB (g_X2_blockRent n b_21 x1 x2) (fun r_28 => some (0, r_28, (sX5_history (sX5_market b_this b_21) b_4))))) else some (3, 0, b_this))) else some (cd_3, 0, b_this))) else some (cd_1, 0, b_this)))
def g_X5_remove (n : Nat) (b_this : BX5) (x1 : Int) : Option (Nat × Int × BX5) :=
  oB (g_X5_requireTrader b_this x1) (fun cd_1 => (if cd_1 = 0 then qA x1 (8) (oL ((pX2_starts (pX5_market b_this)) x1) (fun y_4 => (if (y_4 = (-1)) then some (3, 0, b_this) else oB (g_X0_remember n (pX5_history b_this) (pX5_market b_this)) (fun b_3 => oB (g_X2_unseat n (pX5_market b_this) x1) (fun b_20 => some (0, y_4, (sX5_history (sX5_market b_this b_20) b_3))))))) else some (cd_1, 0, b_this)))
def g_X5_rent (b_this : BX5) (x1 : Int) : Option (Nat × Int) :=
  oB (g_X5_requirePitch b_this x1) (fun cd_1 => (if cd_1 = 0 then qA x1 (24) (some (0, ((pX2_rents (pX5_market b_this)) x1))) else some (cd_1, 0)))
def g_X5_row (b_this : BX5) (x1 : Int) : Option (Nat × Int) :=
  oB (g_X5_requirePitch b_this x1) (fun cd_1 => (if cd_1 = 0 then qA x1 (24) (some (0, ((pX2_rows (pX5_market b_this)) x1))) else some (cd_1, 0)))
def g_X5_setClash_31 (n : Nat) (x1 : Int) (x2 : Int) (x3 : Int) (b_this : BX5) : Option (Nat × BX5) :=
  oB (g_X0_remember n (pX5_history b_this) (pX5_market b_this)) (fun b_1 => oB (g_X2_putClash (pX5_market b_this) x1 x2 x3) (fun b_18 => some (0, (sX5_planned (sX5_history (sX5_market b_this b_18) b_1) 0))))
def g_X5_setClash (n : Nat) (b_this : BX5) (x1 : Int) (x2 : Int) (x3 : Int) : Option (Nat × BX5) :=
  oB (g_X5_requireTrades x1 x2) (fun cd_20 => (if cd_20 = 0 then (if (x3 = 0) then g_X5_setClash_31 n x1 x2 x3 b_this else oB (g_X2_standSideBySide n (pX5_market b_this) x1 x2) (fun r_22 => (if (r_22 = 0) then g_X5_setClash_31 n x1 x2 x3 b_this else some (3, b_this)))) else some (cd_20, b_this)))
def g_X5_setCovers (n : Nat) (b_this : BX5) (x1 : Int) : Option (Nat × Int × BX5) :=
  oB (g_X5_isOutside x1 (0) (4)) (fun r_1 => (if (r_1 = 0) then (if ((pX2_coversBusy (pX5_market b_this)) ≤ x1) then oB (g_X0_remember n (pX5_history b_this) (pX5_market b_this)) (fun b_2 => some (0, (pX2_covers (pX5_market b_this)), (sX5_planned (sX5_history (sX5_market b_this (sX2_covers (pX5_market b_this) x1)) b_2) 0))) else some (3, 0, b_this)) else some (2, 0, b_this)))
def g_X5_setRent (n : Nat) (b_this : BX5) (x1 : Int) (x2 : Int) : Option (Nat × Int × BX5) :=
  oB (g_X5_requirePitch b_this x1) (fun cd_1 => (if cd_1 = 0 then oB (g_X5_isOutside x2 (1) (999)) (fun r_3 => (if (r_3 = 0) then oB (g_X0_remember n (pX5_history b_this) (pX5_market b_this)) (fun b_3 => qA x1 (24) (oL (updZ (pX2_rents (pX5_market b_this)) x1 x2) (fun v_23 => qA x1 (24) (oL ((pX2_standing (pX5_market b_this)) x1) (fun y_25 => (if (y_25 = (-1)) then some (0, (-1), (sX5_planned (sX5_history (sX5_market b_this (sX2_rents (pX5_market b_this) v_23)) b_3) 0)) else qA y_25 (8) (oB (g_X2_affords n (sX2_rents (pX5_market b_this) v_23) y_25 ((pX2_starts (pX5_market b_this)) y_25)) (fun r_27 => (if (r_27 = 0) then oB (g_X2_unseat n (sX2_rents (pX5_market b_this) v_23) y_25) (fun b_24 => some (0, y_25, (sX5_planned (sX5_history (sX5_market b_this b_24) b_3) 0))) else some (0, (-1), (sX5_planned (sX5_history (sX5_market b_this (sX2_rents (pX5_market b_this) v_23)) b_3) 0))))))))))) else some (2, 0, b_this))) else some (cd_1, 0, b_this)))
def g_X5_start (b_this : BX5) (x1 : Int) : Option (Nat × Int) :=
  oB (g_X5_requireTrader b_this x1) (fun cd_1 => (if cd_1 = 0 then qA x1 (8) (some (0, ((pX2_starts (pX5_market b_this)) x1))) else some (cd_1, 0)))
def g_X5_swap_37 (n : Nat) (b_this : BX5) : Option (Nat × Int × BX5) :=
  some (3, 0, b_this)
def g_X5_swap (n : Nat) (b_this : BX5) (x1 : Int) (x2 : Int) : Option (Nat × Int × BX5) :=
  oB (g_X5_requireTrader b_this x1) (fun cd_1 => (if cd_1 = 0 then oB (g_X5_requireTrader b_this x2) (fun cd_3 => (if cd_3 = 0 then (if (x1 = x2) then g_X5_swap_37 n b_this else oB (g_X2_isSeated (pX5_market b_this) x1) (fun r_5 => (if (r_5 = 0) then g_X5_swap_37 n b_this else oB (g_X2_isSeated (pX5_market b_this) x2) (fun r_7 => (if (r_7 = 0) then g_X5_swap_37 n b_this else oB2 (g_X5_draftExchange n b_this x1 x2) (fun r_9 b_5 => (if (r_9 = 0) then some (3, 0, b_5) else oB (g_X0_remember n (pX5_history b_5) (pX5_market b_5)) (fun b_62 => oB (g_X2_copyFrom n (pX5_market b_5) (pX5_draft b_5)) (fun b_79 => oB (g_X2_totalRent n b_79) (fun r_57 => some (0, r_57, (sX5_history (sX5_market b_5 b_79) b_62)))))))))))) else some (cd_3, 0, b_this))) else some (cd_1, 0, b_this)))
def g_X5_trade (b_this : BX5) (x1 : Int) : Option (Nat × Int) :=
  oB (g_X5_requireTrader b_this x1) (fun cd_1 => (if cd_1 = 0 then qA x1 (8) (some (0, ((pX2_trades (pX5_market b_this)) x1))) else some (cd_1, 0)))
def g_X5_traderAt (b_this : BX5) (x1 : Int) : Option (Nat × Int) :=
  oB (g_X5_requirePitch b_this x1) (fun cd_1 => (if cd_1 = 0 then qA x1 (24) (some (0, ((pX2_standing (pX5_market b_this)) x1))) else some (cd_1, 0)))
def g_X5_traderCount (b_this : BX5) : Option (Int) :=
  some (pX2_traders (pX5_market b_this))
def g_X5_undo (n : Nat) (b_this : BX5) : Option (Nat × Int × BX5) :=
  (if ((pX0_count (pX5_history b_this)) = 0) then some (3, 0, b_this) else oB2 (g_X0_takeBack n (pX5_history b_this) (pX5_market b_this)) (fun b_1 b_2 => some (0, (pX0_count b_1), (sX5_planned (sX5_history (sX5_market b_this b_2) b_1) 0))))
def g_X6_keeps_52 (n : Nat) : Nat → Int → BX6 → Option (BX6)
  | 0, _, _ => none
  | fu + 1, x1, b_this => (if (180 ≤ x1) then oR (((pX6_keptMany b_this) + 1)) (oL ((pX6_keptMany b_this) + 1) (fun y_1 => some (sX6_keptMany b_this y_1))) else qA x1 (180) (qA ((180 * (pX6_keptMany b_this)) + x1) (1080) (oL (updZ (pX6_kept b_this) ((180 * (pX6_keptMany b_this)) + x1) ((pX6_a b_this) x1)) (fun v_4 => oR ((x1 + 1)) (g_X6_keeps_52 n fu (x1 + 1) (sX6_kept b_this v_4))))))
def g_X6_keeps_50 (n : Nat) (b_this : BX6) : Option (BX6) :=
  g_X6_keeps_52 n n (0) b_this
def g_X6_keeps_11 (n : Nat) : Nat → Int → BX6 → Option (BX6)
  | 0, _, _ => none
  | fu + 1, x1, b_this => (if (900 ≤ x1) then oR (((pX6_keptMany b_this) - 1)) (oL ((pX6_keptMany b_this) - 1) (fun y_5 => g_X6_keeps_50 n (sX6_keptMany b_this y_5))) else qA (x1 + 180) (1080) (qA x1 (1080) (oL (updZ (pX6_kept b_this) x1 ((pX6_kept b_this) (x1 + 180))) (fun v_8 => oR ((x1 + 1)) (g_X6_keeps_11 n fu (x1 + 1) (sX6_kept b_this v_8))))))
def g_X6_keeps (n : Nat) (b_this : BX6) : Option (BX6) :=
  (if ((pX6_keptMany b_this) = 6) then g_X6_keeps_11 n n (0) b_this else g_X6_keeps_50 n b_this)
def g_X6_isIn (x0 : Int) (x2 : Int) (x4 : Int) : Option (Int) :=
  (if (x0 < x2) then some (0) else (if (x4 < x0) then some (0) else some (1)))
def g_X6_addTrader_135 (n : Nat) (t1 : Int) (t2 : Int) (x5 : Int) (b_this : BX6) : Option (Int × BX6) :=
  qA t1 (180) (oL (updZ (pX6_a b_this) t1 t2) (fun v_2 => qA (74) (180) (qA (74) (180) (oR (((v_2 (74)) + 1)) (oL (updZ v_2 (74) ((v_2 (74)) + 1)) (fun v_5 => some (x5, (sX6_a b_this v_5))))))))
def g_X6_addTrader_58 (n : Nat) (t1 : Int) (x1 : Int) (x2 : Int) (x3 : Int) (x4 : Int) (b_this : BX6) : Option (Int × BX6) :=
  (if (t1 ≤ 0) then oB (g_X6_keeps n (sX6_thrown b_this t1)) (fun b_5 => qA (74) (180) (oL ((pX6_a b_5) (74)) (fun y_10 => qA (75 + y_10) (180) (oL (updZ (pX6_a b_5) (75 + y_10) x1) (fun v_12 => qA (83 + y_10) (180) (oL (updZ v_12 (83 + y_10) x2) (fun v_14 => qA (91 + y_10) (180) (oL (updZ v_14 (91 + y_10) x3) (fun v_16 => (if (x4 = 0) then oR ((99 + y_10)) (g_X6_addTrader_135 n (99 + y_10) (0) y_10 (sX6_a b_5 v_16)) else oR ((99 + y_10)) (g_X6_addTrader_135 n (99 + y_10) (1) y_10 (sX6_a b_5 v_16)))))))))))) else some (0, (sX6_thrown b_this t1)))
def g_X6_addTrader_37 (n : Nat) (x1 : Int) (x2 : Int) (x3 : Int) (x4 : Int) (b_this : BX6) : Option (Int × BX6) :=
  g_X6_addTrader_58 n (1) x1 x2 x3 x4 b_this
def g_X6_addTrader (n : Nat) (b_this : BX6) (x1 : Int) (x2 : Int) (x3 : Int) (x4 : Int) : Option (Int × BX6) :=
  oB (g_X6_isIn x1 (0) (7)) (fun r_17 => (if (r_17 = 0) then g_X6_addTrader_37 n x1 x2 x3 x4 b_this else oB (g_X6_isIn x2 (1) (3)) (fun r_19 => (if (r_19 = 0) then g_X6_addTrader_37 n x1 x2 x3 x4 b_this else oB (g_X6_isIn x3 (1) (9999)) (fun r_21 => (if (r_21 = 0) then g_X6_addTrader_37 n x1 x2 x3 x4 b_this else qA (74) (180) ((if (((pX6_a b_this) (74)) = 8) then g_X6_addTrader_58 n (2) x1 x2 x3 x4 b_this else g_X6_addTrader_58 n (0) x1 x2 x3 x4 b_this))))))))
def g_X6_append_87 (n : Nat) (k34 : Int → Int → Int → Int → Int → Int → BX6 → Option (Int × BX6)) (t0 : Int) (x1 : Int) (x2 : Int) (x3 : Int) (x4 : Int) (x5 : Int) (x6 : Int) (b_this : BX6) : Option (Int × BX6) :=
  qA (pX6_buffered b_this) (600) (qD x6 (4) (oR ((24 - (8 * (x6 % 4)))) (oL (updZ (pX6_buffer b_this) (pX6_buffered b_this) (zAnd (zShr t0 (24 - (8 * (x6 % 4)))) 255)) (fun v_2 => oR (((pX6_buffered b_this) + 1)) (oL ((pX6_buffered b_this) + 1) (fun y_3 => oR ((x6 + 1)) (k34 x1 x2 x3 x4 x5 (x6 + 1) (sX6_buffered (sX6_buffer b_this v_2) y_3))))))))
def g_X6_append_34 (n : Nat) : Nat → Int → Int → Int → Int → Int → Int → BX6 → Option (Int × BX6)
  | 0, _, _, _, _, _, _, _ => none
  | fu + 1, x1, x2, x3, x4, x5, x6, b_this => (if (20 ≤ x6) then some ((pX6_buffered b_this), b_this) else (if (4 ≤ x6) then (if (8 ≤ x6) then (if (12 ≤ x6) then (if (16 ≤ x6) then g_X6_append_87 n (g_X6_append_34 n fu) x5 x1 x2 x3 x4 x5 x6 b_this else g_X6_append_87 n (g_X6_append_34 n fu) x4 x1 x2 x3 x4 x5 x6 b_this) else g_X6_append_87 n (g_X6_append_34 n fu) x3 x1 x2 x3 x4 x5 x6 b_this) else g_X6_append_87 n (g_X6_append_34 n fu) x2 x1 x2 x3 x4 x5 x6 b_this) else g_X6_append_87 n (g_X6_append_34 n fu) x1 x1 x2 x3 x4 x5 x6 b_this))
def g_X6_append_19 (n : Nat) (t1 : Int) (x1 : Int) (x2 : Int) (x3 : Int) (x4 : Int) (x5 : Int) (b_this : BX6) : Option (Int × BX6) :=
  (if (t1 ≤ 0) then g_X6_append_34 n n x1 x2 x3 x4 x5 (0) (sX6_thrown b_this t1) else some (0, (sX6_thrown b_this t1)))
def g_X6_append (n : Nat) (b_this : BX6) (x1 : Int) (x2 : Int) (x3 : Int) (x4 : Int) (x5 : Int) : Option (Int × BX6) :=
  oR (((pX6_buffered b_this) + 20)) ((if (((pX6_buffered b_this) + 20) ≤ 600) then g_X6_append_19 n (0) x1 x2 x3 x4 x5 b_this else g_X6_append_19 n (1) x1 x2 x3 x4 x5 b_this))
def g_X6_isOn (b_this : BX6) (x1 : Int) (x2 : Int) : Option (Int) :=
  qA (107 + x1) (180) ((if (((pX6_a b_this) (107 + x1)) = (-1)) then some (0) else qA (107 + x1) (180) (qA (107 + x1) (180) (qA (83 + x1) (180) (oR (((((pX6_a b_this) (107 + x1)) + ((pX6_a b_this) (83 + x1))) - 1)) (oB (g_X6_isIn x2 ((pX6_a b_this) (107 + x1)) ((((pX6_a b_this) (107 + x1)) + ((pX6_a b_this) (83 + x1))) - 1)) (fun r_5 => (if (r_5 = 0) then some (0) else some (1)))))))))
def g_X6_on_2 (n : Nat) : Nat → Int → Int → BX6 → Option (Int)
  | 0, _, _, _ => none
  | fu + 1, x1, x2, b_this => qA (74) (180) ((if (((pX6_a b_this) (74)) ≤ x2) then some (-1) else oB (g_X6_isOn b_this x2 x1) (fun r_2 => (if (r_2 = 0) then oR ((x2 + 1)) (g_X6_on_2 n fu x1 (x2 + 1) b_this) else some x2))))
def g_X6_on (n : Nat) (b_this : BX6) (x1 : Int) : Option (Int) :=
  g_X6_on_2 n n x1 (0) b_this
def g_X6_areBeside_133 (n : Nat) (k2 : Int → Int → Int → BX6 → Option (Int)) (x1 : Int) (x2 : Int) (x3 : Int) (b_this : BX6) : Option (Int) :=
  oR ((x3 + 1)) (k2 x1 x2 (x3 + 1) b_this)
def g_X6_areBeside_103 (n : Nat) (k2 : Int → Int → Int → BX6 → Option (Int)) (x1 : Int) (x2 : Int) (x3 : Int) (x4 : Int) (x5 : Int) (b_this : BX6) : Option (Int) :=
  qA (75 + x4) (180) ((if (((pX6_a b_this) (75 + x4)) = x2) then qA (75 + x5) (180) ((if (((pX6_a b_this) (75 + x5)) = x1) then some (1) else g_X6_areBeside_133 n k2 x1 x2 x3 b_this)) else g_X6_areBeside_133 n k2 x1 x2 x3 b_this))
def g_X6_areBeside_2 (n : Nat) : Nat → Int → Int → Int → BX6 → Option (Int)
  | 0, _, _, _, _ => none
  | fu + 1, x1, x2, x3, b_this => qA (1) (180) (oR ((x3 + 1)) ((if (((pX6_a b_this) (1)) ≤ (x3 + 1)) then some (0) else oB (g_X6_on n b_this x3) (fun r_4 => oB (g_X6_on n b_this (x3 + 1)) (fun r_6 => qA (50 + x3) (180) (qA ((50 + x3) + 1) (180) ((if (((pX6_a b_this) (50 + x3)) = ((pX6_a b_this) ((50 + x3) + 1))) then (if (r_4 = (-1)) then g_X6_areBeside_133 n (g_X6_areBeside_2 n fu) x1 x2 x3 b_this else (if (r_6 = (-1)) then g_X6_areBeside_133 n (g_X6_areBeside_2 n fu) x1 x2 x3 b_this else (if (r_4 = r_6) then g_X6_areBeside_133 n (g_X6_areBeside_2 n fu) x1 x2 x3 b_this else qA (75 + r_4) (180) ((if (((pX6_a b_this) (75 + r_4)) = x1) then qA (75 + r_6) (180) ((if (((pX6_a b_this) (75 + r_6)) = x2) then some (1) else g_X6_areBeside_103 n (g_X6_areBeside_2 n fu) x1 x2 x3 r_4 r_6 b_this)) else g_X6_areBeside_103 n (g_X6_areBeside_2 n fu) x1 x2 x3 r_4 r_6 b_this))))) else g_X6_areBeside_133 n (g_X6_areBeside_2 n fu) x1 x2 x3 b_this))))))))
def g_X6_areBeside (n : Nat) (b_this : BX6) (x1 : Int) (x2 : Int) : Option (Int) :=
  g_X6_areBeside_2 n n x1 x2 (0) b_this
def g_X6_areTrades (x0 : Int) (x1 : Int) : Option (Int) :=
  oB (g_X6_isIn x0 (0) (7)) (fun r_1 => (if (r_1 = 0) then some (0) else oB (g_X6_isIn x1 (0) (7)) (fun r_3 => (if (r_3 = 0) then some (0) else some (1)))))
def g_X6_at (x0 : Int) (x1 : Int) (x2 : Int) (x3 : Int) : Option (Int) :=
  oR (((((((x0 * 256) + x1) * 9) + x2) * 6) + x3)) (some ((((((x0 * 256) + x1) * 9) + x2) * 6) + x3))
def g_X6_bare_5 (n : Nat) : Nat → Int → Int → Int → Int → BX6 → Option (Int)
  | 0, _, _, _, _, _ => none
  | fu + 1, x1, x2, x3, x4, b_this => qA (83 + x1) (180) ((if (((pX6_a b_this) (83 + x1)) ≤ x4) then some x3 else qA (99 + x1) (180) (qA (99 + x1) (180) (qA ((26 + x2) + x4) (180) (oR ((x3 + (((pX6_a b_this) (99 + x1)) - (((pX6_a b_this) (99 + x1)) * ((pX6_a b_this) ((26 + x2) + x4)))))) (oL (x3 + (((pX6_a b_this) (99 + x1)) - (((pX6_a b_this) (99 + x1)) * ((pX6_a b_this) ((26 + x2) + x4))))) (fun y_5 => oR ((x4 + 1)) (g_X6_bare_5 n fu x1 x2 y_5 (x4 + 1) b_this))))))))
def g_X6_bare (n : Nat) (b_this : BX6) (x1 : Int) (x2 : Int) : Option (Int) :=
  g_X6_bare_5 n n x1 x2 (0) (0) b_this
def g_X6_doClash (b_this : BX6) (x1 : Int) (x2 : Int) : Option (Int) :=
  qA (75 + x1) (180) (qA (75 + x2) (180) (qA ((115 + (8 * ((pX6_a b_this) (75 + x1)))) + ((pX6_a b_this) (75 + x2))) (180) ((if (((pX6_a b_this) ((115 + (8 * ((pX6_a b_this) (75 + x1)))) + ((pX6_a b_this) (75 + x2)))) = 1) then some (1) else some (0)))))
def g_X6_begun_61 (x1 : Int) (x2 : Int) (x3 : Int) (x5 : Int) (x6 : Int) (b_this : BX6) : Option (Int) :=
  qA x6 (192) (qA (83 + x1) (180) (qA x6 (192) (qA x6 (192) (oR ((x2 + ((pX6_a b_this) (83 + x1)))) (oR ((x5 - ((pX6_bareBy b_this) x6))) (oB (g_X6_at (x2 + ((pX6_a b_this) (83 + x1))) (zOr x3 (zShl 1 x1)) ((pX6_aheadBy b_this) x6) (x5 - ((pX6_bareBy b_this) x6))) (fun r_5 => qA r_5 (345600) (oR ((((16 * ((pX6_rentBy b_this) x6)) + 1) + ((pX6_best b_this) r_5))) (some (((16 * ((pX6_rentBy b_this) x6)) + 1) + ((pX6_best b_this) r_5)))))))))))
def g_X6_begun (b_this : BX6) (x1 : Int) (x2 : Int) (x3 : Int) (x4 : Int) (x5 : Int) : Option (Int) :=
  oR (((24 * x1) + x2)) (oL ((24 * x1) + x2) (fun y_8 => (if ((zAnd (zShr x3 x1) 1) = 1) then some (-1) else qA y_8 (192) ((if (((pX6_rentBy b_this) y_8) = (-1)) then some (-1) else qA y_8 (192) ((if (((pX6_bareBy b_this) y_8) ≤ x5) then (if (8 ≤ x4) then g_X6_begun_61 x1 x2 x3 x5 y_8 b_this else oB (g_X6_doClash b_this x4 x1) (fun r_11 => (if (r_11 = 0) then g_X6_begun_61 x1 x2 x3 x5 y_8 b_this else some (-1)))) else some (-1))))))))
def g_X6_free (b_this : BX6) (x1 : Int) (x2 : Int) (x3 : Int) : Option (Int) :=
  oR ((x1 + 1)) (oB (g_X6_at (x1 + 1) x2 (8) x3) (fun r_1 => qA r_1 (345600) (some ((pX6_best b_this) r_1))))
def g_X6_isSameRow (b_this : BX6) (x1 : Int) (x2 : Int) : Option (Int) :=
  qA (1) (180) ((if (((pX6_a b_this) (1)) ≤ x2) then some (0) else qA (50 + x1) (180) (qA (50 + x2) (180) ((if (((pX6_a b_this) (50 + x1)) = ((pX6_a b_this) (50 + x2))) then some (1) else some (0))))))
def g_X6_isRoom (b_this : BX6) (x1 : Int) (x2 : Int) : Option (Int) :=
  qA (83 + x1) (180) (oR (((x2 + ((pX6_a b_this) (83 + x1))) - 1)) (oL ((x2 + ((pX6_a b_this) (83 + x1))) - 1) (fun y_2 => qA (1) (180) ((if (((pX6_a b_this) (1)) ≤ y_2) then some (0) else qA (50 + y_2) (180) (qA (50 + x2) (180) ((if (((pX6_a b_this) (50 + y_2)) = ((pX6_a b_this) (50 + x2))) then some (1) else some (0)))))))))
def g_X6_rentOf_5 (n : Nat) : Nat → Int → Int → Int → Int → BX6 → Option (Int)
  | 0, _, _, _, _, _ => none
  | fu + 1, x1, x2, x3, x4, b_this => qA (83 + x1) (180) ((if (((pX6_a b_this) (83 + x1)) ≤ x4) then some x3 else qA ((2 + x2) + x4) (180) (oR ((x3 + ((pX6_a b_this) ((2 + x2) + x4)))) (oL (x3 + ((pX6_a b_this) ((2 + x2) + x4))) (fun y_3 => oR ((x4 + 1)) (g_X6_rentOf_5 n fu x1 x2 y_3 (x4 + 1) b_this))))))
def g_X6_rentOf (n : Nat) (b_this : BX6) (x1 : Int) (x2 : Int) : Option (Int) :=
  g_X6_rentOf_5 n n x1 x2 (0) (0) b_this
def g_X6_laysBlocks_131 (n : Nat) (k2 : Int → BX6 → Option (BX6)) (k15 : Int → Int → BX6 → Option (BX6)) (x1 : Int) (x2 : Int) (b_this : BX6) : Option (BX6) :=
  oR ((x2 + 1)) (k15 x1 (x2 + 1) b_this)
def g_X6_laysBlocks_130 (n : Nat) (k2 : Int → BX6 → Option (BX6)) (k15 : Int → Int → BX6 → Option (BX6)) (t1 : Int) (t2 : Int) (x1 : Int) (x2 : Int) (b_this : BX6) : Option (BX6) :=
  qA t1 (192) (oL (updZ (pX6_aheadBy b_this) t1 t2) (fun v_2 => g_X6_laysBlocks_131 n k2 k15 x1 x2 (sX6_aheadBy b_this v_2)))
def g_X6_laysBlocks_74 (n : Nat) (k2 : Int → BX6 → Option (BX6)) (k15 : Int → Int → BX6 → Option (BX6)) (t1 : Int) (t2 : Int) (x1 : Int) (x2 : Int) (x3 : Int) (b_this : BX6) : Option (BX6) :=
  qA t1 (192) (oL (updZ (pX6_rentBy b_this) t1 t2) (fun v_4 => qA x3 (192) ((if ((v_4 x3) = (-1)) then g_X6_laysBlocks_131 n k2 k15 x1 x2 (sX6_rentBy b_this v_4) else oB (g_X6_bare n (sX6_rentBy b_this v_4) x1 x2) (fun r_6 => qA x3 (192) (oL (updZ (pX6_bareBy b_this) x3 r_6) (fun v_9 => qA (83 + x1) (180) (oR ((x2 + ((pX6_a b_this) (83 + x1)))) (oB (g_X6_isSameRow (sX6_bareBy (sX6_rentBy b_this v_4) v_9) x2 (x2 + ((pX6_a b_this) (83 + x1)))) (fun r_11 => (if (r_11 = 0) then g_X6_laysBlocks_130 n k2 k15 x3 (8) x1 x2 (sX6_bareBy (sX6_rentBy b_this v_4) v_9) else g_X6_laysBlocks_130 n k2 k15 x3 x1 x1 x2 (sX6_bareBy (sX6_rentBy b_this v_4) v_9))))))))))))
def g_X6_laysBlocks_73 (n : Nat) (k2 : Int → BX6 → Option (BX6)) (k15 : Int → Int → BX6 → Option (BX6)) (t1 : Int) (x1 : Int) (x2 : Int) (x3 : Int) (b_this : BX6) : Option (BX6) :=
  g_X6_laysBlocks_74 n k2 k15 t1 (-1) x1 x2 x3 b_this
def g_X6_laysBlocks_15 (n : Nat) (k2 : Int → BX6 → Option (BX6)) : Nat → Int → Int → BX6 → Option (BX6)
  | 0, _, _, _ => none
  | fu + 1, x1, x2, b_this => qA (1) (180) ((if (((pX6_a b_this) (1)) ≤ x2) then oR ((x1 + 1)) (k2 (x1 + 1) b_this) else oR (((24 * x1) + x2)) (oL ((24 * x1) + x2) (fun y_14 => oB (g_X6_isRoom b_this x1 x2) (fun r_15 => (if (r_15 = 0) then g_X6_laysBlocks_73 n k2 (g_X6_laysBlocks_15 n k2 fu) y_14 x1 x2 y_14 b_this else oB (g_X6_rentOf n b_this x1 x2) (fun r_17 => qA (91 + x1) (180) ((if (((pX6_a b_this) (91 + x1)) < r_17) then g_X6_laysBlocks_73 n k2 (g_X6_laysBlocks_15 n k2 fu) y_14 x1 x2 y_14 b_this else oB (g_X6_rentOf n b_this x1 x2) (fun r_20 => g_X6_laysBlocks_74 n k2 (g_X6_laysBlocks_15 n k2 fu) y_14 r_20 x1 x2 y_14 b_this))))))))))
def g_X6_laysBlocks_2 (n : Nat) : Nat → Int → BX6 → Option (BX6)
  | 0, _, _ => none
  | fu + 1, x1, b_this => qA (74) (180) ((if (((pX6_a b_this) (74)) ≤ x1) then some b_this else g_X6_laysBlocks_15 n (g_X6_laysBlocks_2 n fu) n x1 (0) b_this))
def g_X6_laysBlocks (n : Nat) (b_this : BX6) : Option (BX6) :=
  g_X6_laysBlocks_2 n n (0) b_this
def g_X6_plans_230 (n : Nat) (k88 : Int → Int → Int → BX6 → Option (Int × BX6)) (k96 : Int → Int → Int → Int → BX6 → Option (Int × BX6)) (k105 : Int → Int → Int → Int → Int → BX6 → Option (Int × BX6)) (x1 : Int) (x3 : Int) (x4 : Int) (x5 : Int) (x6 : Int) (b_this : BX6) : Option (Int × BX6) :=
  oR ((x6 + 1)) (k105 x1 x3 x4 x5 (x6 + 1) b_this)
def g_X6_plans_198 (n : Nat) (k88 : Int → Int → Int → BX6 → Option (Int × BX6)) (k96 : Int → Int → Int → Int → BX6 → Option (Int × BX6)) (k105 : Int → Int → Int → Int → Int → BX6 → Option (Int × BX6)) (k135 : Int → Int → Int → Int → Int → Int → BX6 → Option (Int × BX6)) (k156 : Int → Int → Int → Int → Int → Int → Int → Int → BX6 → Option (Int × BX6)) (t0 : Int) (x1 : Int) (x3 : Int) (x4 : Int) (x5 : Int) (x6 : Int) (x7 : Int) (x9 : Int) (b_this : BX6) : Option (Int × BX6) :=
  oR ((x9 + 1)) (k156 x1 x3 x4 x5 x6 x7 t0 (x9 + 1) b_this)
def g_X6_plans_156 (n : Nat) (k88 : Int → Int → Int → BX6 → Option (Int × BX6)) (k96 : Int → Int → Int → Int → BX6 → Option (Int × BX6)) (k105 : Int → Int → Int → Int → Int → BX6 → Option (Int × BX6)) (k135 : Int → Int → Int → Int → Int → Int → BX6 → Option (Int × BX6)) : Nat → Int → Int → Int → Int → Int → Int → Int → Int → BX6 → Option (Int × BX6)
  | 0, _, _, _, _, _, _, _, _, _ => none
  | fu + 1, x1, x3, x4, x5, x6, x7, x8, x9, b_this => qA (74) (180) ((if (((pX6_a b_this) (74)) ≤ x9) then oB (g_X6_at x4 x5 x6 x7) (fun r_2 => qA r_2 (345600) (oL (updZ (pX6_best b_this) r_2 x8) (fun v_5 => oR ((x7 + 1)) (k135 x1 x3 x4 x5 x6 (x7 + 1) (sX6_best b_this v_5))))) else oB (g_X6_begun b_this x9 x4 x5 x6 x7) (fun r_6 => (if (r_6 ≤ x8) then g_X6_plans_198 n k88 k96 k105 k135 (g_X6_plans_156 n k88 k96 k105 k135 fu) x8 x1 x3 x4 x5 x6 x7 x9 b_this else g_X6_plans_198 n k88 k96 k105 k135 (g_X6_plans_156 n k88 k96 k105 k135 fu) r_6 x1 x3 x4 x5 x6 x7 x9 b_this))))
def g_X6_plans_135 (n : Nat) (k88 : Int → Int → Int → BX6 → Option (Int × BX6)) (k96 : Int → Int → Int → Int → BX6 → Option (Int × BX6)) (k105 : Int → Int → Int → Int → Int → BX6 → Option (Int × BX6)) : Nat → Int → Int → Int → Int → Int → Int → BX6 → Option (Int × BX6)
  | 0, _, _, _, _, _, _, _ => none
  | fu + 1, x1, x3, x4, x5, x6, x7, b_this => (if (x1 < x7) then g_X6_plans_230 n k88 k96 k105 x1 x3 x4 x5 x6 b_this else oB (g_X6_free b_this x4 x5 x7) (fun r_8 => g_X6_plans_156 n k88 k96 k105 (g_X6_plans_135 n k88 k96 k105 fu) n x1 x3 x4 x5 x6 x7 r_8 (0) b_this))
def g_X6_plans_132 (n : Nat) (k88 : Int → Int → Int → BX6 → Option (Int × BX6)) (k96 : Int → Int → Int → Int → BX6 → Option (Int × BX6)) (k105 : Int → Int → Int → Int → Int → BX6 → Option (Int × BX6)) (x1 : Int) (x3 : Int) (x4 : Int) (x5 : Int) (x6 : Int) (b_this : BX6) : Option (Int × BX6) :=
  g_X6_plans_135 n k88 k96 k105 n x1 x3 x4 x5 x6 (0) b_this
def g_X6_plans_105 (n : Nat) (k88 : Int → Int → Int → BX6 → Option (Int × BX6)) (k96 : Int → Int → Int → Int → BX6 → Option (Int × BX6)) : Nat → Int → Int → Int → Int → Int → BX6 → Option (Int × BX6)
  | 0, _, _, _, _, _, _ => none
  | fu + 1, x1, x3, x4, x5, x6, b_this => (if (8 < x6) then oR ((x5 + 1)) (k96 x1 x3 x4 (x5 + 1) b_this) else (if (8 ≤ x6) then g_X6_plans_132 n k88 k96 (g_X6_plans_105 n k88 k96 fu) x1 x3 x4 x5 x6 b_this else (if ((zAnd (zShr x5 x6) 1) = 0) then g_X6_plans_230 n k88 k96 (g_X6_plans_105 n k88 k96 fu) x1 x3 x4 x5 x6 b_this else g_X6_plans_132 n k88 k96 (g_X6_plans_105 n k88 k96 fu) x1 x3 x4 x5 x6 b_this)))
def g_X6_plans_96 (n : Nat) (k88 : Int → Int → Int → BX6 → Option (Int × BX6)) : Nat → Int → Int → Int → Int → BX6 → Option (Int × BX6)
  | 0, _, _, _, _, _ => none
  | fu + 1, x1, x3, x4, x5, b_this => (if (x3 ≤ x5) then oR ((x4 + (-1))) (k88 x1 x3 (x4 + (-1)) b_this) else g_X6_plans_105 n k88 (g_X6_plans_96 n k88 fu) n x1 x3 x4 x5 (0) b_this)
def g_X6_plans_88 (n : Nat) : Nat → Int → Int → Int → BX6 → Option (Int × BX6)
  | 0, _, _, _, _ => none
  | fu + 1, x1, x3, x4, b_this => (if (x4 < 0) then oB (g_X6_at (0) (0) (8) x1) (fun r_10 => qA r_10 (345600) (qD ((pX6_best b_this) r_10) (16) (oR ((((pX6_best b_this) r_10) / 16)) (some ((((pX6_best b_this) r_10) / 16), b_this))))) else g_X6_plans_96 n (g_X6_plans_88 n fu) n x1 x3 x4 (0) b_this)
def g_X6_plans_43 (n : Nat) (k24 : Int → Int → Int → Int → BX6 → Option (Int × BX6)) (k33 : Int → Int → Int → Int → Int → BX6 → Option (Int × BX6)) : Nat → Int → Int → Int → Int → Int → Int → BX6 → Option (Int × BX6)
  | 0, _, _, _, _, _, _, _ => none
  | fu + 1, x1, x2, x3, x4, x5, x6, b_this => (if (x1 < x6) then oR ((x5 + 1)) (k33 x1 x2 x3 x4 (x5 + 1) b_this) else oB (g_X6_at x2 x4 x5 x6) (fun r_13 => qA r_13 (345600) (oL (updZ (pX6_best b_this) r_13 (0)) (fun v_16 => oR ((x6 + 1)) (g_X6_plans_43 n k24 k33 fu x1 x2 x3 x4 x5 (x6 + 1) (sX6_best b_this v_16))))))
def g_X6_plans_33 (n : Nat) (k24 : Int → Int → Int → Int → BX6 → Option (Int × BX6)) : Nat → Int → Int → Int → Int → Int → BX6 → Option (Int × BX6)
  | 0, _, _, _, _, _, _ => none
  | fu + 1, x1, x2, x3, x4, x5, b_this => (if (8 < x5) then oR ((x4 + 1)) (k24 x1 x2 x3 (x4 + 1) b_this) else g_X6_plans_43 n k24 (g_X6_plans_33 n k24 fu) n x1 x2 x3 x4 x5 (0) b_this)
def g_X6_plans_24 (n : Nat) : Nat → Int → Int → Int → Int → BX6 → Option (Int × BX6)
  | 0, _, _, _, _, _ => none
  | fu + 1, x1, x2, x3, x4, b_this => (if (x3 ≤ x4) then oR ((x2 - 1)) (oL (x2 - 1) (fun y_17 => g_X6_plans_88 n n x1 x3 y_17 b_this)) else g_X6_plans_33 n (g_X6_plans_24 n fu) n x1 x2 x3 x4 (0) b_this)
def g_X6_plans (n : Nat) (b_this : BX6) (x1 : Int) : Option (Int × BX6) :=
  oB (g_X6_laysBlocks n b_this) (fun b_21 => qA (1) (180) (oL ((pX6_a b_21) (1)) (fun y_23 => qA (74) (180) (oL (zShl 1 ((pX6_a b_21) (74))) (fun y_25 => g_X6_plans_24 n n x1 y_23 y_25 (0) b_21)))))
def g_X6_bestIncome (n : Nat) (b_this : BX6) : Option (Int × BX6) :=
  qA (179) (180) (oB2 (g_X6_plans n (sX6_thrown b_this 0) ((pX6_a b_this) (179))) (fun r_2 b_2 => some (r_2, b_2)))
def g_X6_laysEdges_154 (n : Nat) (k33 : Int → Int → BX6 → Option (BX6)) (k58 : Int → Int → Int → BX6 → Option (BX6)) (x1 : Int) (x2 : Int) (x3 : Int) (b_this : BX6) : Option (BX6) :=
  oR ((x3 + 1)) (k58 x1 x2 (x3 + 1) b_this)
def g_X6_laysEdges_152 (n : Nat) (k33 : Int → Int → BX6 → Option (BX6)) (k58 : Int → Int → Int → BX6 → Option (BX6)) (t1 : Int) (x1 : Int) (x2 : Int) (x3 : Int) (b_this : BX6) : Option (BX6) :=
  qA t1 (1000) (oL (updZ (pX6_isEdge b_this) t1 (zNb 1)) (fun v_2 => g_X6_laysEdges_154 n k33 k58 x1 x2 x3 (sX6_isEdge b_this v_2)))
def g_X6_laysEdges_58 (n : Nat) (k33 : Int → Int → BX6 → Option (BX6)) : Nat → Int → Int → Int → BX6 → Option (BX6)
  | 0, _, _, _, _ => none
  | fu + 1, x1, x2, x3, b_this => (if (x1 < x3) then oR ((x2 + 1)) (k33 x1 (x2 + 1) b_this) else (if (x3 < 0) then g_X6_laysEdges_154 n k33 (g_X6_laysEdges_58 n k33 fu) x1 x2 x3 b_this else oB (g_X6_isRoom b_this x2 x3) (fun r_3 => (if (r_3 = 0) then g_X6_laysEdges_154 n k33 (g_X6_laysEdges_58 n k33 fu) x1 x2 x3 b_this else qA (50 + x3) (180) (qA (50 + x1) (180) ((if (((pX6_a b_this) (50 + x3)) = ((pX6_a b_this) (50 + x1))) then qA (91 + x2) (180) (oB (g_X6_rentOf n b_this x2 x3) (fun r_8 => qA (2 + x1) (180) (oR (((((pX6_a b_this) (91 + x2)) - r_8) + ((pX6_a b_this) (2 + x1)))) (oL ((((pX6_a b_this) (91 + x2)) - r_8) + ((pX6_a b_this) (2 + x1))) (fun y_11 => (if (y_11 ≤ 0) then g_X6_laysEdges_154 n k33 (g_X6_laysEdges_58 n k33 fu) x1 x2 x3 b_this else (if (y_11 ≤ 999) then g_X6_laysEdges_152 n k33 (g_X6_laysEdges_58 n k33 fu) y_11 x1 x2 x3 b_this else g_X6_laysEdges_152 n k33 (g_X6_laysEdges_58 n k33 fu) (999) x1 x2 x3 b_this))))))) else g_X6_laysEdges_154 n k33 (g_X6_laysEdges_58 n k33 fu) x1 x2 x3 b_this)))))))
def g_X6_laysEdges_33 (n : Nat) : Nat → Int → Int → BX6 → Option (BX6)
  | 0, _, _, _ => none
  | fu + 1, x1, x2, b_this => qA (74) (180) ((if (((pX6_a b_this) (74)) ≤ x2) then some b_this else qA (83 + x2) (180) (oR (((x1 - ((pX6_a b_this) (83 + x2))) + 1)) (oL ((x1 - ((pX6_a b_this) (83 + x2))) + 1) (fun y_14 => g_X6_laysEdges_58 n (g_X6_laysEdges_33 n fu) n x1 x2 y_14 b_this)))))
def g_X6_laysEdges_24 (n : Nat) (k2 : Int → Int → BX6 → Option (BX6)) (t1 : Int) (t2 : Int) (x1 : Int) (x2 : Int) (b_this : BX6) : Option (BX6) :=
  qA t1 (1000) (oL (updZ (pX6_isEdge b_this) t1 (zNb t2)) (fun v_16 => oR ((x2 + 1)) (k2 x1 (x2 + 1) (sX6_isEdge b_this v_16))))
def g_X6_laysEdges_2 (n : Nat) : Nat → Int → Int → BX6 → Option (BX6)
  | 0, _, _, _ => none
  | fu + 1, x1, x2, b_this => (if (1000 ≤ x2) then g_X6_laysEdges_33 n n x1 (0) b_this else (if (x2 = 1) then g_X6_laysEdges_24 n (g_X6_laysEdges_2 n fu) x2 (1) x1 x2 b_this else g_X6_laysEdges_24 n (g_X6_laysEdges_2 n fu) x2 (0) x1 x2 b_this))
def g_X6_laysEdges (n : Nat) (b_this : BX6) (x1 : Int) : Option (BX6) :=
  g_X6_laysEdges_2 n n x1 (0) b_this
def g_X6_isPitch (b_this : BX6) (x1 : Int) : Option (Int) :=
  qA (1) (180) (oR ((((pX6_a b_this) (1)) - 1)) (oB (g_X6_isIn x1 (0) (((pX6_a b_this) (1)) - 1)) (fun r_2 => oG (zNb r_2 = r_2) (some r_2))))
def g_X6_bestRent_109 (n : Nat) (k48 : Int → Int → Int → Int → Int → BX6 → Option (Int × BX6)) (x1 : Int) (x2 : Int) (x3 : Int) (x4 : Int) (x5 : Int) (b_this : BX6) : Option (Int × BX6) :=
  oR ((x5 + 1)) (k48 x1 x2 x3 x4 (x5 + 1) b_this)
def g_X6_bestRent_48 (n : Nat) : Nat → Int → Int → Int → Int → Int → BX6 → Option (Int × BX6)
  | 0, _, _, _, _, _, _ => none
  | fu + 1, x1, x2, x3, x4, x5, b_this => (if (1000 ≤ x5) then qA (2 + x1) (180) (oL (updZ (pX6_a b_this) (2 + x1) x2) (fun v_2 => some (x4, (sX6_a b_this v_2)))) else qA x5 (1000) ((if (((pX6_isEdge b_this) x5) = 0) then g_X6_bestRent_109 n (g_X6_bestRent_48 n fu) x1 x2 x3 x4 x5 b_this else qA (2 + x1) (180) (oL (updZ (pX6_a b_this) (2 + x1) x5) (fun v_5 => qA (179) (180) (oB2 (g_X6_plans n (sX6_a b_this v_5) (v_5 (179))) (fun r_7 b_6 => (if (x3 < r_7) then g_X6_bestRent_109 n (g_X6_bestRent_48 n fu) x1 x2 r_7 x5 x5 b_6 else g_X6_bestRent_109 n (g_X6_bestRent_48 n fu) x1 x2 x3 x4 x5 b_6))))))))
def g_X6_bestRent_14 (n : Nat) (t1 : Int) (x1 : Int) (b_this : BX6) : Option (Int × BX6) :=
  (if (t1 ≤ 0) then oB (g_X6_laysEdges n (sX6_thrown b_this t1) x1) (fun b_63 => qA (2 + x1) (180) (oL ((pX6_a b_63) (2 + x1)) (fun y_16 => g_X6_bestRent_48 n n x1 y_16 (-1) (0) (1) b_63))) else some (0, (sX6_thrown b_this t1)))
def g_X6_bestRent (n : Nat) (b_this : BX6) (x1 : Int) : Option (Int × BX6) :=
  oB (g_X6_isPitch b_this x1) (fun r_17 => (if (r_17 = 0) then g_X6_bestRent_14 n (1) x1 b_this else g_X6_bestRent_14 n (0) x1 b_this))
def g_X6_isClear_2 (n : Nat) : Nat → Int → Int → Int → BX6 → Option (Int)
  | 0, _, _, _, _ => none
  | fu + 1, x1, x2, x3, b_this => qA (83 + x1) (180) ((if (((pX6_a b_this) (83 + x1)) ≤ x3) then some (1) else qA (x2 + x3) (24) ((if (((pX6_stands b_this) (x2 + x3)) = (-1)) then oR ((x3 + 1)) (g_X6_isClear_2 n fu x1 x2 (x3 + 1) b_this) else some (0)))))
def g_X6_isClear (n : Nat) (b_this : BX6) (x1 : Int) (x2 : Int) : Option (Int) :=
  g_X6_isClear_2 n n x1 x2 (0) b_this
def g_X6_fits (n : Nat) (b_this : BX6) (x1 : Int) (x2 : Int) : Option (Int) :=
  oB (g_X6_isRoom b_this x1 x2) (fun r_1 => (if (r_1 = 0) then some (0) else oB (g_X6_rentOf n b_this x1 x2) (fun r_3 => qA (91 + x1) (180) ((if (((pX6_a b_this) (91 + x1)) < r_3) then some (0) else oB (g_X6_isClear n b_this x1 x2) (fun r_6 => (if (r_6 = 0) then some (0) else some (1))))))))
def g_X6_lays_3 (n : Nat) : Nat → Int → Int → Int → Int → BX6 → Option (BX6)
  | 0, _, _, _, _, _ => none
  | fu + 1, x1, x2, x3, x4, b_this => qA (83 + x1) (180) ((if (((pX6_a b_this) (83 + x1)) ≤ x4) then some b_this else qA (x2 + x4) (24) (oL (updZ (pX6_stands b_this) (x2 + x4) x3) (fun v_3 => oR ((x4 + 1)) (g_X6_lays_3 n fu x1 x2 x3 (x4 + 1) (sX6_stands b_this v_3))))))
def g_X6_lays (n : Nat) (b_this : BX6) (x1 : Int) (x2 : Int) (x3 : Int) : Option (BX6) :=
  g_X6_lays_3 n n x1 x2 x3 (0) b_this
def g_X6_isSound_146 (n : Nat) (k65 : Int → BX6 → Option (Int)) (x2 : Int) (b_this : BX6) : Option (Int) :=
  oR ((x2 + 1)) (k65 (x2 + 1) b_this)
def g_X6_isSound_65 (n : Nat) : Nat → Int → BX6 → Option (Int)
  | 0, _, _ => none
  | fu + 1, x2, b_this => qA (1) (180) (oR ((x2 + 1)) ((if (((pX6_a b_this) (1)) ≤ (x2 + 1)) then some (1) else qA x2 (24) (oL ((pX6_stands b_this) x2) (fun y_3 => qA (x2 + 1) (24) (oL ((pX6_stands b_this) (x2 + 1)) (fun y_5 => qA (50 + x2) (180) (qA ((50 + x2) + 1) (180) ((if (((pX6_a b_this) (50 + x2)) = ((pX6_a b_this) ((50 + x2) + 1))) then (if (y_3 = (-1)) then g_X6_isSound_146 n (g_X6_isSound_65 n fu) x2 b_this else (if (y_5 = (-1)) then g_X6_isSound_146 n (g_X6_isSound_65 n fu) x2 b_this else (if (y_3 = y_5) then g_X6_isSound_146 n (g_X6_isSound_65 n fu) x2 b_this else oB (g_X6_doClash b_this y_3 y_5) (fun r_8 => (if (r_8 = 0) then g_X6_isSound_146 n (g_X6_isSound_65 n fu) x2 b_this else some (0)))))) else g_X6_isSound_146 n (g_X6_isSound_65 n fu) x2 b_this))))))))))
def g_X6_isSound_41 (n : Nat) (k4 : Int → Int → BX6 → Option (Int)) (t0 : Int) (t1 : Int) (x2 : Int) (b_this : BX6) : Option (Int) :=
  oR ((t0 + t1)) (oL (t0 + t1) (fun y_10 => oR ((x2 + 1)) (k4 y_10 (x2 + 1) b_this)))
def g_X6_isSound_4 (n : Nat) : Nat → Int → Int → BX6 → Option (Int)
  | 0, _, _, _ => none
  | fu + 1, x1, x2, b_this => qA (74) (180) ((if (((pX6_a b_this) (74)) ≤ x2) then qA (179) (180) ((if (x1 ≤ ((pX6_a b_this) (179))) then g_X6_isSound_65 n n (0) b_this else some (0))) else qA x2 (8) ((if (((pX6_tried b_this) x2) = (-1)) then g_X6_isSound_41 n (g_X6_isSound_4 n fu) x1 (0) x2 b_this else qA x2 (8) (oB (g_X6_bare n b_this x2 ((pX6_tried b_this) x2)) (fun r_15 => g_X6_isSound_41 n (g_X6_isSound_4 n fu) x1 r_15 x2 b_this))))))
def g_X6_isSound (n : Nat) (b_this : BX6) : Option (Int) :=
  g_X6_isSound_4 n n (0) (0) b_this
def g_X6_canSwap_152 (n : Nat) (k56 : Int → Int → Int → BX6 → Option (Int × BX6)) (x1 : Int) (x2 : Int) (x3 : Int) (b_this : BX6) : Option (Int × BX6) :=
  oR ((x3 + 1)) (k56 x1 x2 (x3 + 1) b_this)
def g_X6_canSwap_110 (n : Nat) (k56 : Int → Int → Int → BX6 → Option (Int × BX6)) (t1 : Int) (t2 : Int) (x1 : Int) (x2 : Int) (x3 : Int) (b_this : BX6) : Option (Int × BX6) :=
  qA t1 (8) (oL (updZ (pX6_tried b_this) t1 t2) (fun v_2 => qA x3 (8) ((if ((v_2 x3) = (-1)) then g_X6_canSwap_152 n k56 x1 x2 x3 (sX6_tried b_this v_2) else qA x3 (8) (oB (g_X6_fits n (sX6_tried b_this v_2) x3 (v_2 x3)) (fun r_5 => (if (r_5 = 0) then some (0, (sX6_tried b_this v_2)) else qA x3 (8) (oB (g_X6_lays n (sX6_tried b_this v_2) x3 (v_2 x3) x3) (fun b_7 => g_X6_canSwap_152 n k56 x1 x2 x3 b_7)))))))))
def g_X6_canSwap_56 (n : Nat) : Nat → Int → Int → Int → BX6 → Option (Int × BX6)
  | 0, _, _, _, _ => none
  | fu + 1, x1, x2, x3, b_this => (if (8 ≤ x3) then oB (g_X6_isSound n b_this) (fun r_10 => oG (zNb r_10 = r_10) (some (r_10, b_this))) else (if (x3 = x1) then qA (107 + x2) (180) (g_X6_canSwap_110 n (g_X6_canSwap_56 n fu) x3 ((pX6_a b_this) (107 + x2)) x1 x2 x3 b_this) else (if (x3 = x2) then qA (107 + x1) (180) (g_X6_canSwap_110 n (g_X6_canSwap_56 n fu) x3 ((pX6_a b_this) (107 + x1)) x1 x2 x3 b_this) else qA (107 + x3) (180) (g_X6_canSwap_110 n (g_X6_canSwap_56 n fu) x3 ((pX6_a b_this) (107 + x3)) x1 x2 x3 b_this))))
def g_X6_canSwap_35 (n : Nat) : Nat → Int → Int → Int → BX6 → Option (Int × BX6)
  | 0, _, _, _, _ => none
  | fu + 1, x1, x2, x3, b_this => (if (24 ≤ x3) then g_X6_canSwap_56 n n x1 x2 (0) b_this else qA x3 (24) (oL (updZ (pX6_stands b_this) x3 (-1)) (fun v_17 => oR ((x3 + 1)) (g_X6_canSwap_35 n fu x1 x2 (x3 + 1) (sX6_stands b_this v_17)))))
def g_X6_canSwap (n : Nat) (b_this : BX6) (x1 : Int) (x2 : Int) : Option (Int × BX6) :=
  (if (x1 = x2) then some (0, b_this) else qA (107 + x1) (180) ((if (((pX6_a b_this) (107 + x1)) = (-1)) then some (0, b_this) else qA (107 + x2) (180) ((if (((pX6_a b_this) (107 + x2)) = (-1)) then some (0, b_this) else g_X6_canSwap_35 n n x1 x2 (0) b_this)))))
def g_X6_clash_14 (t1 : Int) (x1 : Int) (x2 : Int) (b_this : BX6) : Option (Int × BX6) :=
  (if (t1 = 0) then qA ((115 + (8 * x1)) + x2) (180) ((if (((pX6_a b_this) ((115 + (8 * x1)) + x2)) = 1) then some (1, (sX6_thrown b_this t1)) else some (0, (sX6_thrown b_this t1)))) else some (0, (sX6_thrown b_this t1)))
def g_X6_clash (b_this : BX6) (x1 : Int) (x2 : Int) : Option (Int × BX6) :=
  oB (g_X6_areTrades x1 x2) (fun r_2 => (if (r_2 = 0) then g_X6_clash_14 (1) x1 x2 b_this else g_X6_clash_14 (0) x1 x2 b_this))
def g_X6_clashes (b_o0 : (Int → Int)) (x1 : Int) (x2 : Int) (x3 : Int) : Option ((Int → Int)) :=
  qA ((115 + (8 * x1)) + x2) (180) (oL (updZ b_o0 ((115 + (8 * x1)) + x2) x3) (fun v_2 => qA ((115 + (8 * x2)) + x1) (180) (oL (updZ v_2 ((115 + (8 * x2)) + x1) x3) (fun v_4 => some v_4))))
def g_X6_clashCost_14 (n : Nat) (t1 : Int) (x1 : Int) (x2 : Int) (b_this : BX6) : Option (Int × BX6) :=
  (if (0 < t1) then some (0, (sX6_thrown b_this t1)) else qA ((115 + (8 * x1)) + x2) (180) ((if (((pX6_a b_this) ((115 + (8 * x1)) + x2)) = 0) then some (0, (sX6_thrown b_this t1)) else qA (179) (180) (oB2 (g_X6_plans n (sX6_thrown b_this t1) ((pX6_a b_this) (179))) (fun r_3 b_3 => oB (g_X6_clashes (pX6_a b_3) x1 x2 (0)) (fun b_59 => qA (179) (180) (oB2 (g_X6_plans n (sX6_a b_3 b_59) (b_59 (179))) (fun r_12 b_62 => oB (g_X6_clashes (pX6_a b_62) x1 x2 (1)) (fun b_118 => oR ((r_12 - r_3)) (some ((r_12 - r_3), (sX6_a b_62 b_118))))))))))))
def g_X6_clashCost (n : Nat) (b_this : BX6) (x1 : Int) (x2 : Int) : Option (Int × BX6) :=
  oB (g_X6_areTrades x1 x2) (fun r_20 => (if (r_20 = 0) then g_X6_clashCost_14 n (1) x1 x2 b_this else g_X6_clashCost_14 n (0) x1 x2 b_this))
def g_X6_clashesAt (n : Nat) (b_this : BX6) (x1 : Int) (x2 : Int) (x3 : Int) : Option (Int) :=
  oB (g_X6_isPitch b_this x3) (fun r_1 => (if (r_1 = 0) then some (0) else qA (50 + x3) (180) (qA (50 + x2) (180) ((if (((pX6_a b_this) (50 + x3)) = ((pX6_a b_this) (50 + x2))) then oB (g_X6_on n b_this x3) (fun r_5 => (if (r_5 = (-1)) then some (0) else oB (g_X6_on n b_this x3) (fun r_7 => oB (g_X6_doClash b_this x1 r_7) (fun r_9 => (if (r_9 = 0) then some (0) else some (1)))))) else some (0))))))
def g_X6_placed_29 (n : Nat) (k4 : Int → Int → BX6 → Option (Int)) (t0 : Int) (t1 : Int) (x2 : Int) (b_this : BX6) : Option (Int) :=
  oR ((t0 + t1)) (oL (t0 + t1) (fun y_1 => oR ((x2 + 1)) (k4 y_1 (x2 + 1) b_this)))
def g_X6_placed_4 (n : Nat) : Nat → Int → Int → BX6 → Option (Int)
  | 0, _, _, _ => none
  | fu + 1, x1, x2, b_this => (if (8 ≤ x2) then some x1 else qA (107 + x2) (180) ((if (((pX6_a b_this) (107 + x2)) = (-1)) then g_X6_placed_29 n (g_X6_placed_4 n fu) x1 (0) x2 b_this else g_X6_placed_29 n (g_X6_placed_4 n fu) x1 (1) x2 b_this)))
def g_X6_placed (n : Nat) (b_this : BX6) : Option (Int) :=
  g_X6_placed_4 n n (0) (0) b_this
def g_X6_clear_16 (n : Nat) : Nat → Int → Int → BX6 → Option (Int × BX6)
  | 0, _, _, _ => none
  | fu + 1, x1, x2, b_this => (if (8 ≤ x2) then some (x1, b_this) else qA (107 + x2) (180) (oL (updZ (pX6_a b_this) (107 + x2) (-1)) (fun v_2 => oR ((x2 + 1)) (g_X6_clear_16 n fu x1 (x2 + 1) (sX6_a b_this v_2)))))
def g_X6_clear (n : Nat) (b_this : BX6) : Option (Int × BX6) :=
  oB (g_X6_keeps n (sX6_thrown b_this 0)) (fun b_3 => oB (g_X6_placed n b_3) (fun r_6 => g_X6_clear_16 n n r_6 (0) b_3))
def g_X6_isAhead_55 (n : Nat) (k2 : Int → BX6 → Option (Int)) (t0 : Int) (x1 : Int) (x2 : Int) (b_this : BX6) : Option (Int) :=
  (if (x2 = t0) then oR ((x1 + 1)) (k2 (x1 + 1) b_this) else (if (t0 ≤ x2) then some (0) else some (1)))
def g_X6_isAhead_33 (n : Nat) (k2 : Int → BX6 → Option (Int)) (t0 : Int) (x1 : Int) (b_this : BX6) : Option (Int) :=
  qA x1 (24) ((if (((pX6_foundOn b_this) x1) = (-1)) then g_X6_isAhead_55 n k2 (8) x1 t0 b_this else qA x1 (24) (g_X6_isAhead_55 n k2 ((pX6_foundOn b_this) x1) x1 t0 b_this)))
def g_X6_isAhead_2 (n : Nat) : Nat → Int → BX6 → Option (Int)
  | 0, _, _ => none
  | fu + 1, x1, b_this => qA (1) (180) ((if (((pX6_a b_this) (1)) ≤ x1) then some (0) else qA x1 (24) ((if (((pX6_stands b_this) x1) = (-1)) then g_X6_isAhead_33 n (g_X6_isAhead_2 n fu) (8) x1 b_this else qA x1 (24) (g_X6_isAhead_33 n (g_X6_isAhead_2 n fu) ((pX6_stands b_this) x1) x1 b_this)))))
def g_X6_isAhead (n : Nat) (b_this : BX6) : Option (Int) :=
  g_X6_isAhead_2 n n (0) b_this
def g_X6_compares_199 (n : Nat) : Nat → Int → BX6 → Option (BX6)
  | 0, _, _ => none
  | fu + 1, x4, b_this => (if (24 ≤ x4) then some b_this else qA x4 (24) (qA x4 (24) (oL (updZ (pX6_foundOn b_this) x4 ((pX6_stands b_this) x4)) (fun v_3 => oR ((x4 + 1)) (g_X6_compares_199 n fu (x4 + 1) (sX6_foundOn b_this v_3))))))
def g_X6_compares_169 (n : Nat) : Nat → Int → BX6 → Option (BX6)
  | 0, _, _ => none
  | fu + 1, x4, b_this => (if (8 ≤ x4) then g_X6_compares_199 n n (0) b_this else qA x4 (8) (qA x4 (8) (oL (updZ (pX6_found b_this) x4 ((pX6_tried b_this) x4)) (fun v_6 => oR ((x4 + 1)) (g_X6_compares_169 n fu (x4 + 1) (sX6_found b_this v_6))))))
def g_X6_compares_156 (n : Nat) (x1 : Int) (x2 : Int) (b_this : BX6) : Option (BX6) :=
  g_X6_compares_169 n n (0) (sX6_foundMoves (sX6_foundIncome b_this x1) x2)
def g_X6_compares_142 (n : Nat) (t0 : Int) (x1 : Int) (x2 : Int) (b_this : BX6) : Option (BX6) :=
  (if ((pX6_foundIncome b_this) = (-1)) then g_X6_compares_156 n x1 x2 b_this else (if (t0 = 0) then g_X6_compares_156 n x1 x2 b_this else some b_this))
def g_X6_compares_141 (n : Nat) (x1 : Int) (x2 : Int) (b_this : BX6) : Option (BX6) :=
  g_X6_compares_142 n (0) x1 x2 b_this
def g_X6_compares_137 (n : Nat) (x1 : Int) (x2 : Int) (b_this : BX6) : Option (BX6) :=
  g_X6_compares_142 n (1) x1 x2 b_this
def g_X6_compares_90 (n : Nat) (k14 : Int → Int → Int → BX6 → Option (BX6)) (t0 : Int) (t1 : Int) (x1 : Int) (x3 : Int) (b_this : BX6) : Option (BX6) :=
  oR ((t0 + t1)) (oL (t0 + t1) (fun y_7 => oR ((x3 + 1)) (k14 x1 y_7 (x3 + 1) b_this)))
def g_X6_compares_89 (n : Nat) (k14 : Int → Int → Int → BX6 → Option (BX6)) (t0 : Int) (x1 : Int) (x3 : Int) (b_this : BX6) : Option (BX6) :=
  g_X6_compares_90 n k14 t0 (0) x1 x3 b_this
def g_X6_compares_51 (n : Nat) (k14 : Int → Int → Int → BX6 → Option (BX6)) (t0 : Int) (t1 : Int) (x2 : Int) (x3 : Int) (b_this : BX6) : Option (BX6) :=
  oR ((t0 + t1)) (oL (t0 + t1) (fun y_8 => qA (107 + x3) (180) ((if (((pX6_a b_this) (107 + x3)) = (-1)) then g_X6_compares_89 n k14 x2 y_8 x3 b_this else qA x3 (8) (qA (107 + x3) (180) ((if (((pX6_tried b_this) x3) = ((pX6_a b_this) (107 + x3))) then g_X6_compares_89 n k14 x2 y_8 x3 b_this else g_X6_compares_90 n k14 x2 (1) y_8 x3 b_this)))))))
def g_X6_compares_14 (n : Nat) : Nat → Int → Int → Int → BX6 → Option (BX6)
  | 0, _, _, _, _ => none
  | fu + 1, x1, x2, x3, b_this => qA (74) (180) ((if (((pX6_a b_this) (74)) ≤ x3) then (if (x1 < (pX6_foundIncome b_this)) then g_X6_compares_137 n x1 x2 b_this else (if (x1 = (pX6_foundIncome b_this)) then (if ((pX6_foundMoves b_this) < x2) then g_X6_compares_137 n x1 x2 b_this else (if (x2 = (pX6_foundMoves b_this)) then oB (g_X6_isAhead n b_this) (fun r_13 => (if (r_13 = 0) then g_X6_compares_137 n x1 x2 b_this else g_X6_compares_141 n x1 x2 b_this)) else g_X6_compares_141 n x1 x2 b_this)) else g_X6_compares_141 n x1 x2 b_this)) else qA x3 (8) ((if (((pX6_tried b_this) x3) = (-1)) then g_X6_compares_51 n (g_X6_compares_14 n fu) x1 (0) x2 x3 b_this else qA x3 (8) (oB (g_X6_rentOf n b_this x3 ((pX6_tried b_this) x3)) (fun r_17 => g_X6_compares_51 n (g_X6_compares_14 n fu) x1 r_17 x2 x3 b_this))))))
def g_X6_compares (n : Nat) (b_this : BX6) : Option (BX6) :=
  oB (g_X6_isSound n b_this) (fun r_19 => (if (r_19 = 0) then some b_this else g_X6_compares_14 n n (0) (0) (0) b_this))
def g_X6_isTrader (b_this : BX6) (x1 : Int) : Option (Int) :=
  qA (74) (180) (oR ((((pX6_a b_this) (74)) - 1)) (oB (g_X6_isIn x1 (0) (((pX6_a b_this) (74)) - 1)) (fun r_2 => oG (zNb r_2 = r_2) (some r_2))))
def g_X6_contribution_14 (n : Nat) (t1 : Int) (x1 : Int) (b_this : BX6) : Option (Int × BX6) :=
  (if (t1 ≤ 0) then qA (179) (180) (oB2 (g_X6_plans n (sX6_thrown b_this t1) ((pX6_a b_this) (179))) (fun r_2 b_2 => qA (179) (180) (oB (g_X6_at (0) (zShl 1 x1) (8) ((pX6_a b_2) (179))) (fun r_9 => qA r_9 (345600) (qD ((pX6_best b_2) r_9) (16) (oR ((r_2 - (((pX6_best b_2) r_9) / 16))) (some ((r_2 - (((pX6_best b_2) r_9) / 16)), b_2)))))))) else some (0, (sX6_thrown b_this t1)))
def g_X6_contribution (n : Nat) (b_this : BX6) (x1 : Int) : Option (Int × BX6) :=
  oB (g_X6_isTrader b_this x1) (fun r_12 => (if (r_12 = 0) then g_X6_contribution_14 n (1) x1 b_this else g_X6_contribution_14 n (0) x1 b_this))
def g_X6_coverValue (n : Nat) (b_this : BX6) : Option (Int × BX6) :=
  qA (179) (180) (oB2 (g_X6_plans n (sX6_thrown b_this 0) ((pX6_a b_this) (179))) (fun r_2 b_2 => qA (179) (180) (oR ((((pX6_a b_2) (179)) + 1)) (oB2 (g_X6_plans n b_2 (((pX6_a b_2) (179)) + 1)) (fun r_9 b_60 => oR ((r_9 - r_2)) (some ((r_9 - r_2), b_60)))))))
def g_X6_usedCovers_47 (n : Nat) (k4 : Int → Int → BX6 → Option (Int)) (t0 : Int) (t1 : Int) (x2 : Int) (b_this : BX6) : Option (Int) :=
  oR ((t0 + t1)) (oL (t0 + t1) (fun y_1 => oR ((x2 + 1)) (k4 y_1 (x2 + 1) b_this)))
def g_X6_usedCovers_4 (n : Nat) : Nat → Int → Int → BX6 → Option (Int)
  | 0, _, _, _ => none
  | fu + 1, x1, x2, b_this => qA (74) (180) ((if (((pX6_a b_this) (74)) ≤ x2) then some x1 else qA (107 + x2) (180) ((if (((pX6_a b_this) (107 + x2)) = (-1)) then g_X6_usedCovers_47 n (g_X6_usedCovers_4 n fu) x1 (0) x2 b_this else qA (107 + x2) (180) (oB (g_X6_bare n b_this x2 ((pX6_a b_this) (107 + x2))) (fun r_5 => g_X6_usedCovers_47 n (g_X6_usedCovers_4 n fu) x1 r_5 x2 b_this))))))
def g_X6_usedCovers (n : Nat) (b_this : BX6) : Option (Int) :=
  g_X6_usedCovers_4 n n (0) (0) b_this
def g_X6_coversUsed (n : Nat) (b_this : BX6) : Option (Int × BX6) :=
  oB (g_X6_usedCovers n (sX6_thrown b_this 0)) (fun r_1 => some (r_1, (sX6_thrown b_this 0)))
def g_X6_is (b_this : BX6) (x1 : Int) : Option (Int) :=
  (if ((pX6_wrong b_this) = 0) then (if ((pX6_kind b_this) = x1) then some (1) else some (0)) else some (0))
def g_X6_see (b_this : BX6) (x1 : Int) : Option (Int) :=
  (if ((pX6_size b_this) ≤ x1) then some (-1) else qA x1 (600) (some ((pX6_buffer b_this) x1)))
def g_X6_isDigit (x0 : Int) : Option (Int) :=
  oB (g_X6_isIn x0 (48) (57)) (fun r_1 => oG (zNb r_1 = r_1) (some r_1))
def g_X6_isSmall (x0 : Int) : Option (Int) :=
  oB (g_X6_isIn x0 (97) (122)) (fun r_1 => oG (zNb r_1 = r_1) (some r_1))
def g_X6_keyAt_97 (n : Nat) (k4 : Int → Int → BX6 → Option (Int)) : Nat → Int → Int → BX6 → Option (Int)
  | 0, _, _, _ => none
  | fu + 1, x1, x2, b_this => oG (8 < jsN) (qA x2 ((jsLen.getD 8 0 : Nat) : Int) ((if (((jsCh 8 (Int.toNat x2)).toInt) = 32) then oR ((x1 + 1)) (oR ((x2 + 1)) (k4 (x1 + 1) (x2 + 1) b_this)) else oR ((x2 + 1)) (g_X6_keyAt_97 n k4 fu x1 (x2 + 1) b_this))))
def g_X6_keyAt_69 (n : Nat) (k4 : Int → Int → BX6 → Option (Int)) (x1 : Int) (x2 : Int) (x3 : Int) (b_this : BX6) : Option (Int) :=
  oG (8 < jsN) (qA (x2 + x3) ((jsLen.getD 8 0 : Nat) : Int) ((if (((jsCh 8 (Int.toNat (x2 + x3))).toInt) = 32) then oR (((pX6_at b_this) + x3)) ((if (((pX6_at b_this) + x3) = (pX6_behind b_this)) then some x1 else g_X6_keyAt_97 n k4 n x1 x2 b_this)) else g_X6_keyAt_97 n k4 n x1 x2 b_this)))
def g_X6_keyAt_15 (n : Nat) (k4 : Int → Int → BX6 → Option (Int)) : Nat → Int → Int → Int → BX6 → Option (Int)
  | 0, _, _, _, _ => none
  | fu + 1, x1, x2, x3, b_this => oG (8 < jsN) (qA (x2 + x3) ((jsLen.getD 8 0 : Nat) : Int) ((if (((jsCh 8 (Int.toNat (x2 + x3))).toInt) = 32) then g_X6_keyAt_69 n k4 x1 x2 x3 b_this else oR (((pX6_at b_this) + x3)) ((if ((pX6_behind b_this) ≤ ((pX6_at b_this) + x3)) then g_X6_keyAt_69 n k4 x1 x2 x3 b_this else qA ((pX6_at b_this) + x3) (600) (oG (8 < jsN) (qA (x2 + x3) ((jsLen.getD 8 0 : Nat) : Int) ((if (((pX6_buffer b_this) ((pX6_at b_this) + x3)) = ((jsCh 8 (Int.toNat (x2 + x3))).toInt)) then oR ((x3 + 1)) (g_X6_keyAt_15 n k4 fu x1 x2 (x3 + 1) b_this) else g_X6_keyAt_69 n k4 x1 x2 x3 b_this)))))))))
def g_X6_keyAt_4 (n : Nat) : Nat → Int → Int → BX6 → Option (Int)
  | 0, _, _, _ => none
  | fu + 1, x1, x2, b_this => oG (8 < jsN) (oR (((jsLen.getD 8 0 : Nat) : Int)) ((if (((jsLen.getD 8 0 : Nat) : Int) ≤ x2) then some (8) else g_X6_keyAt_15 n (g_X6_keyAt_4 n fu) n x1 x2 (0) b_this)))
def g_X6_keyAt (n : Nat) (b_this : BX6) : Option (Int) :=
  g_X6_keyAt_4 n n (0) (1) b_this
def g_X6_next_237 (n : Nat) (t1 : Int) (b_this : BX6) : Option (BX6) :=
  some (sX6_kind b_this t1)
def g_X6_next_184 (n : Nat) (k133 : BX6 → Option (BX6)) (b_this : BX6) : Option (BX6) :=
  oR (((pX6_behind b_this) + 1)) (oL ((pX6_behind b_this) + 1) (fun y_1 => k133 (sX6_behind b_this y_1)))
def g_X6_next_133 (n : Nat) : Nat → BX6 → Option (BX6)
  | 0, _ => none
  | fu + 1, b_this => oB (g_X6_see b_this (pX6_behind b_this)) (fun r_2 => oB (g_X6_isDigit r_2) (fun r_4 => (if (r_4 = 0) then some (sX6_kind b_this 9) else (if (100000 ≤ (pX6_number b_this)) then g_X6_next_184 n (g_X6_next_133 n fu) b_this else oB (g_X6_see b_this (pX6_behind b_this)) (fun r_6 => oRJ ((((10 * (pX6_number b_this)) + r_6) - 48)) (oL (((10 * (pX6_number b_this)) + r_6) - 48) (fun y_8 => g_X6_next_184 n (g_X6_next_133 n fu) (sX6_number b_this y_8))))))))
def g_X6_next_76 (n : Nat) : Nat → BX6 → Option (BX6)
  | 0, _ => none
  | fu + 1, b_this => oB (g_X6_see b_this (pX6_behind b_this)) (fun r_9 => oB (g_X6_isSmall r_9) (fun r_11 => (if (r_11 = 0) then oB (g_X6_keyAt n b_this) (fun r_13 => some (sX6_kind b_this r_13)) else oR (((pX6_behind b_this) + 1)) (oL ((pX6_behind b_this) + 1) (fun y_15 => g_X6_next_76 n fu (sX6_behind b_this y_15))))))
def g_X6_next_8 (n : Nat) : Nat → BX6 → Option (BX6)
  | 0, _ => none
  | fu + 1, b_this => oB (g_X6_see b_this (pX6_at b_this)) (fun r_16 => (if (r_16 = 32) then oR (((pX6_at b_this) + 1)) (oL ((pX6_at b_this) + 1) (fun y_29 => g_X6_next_8 n fu (sX6_at b_this y_29))) else (if ((pX6_at b_this) < (pX6_size b_this)) then oB (g_X6_see (sX6_behind b_this (pX6_at b_this)) (pX6_at b_this)) (fun r_18 => oB (g_X6_isSmall r_18) (fun r_20 => (if (r_20 = 0) then oB (g_X6_see (sX6_behind b_this (pX6_at b_this)) (pX6_at b_this)) (fun r_22 => oB (g_X6_isDigit r_22) (fun r_24 => (if (r_24 = 0) then oR (((pX6_at b_this) + 1)) (oL ((pX6_at b_this) + 1) (fun y_26 => oB (g_X6_see (sX6_behind b_this y_26) (pX6_at b_this)) (fun r_27 => (if (r_27 = 59) then g_X6_next_237 n (10) (sX6_behind b_this y_26) else g_X6_next_237 n (12) (sX6_behind b_this y_26))))) else g_X6_next_133 n n (sX6_number (sX6_behind b_this (pX6_at b_this)) 0)))) else g_X6_next_76 n n (sX6_behind b_this (pX6_at b_this))))) else some (sX6_kind (sX6_behind b_this (pX6_at b_this)) 11))))
def g_X6_next (n : Nat) (b_this : BX6) : Option (BX6) :=
  g_X6_next_8 n n (sX6_at b_this (pX6_behind b_this))
def g_X6_eats (n : Nat) (b_this : BX6) (x1 : Int) : Option (Int × BX6) :=
  oB (g_X6_is b_this x1) (fun r_1 => (if (r_1 = 0) then some (0, b_this) else oB (g_X6_next n b_this) (fun b_2 => some (1, b_2))))
def g_X6_errorPosition (b_this : BX6) : Option (Int × BX6) :=
  some ((pX6_errorAt b_this), (sX6_thrown b_this 0))
def g_X6_isSheltered_73 (n : Nat) (b_this : BX6) : Option (Int) :=
  some (1)
def g_X6_isSheltered_49 (n : Nat) (k4 : Int → Int → Int → BX6 → Option (Int)) (t0 : Int) (x1 : Int) (x3 : Int) (b_this : BX6) : Option (Int) :=
  oR ((x3 + 1)) (k4 x1 t0 (x3 + 1) b_this)
def g_X6_isSheltered_48 (n : Nat) (k4 : Int → Int → Int → BX6 → Option (Int)) (x1 : Int) (x3 : Int) (b_this : BX6) : Option (Int) :=
  g_X6_isSheltered_49 n k4 (0) x1 x3 b_this
def g_X6_isSheltered_4 (n : Nat) : Nat → Int → Int → Int → BX6 → Option (Int)
  | 0, _, _, _, _ => none
  | fu + 1, x1, x2, x3, b_this => qA (83 + x1) (180) ((if (((pX6_a b_this) (83 + x1)) ≤ x3) then (if (x2 = 0) then qA (99 + x1) (180) ((if (((pX6_a b_this) (99 + x1)) = 1) then g_X6_isSheltered_73 n b_this else some (0))) else g_X6_isSheltered_73 n b_this) else (if (x2 = 0) then g_X6_isSheltered_48 n (g_X6_isSheltered_4 n fu) x1 x3 b_this else qA (107 + x1) (180) (qA ((26 + ((pX6_a b_this) (107 + x1))) + x3) (180) ((if (((pX6_a b_this) ((26 + ((pX6_a b_this) (107 + x1))) + x3)) = 1) then g_X6_isSheltered_49 n (g_X6_isSheltered_4 n fu) (1) x1 x3 b_this else g_X6_isSheltered_48 n (g_X6_isSheltered_4 n fu) x1 x3 b_this))))))
def g_X6_isSheltered (n : Nat) (b_this : BX6) (x1 : Int) : Option (Int) :=
  g_X6_isSheltered_4 n n x1 (1) (0) b_this
def g_X6_expectedIncome_121 (n : Nat) (x3 : UInt64) (b_this : BX6) : Option (UInt64 × BX6) :=
  some (x3, b_this)
def g_X6_expectedIncome_115 (n : Nat) (k26 : UInt64 → UInt64 → Int → BX6 → Option (UInt64 × BX6)) (x1 : UInt64) (x3 : UInt64) (x5 : Int) (b_this : BX6) : Option (UInt64 × BX6) :=
  oR ((x5 + 1)) (k26 x1 x3 (x5 + 1) b_this)
def g_X6_expectedIncome_113 (n : Nat) (k26 : UInt64 → UInt64 → Int → BX6 → Option (UInt64 × BX6)) (t0 : UInt64) (t1 : UInt64) (x1 : UInt64) (x5 : Int) (b_this : BX6) : Option (UInt64 × BX6) :=
  oN (FP.dadd t0 t1) (fun z_1 => g_X6_expectedIncome_115 n k26 x1 z_1 x5 b_this)
def g_X6_expectedIncome_26 (n : Nat) : Nat → UInt64 → UInt64 → Int → BX6 → Option (UInt64 × BX6)
  | 0, _, _, _, _ => none
  | fu + 1, x1, x3, x5, b_this => qA (74) (180) ((if (((pX6_a b_this) (74)) ≤ x5) then g_X6_expectedIncome_121 n x3 b_this else (if ((pX6_thrown b_this) = 0) then qA (107 + x5) (180) ((if (((pX6_a b_this) (107 + x5)) = (-1)) then g_X6_expectedIncome_115 n (g_X6_expectedIncome_26 n fu) x1 x3 x5 b_this else qA (107 + x5) (180) (oB (g_X6_rentOf n b_this x5 ((pX6_a b_this) (107 + x5))) (fun r_6 => oB (g_X6_isSheltered n b_this x5) (fun r_8 => (if (r_8 = 0) then oN (FP.dsub FP.dconst1 x1) (fun z_10 => oN (FP.dmul (FP.i2d (Int32.ofInt r_6)) z_10) (fun z_12 => oN (FP.dmul (FP.i2d (Int32.ofInt r_6)) (4602678819172646912 : UInt64)) (fun z_14 => oN (FP.dmul z_14 x1) (fun z_16 => oN (FP.dadd z_12 z_16) (fun z_18 => g_X6_expectedIncome_113 n (g_X6_expectedIncome_26 n fu) x3 z_18 x1 x5 b_this))))) else g_X6_expectedIncome_113 n (g_X6_expectedIncome_26 n fu) x3 (FP.i2d (Int32.ofInt r_6)) x1 x5 b_this)))))) else g_X6_expectedIncome_121 n x3 b_this)))
def g_X6_expectedIncome_18 (n : Nat) (t1 : Int) (x1 : UInt64) (b_this : BX6) : Option (UInt64 × BX6) :=
  g_X6_expectedIncome_26 n n x1 FP.dconst0 (0) (sX6_thrown b_this t1)
def g_X6_expectedIncome_17 (n : Nat) (x1 : UInt64) (b_this : BX6) : Option (UInt64 × BX6) :=
  g_X6_expectedIncome_18 n (1) x1 b_this
def g_X6_expectedIncome (n : Nat) (b_this : BX6) (x1 : UInt64) : Option (UInt64 × BX6) :=
  (if (((dcL x1 FP.dconst0).toInt) < 0) then g_X6_expectedIncome_17 n x1 b_this else (if (0 < ((dcG x1 FP.dconst1).toInt)) then g_X6_expectedIncome_17 n x1 b_this else g_X6_expectedIncome_18 n (0) x1 b_this))
def g_X6_fails (b_this : BX6) (x1 : Int) : Option (BX6) :=
  (if ((pX6_wrong b_this) = 0) then some (sX6_wrongAt (sX6_wrong b_this x1) (pX6_at b_this)) else some b_this)
def g_X6_incomeNow_47 (n : Nat) (k4 : Int → Int → BX6 → Option (Int)) (t0 : Int) (t1 : Int) (x2 : Int) (b_this : BX6) : Option (Int) :=
  oR ((t0 + t1)) (oL (t0 + t1) (fun y_1 => oR ((x2 + 1)) (k4 y_1 (x2 + 1) b_this)))
def g_X6_incomeNow_4 (n : Nat) : Nat → Int → Int → BX6 → Option (Int)
  | 0, _, _, _ => none
  | fu + 1, x1, x2, b_this => qA (74) (180) ((if (((pX6_a b_this) (74)) ≤ x2) then some x1 else qA (107 + x2) (180) ((if (((pX6_a b_this) (107 + x2)) = (-1)) then g_X6_incomeNow_47 n (g_X6_incomeNow_4 n fu) x1 (0) x2 b_this else qA (107 + x2) (180) (oB (g_X6_rentOf n b_this x2 ((pX6_a b_this) (107 + x2))) (fun r_5 => g_X6_incomeNow_47 n (g_X6_incomeNow_4 n fu) x1 r_5 x2 b_this))))))
def g_X6_incomeNow (n : Nat) (b_this : BX6) : Option (Int) :=
  g_X6_incomeNow_4 n n (0) (0) b_this
def g_X6_isFree_2 (n : Nat) : Nat → Int → Int → Int → BX6 → Option (Int)
  | 0, _, _, _, _ => none
  | fu + 1, x1, x2, x3, b_this => qA (83 + x1) (180) ((if (((pX6_a b_this) (83 + x1)) ≤ x3) then some (1) else oR ((x2 + x3)) (oB (g_X6_on n b_this (x2 + x3)) (fun r_2 => (if (r_2 = (-1)) then oR ((x3 + 1)) (g_X6_isFree_2 n fu x1 x2 (x3 + 1) b_this) else some (0))))))
def g_X6_isFree (n : Nat) (b_this : BX6) (x1 : Int) (x2 : Int) : Option (Int) :=
  g_X6_isFree_2 n n x1 x2 (0) b_this
def g_X6_hinders_113 (n : Nat) (b_this : BX6) : Option (Int) :=
  some (6)
def g_X6_hinders (n : Nat) (b_this : BX6) (x1 : Int) (x2 : Int) : Option (Int) :=
  qA (107 + x1) (180) ((if (((pX6_a b_this) (107 + x1)) = (-1)) then oB (g_X6_isRoom b_this x1 x2) (fun r_2 => (if (r_2 = 0) then some (2) else oB (g_X6_isFree n b_this x1 x2) (fun r_4 => (if (r_4 = 0) then some (3) else oB (g_X6_rentOf n b_this x1 x2) (fun r_6 => qA (91 + x1) (180) ((if (r_6 ≤ ((pX6_a b_this) (91 + x1))) then oB (g_X6_usedCovers n b_this) (fun r_9 => oB (g_X6_bare n b_this x1 x2) (fun r_11 => qA (179) (180) (oR ((r_9 + r_11)) ((if ((r_9 + r_11) ≤ ((pX6_a b_this) (179))) then oR ((x2 - 1)) (oB (g_X6_clashesAt n b_this x1 x2 (x2 - 1)) (fun r_14 => (if (r_14 = 0) then qA (83 + x1) (180) (oR ((x2 + ((pX6_a b_this) (83 + x1)))) (oB (g_X6_clashesAt n b_this x1 x2 (x2 + ((pX6_a b_this) (83 + x1)))) (fun r_17 => (if (r_17 = 0) then some (0) else g_X6_hinders_113 n b_this)))) else g_X6_hinders_113 n b_this))) else some (5)))))) else some (4)))))))) else some (1)))
def g_X6_takesStart_45 (n : Nat) (k4 : Int → Int → Int → BX6 → Option (Int)) (x1 : Int) (x2 : Int) (x3 : Int) (b_this : BX6) : Option (Int) :=
  oR ((x3 + 1)) (k4 x1 x2 (x3 + 1) b_this)
def g_X6_takesStart_43 (n : Nat) (k4 : Int → Int → Int → BX6 → Option (Int)) (x1 : Int) (x3 : Int) (b_this : BX6) : Option (Int) :=
  g_X6_takesStart_45 n k4 x1 x3 x3 b_this
def g_X6_takesStart_4 (n : Nat) : Nat → Int → Int → Int → BX6 → Option (Int)
  | 0, _, _, _, _ => none
  | fu + 1, x1, x2, x3, b_this => qA (1) (180) ((if (((pX6_a b_this) (1)) ≤ x3) then some x2 else oB (g_X6_hinders n b_this x1 x3) (fun r_2 => (if (r_2 = 0) then (if (x2 = (-1)) then g_X6_takesStart_43 n (g_X6_takesStart_4 n fu) x1 x3 b_this else oB (g_X6_rentOf n b_this x1 x3) (fun r_4 => oB (g_X6_rentOf n b_this x1 x2) (fun r_6 => (if (r_4 ≤ r_6) then g_X6_takesStart_45 n (g_X6_takesStart_4 n fu) x1 x2 x3 b_this else g_X6_takesStart_43 n (g_X6_takesStart_4 n fu) x1 x3 b_this)))) else g_X6_takesStart_45 n (g_X6_takesStart_4 n fu) x1 x2 x3 b_this))))
def g_X6_takesStart (n : Nat) (b_this : BX6) (x1 : Int) : Option (Int) :=
  g_X6_takesStart_4 n n x1 (-1) (0) b_this
def g_X6_isOrder_5 (n : Nat) : Nat → Int → Int → Int → BX6 → Option (Int)
  | 0, _, _, _, _ => none
  | fu + 1, x1, x3, x4, b_this => (if (x4 ≤ 0) then (if (x1 < 0) then some (0) else some (1)) else qD x4 (10) (oRJ ((x4 % 10)) (oR (((x4 % 10) - 1)) (oL ((x4 % 10) - 1) (fun y_1 => oB (g_X6_isTrader b_this y_1) (fun r_2 => (if (r_2 = 0) then some (0) else (if ((zAnd (zShr x3 y_1) 1) = 1) then some (0) else oL (zOr x3 (zShl 1 y_1)) (fun y_4 => oRJ ((x4 / 10)) (oL (x4 / 10) (fun y_5 => g_X6_isOrder_5 n fu x1 y_4 y_5 b_this)))))))))))
def g_X6_isOrder (n : Nat) (b_this : BX6) (x1 : Int) : Option (Int) :=
  g_X6_isOrder_5 n n x1 (0) x1 b_this
def g_X6_firstCome_151 (n : Nat) : Nat → Int → Int → BX6 → Option (Int × BX6)
  | 0, _, _, _ => none
  | fu + 1, x5, x6, b_this => (if (8 ≤ x6) then some (x5, b_this) else qA x6 (8) (qA (107 + x6) (180) (oL (updZ (pX6_a b_this) (107 + x6) ((pX6_found b_this) x6)) (fun v_3 => oR ((x6 + 1)) (g_X6_firstCome_151 n fu x5 (x6 + 1) (sX6_a b_this v_3))))))
def g_X6_firstCome_142 (n : Nat) (b_this : BX6) : Option (Int × BX6) :=
  oB (g_X6_incomeNow n b_this) (fun r_4 => g_X6_firstCome_151 n n r_4 (0) b_this)
def g_X6_firstCome_89 (n : Nat) : Nat → Int → Int → BX6 → Option (Int × BX6)
  | 0, _, _, _ => none
  | fu + 1, x1, x5, b_this => (if (x5 ≤ 0) then g_X6_firstCome_142 n b_this else (if (x1 ≤ 0) then g_X6_firstCome_142 n b_this else oG (¬ x5 = 0) (qD x1 x5 (oRJ ((x1 / x5)) (qD (x1 / x5) (10) (oRJ (((x1 / x5) % 10)) (oR ((((x1 / x5) % 10) - 1)) (oL (((x1 / x5) % 10) - 1) (fun y_7 => oB (g_X6_takesStart n b_this y_7) (fun r_8 => qA (107 + y_7) (180) (oL (updZ (pX6_a b_this) (107 + y_7) r_8) (fun v_11 => qD x5 (10) (oRJ ((x5 / 10)) (oL (x5 / 10) (fun y_12 => g_X6_firstCome_89 n fu x1 y_12 (sX6_a b_this v_11))))))))))))))))
def g_X6_firstCome_67 (n : Nat) : Nat → Int → Int → BX6 → Option (Int × BX6)
  | 0, _, _, _ => none
  | fu + 1, x1, x3, b_this => qD x1 (10) (oRJ ((x1 / 10)) ((if ((x1 / 10) < x3) then g_X6_firstCome_89 n n x1 x3 b_this else oRJ ((10 * x3)) (oL (10 * x3) (fun y_13 => g_X6_firstCome_67 n fu x1 y_13 b_this)))))
def g_X6_firstCome_28 (n : Nat) : Nat → Int → Int → BX6 → Option (Int × BX6)
  | 0, _, _, _ => none
  | fu + 1, x1, x3, b_this => (if (8 ≤ x3) then g_X6_firstCome_67 n n x1 (1) b_this else qA (107 + x3) (180) (qA x3 (8) (oL (updZ (pX6_found b_this) x3 ((pX6_a b_this) (107 + x3))) (fun v_16 => qA (107 + x3) (180) (oL (updZ (pX6_a b_this) (107 + x3) (-1)) (fun v_18 => oR ((x3 + 1)) (g_X6_firstCome_28 n fu x1 (x3 + 1) (sX6_found (sX6_a b_this v_18) v_16))))))))
def g_X6_firstCome_14 (n : Nat) (t1 : Int) (x1 : Int) (b_this : BX6) : Option (Int × BX6) :=
  (if (t1 ≤ 0) then g_X6_firstCome_28 n n x1 (0) (sX6_thrown b_this t1) else some (0, (sX6_thrown b_this t1)))
def g_X6_firstCome (n : Nat) (b_this : BX6) (x1 : Int) : Option (Int × BX6) :=
  oB (g_X6_isOrder n b_this x1) (fun r_19 => (if (r_19 = 0) then g_X6_firstCome_14 n (1) x1 b_this else g_X6_firstCome_14 n (0) x1 b_this))
def g_X6_traderValue_14 (t1 : Int) (x1 : Int) (x2 : Int) (b_this : BX6) : Option (Int × BX6) :=
  (if (t1 ≤ 0) then qA (x1 + x2) (180) (some (((pX6_a b_this) (x1 + x2)), (sX6_thrown b_this t1))) else some (0, (sX6_thrown b_this t1)))
def g_X6_traderValue (b_this : BX6) (x1 : Int) (x2 : Int) : Option (Int × BX6) :=
  oB (g_X6_isTrader b_this x2) (fun r_2 => (if (r_2 = 0) then g_X6_traderValue_14 (1) x1 x2 b_this else g_X6_traderValue_14 (0) x1 x2 b_this))
def g_X6_frontage (b_this : BX6) (x1 : Int) : Option (Int × BX6) :=
  oB2 (g_X6_traderValue b_this (83) x1) (fun r_1 b_1 => some (r_1, b_1))
def g_X6_income (n : Nat) (b_this : BX6) : Option (Int × BX6) :=
  oB (g_X6_incomeNow n (sX6_thrown b_this 0)) (fun r_1 => some (r_1, (sX6_thrown b_this 0)))
def g_X6_refusesInsertion (b_this : BX6) (x1 : Int) (x2 : Int) : Option (Int) :=
  oB (g_X6_isTrader b_this x1) (fun r_1 => (if (r_1 = 0) then some (1) else oB (g_X6_isIn x2 (0) (2)) (fun r_3 => (if (r_3 = 0) then some (2) else qA (107 + x1) (180) ((if (((pX6_a b_this) (107 + x1)) = (-1)) then some (0) else some (3)))))))
def g_X6_seeks_72 (n : Nat) (rc : BX6 → Int → Option (BX6)) (k22 : Int → Int → Int → BX6 → Option (BX6)) (x1 : Int) (x2 : Int) (x3 : Int) (b_this : BX6) : Option (BX6) :=
  oR ((x3 + 1)) (k22 x1 x2 (x3 + 1) b_this)
def g_X6_seeks_22 (n : Nat) (rc : BX6 → Int → Option (BX6)) : Nat → Int → Int → Int → BX6 → Option (BX6)
  | 0, _, _, _, _ => none
  | fu + 1, x1, x2, x3, b_this => qA (1) (180) ((if (((pX6_a b_this) (1)) ≤ x3) then some b_this else oB (g_X6_fits n b_this x2 x3) (fun r_2 => (if (r_2 = 0) then g_X6_seeks_72 n rc (g_X6_seeks_22 n rc fu) x1 x2 x3 b_this else oB (g_X6_lays n b_this x2 x3 x2) (fun b_4 => qA x2 (8) (oL (updZ (pX6_tried b_4) x2 x3) (fun v_7 => oR ((x1 + 1)) (oB (rc (sX6_tried b_4 v_7) (x1 + 1)) (fun b_43 => oB (g_X6_lays n b_43 x2 x3 (-1)) (fun b_97 => g_X6_seeks_72 n rc (g_X6_seeks_22 n rc fu) x1 x2 x3 b_97))))))))))
def g_X6_seeks (n : Nat) : Nat → BX6 → Int → Option (BX6)
  | 0, _, _ => none
  | d + 1, b_this, x1 => (if (x1 = (pX6_movingMany b_this)) then oB (g_X6_compares n b_this) (fun b_134 => some b_134) else qA x1 (3) (oL ((pX6_moving b_this) x1) (fun y_18 => g_X6_seeks_22 n (g_X6_seeks n d) n x1 y_18 (0) b_this)))
def g_X6_triesMoving_108 (n : Nat) (k23 : Int → BX6 → Option (BX6)) (x1 : Int) (b_this : BX6) : Option (BX6) :=
  oR ((x1 + 1)) (k23 (x1 + 1) b_this)
def g_X6_triesMoving_75 (n : Nat) (k23 : Int → BX6 → Option (BX6)) (k48 : Int → Int → Int → BX6 → Option (BX6)) (t0 : Int) (x1 : Int) (x3 : Int) (b_this : BX6) : Option (BX6) :=
  oR ((x3 + 1)) (k48 x1 t0 (x3 + 1) b_this)
def g_X6_triesMoving_70 (n : Nat) (k23 : Int → BX6 → Option (BX6)) (k48 : Int → Int → Int → BX6 → Option (BX6)) (x1 : Int) (x3 : Int) (b_this : BX6) : Option (BX6) :=
  g_X6_triesMoving_75 n k23 k48 (1) x1 x3 b_this
def g_X6_triesMoving_48 (n : Nat) (k23 : Int → BX6 → Option (BX6)) : Nat → Int → Int → Int → BX6 → Option (BX6)
  | 0, _, _, _, _ => none
  | fu + 1, x1, x2, x3, b_this => (if ((pX6_movingMany b_this) ≤ x3) then qA x1 (8) ((if (((pX6_tried b_this) x1) = (-1)) then g_X6_triesMoving_108 n k23 x1 b_this else (if (x2 = 0) then qA x1 (8) (oB (g_X6_lays n b_this x1 ((pX6_tried b_this) x1) x1) (fun b_5 => g_X6_triesMoving_108 n k23 x1 b_5)) else g_X6_triesMoving_108 n k23 x1 b_this))) else (if (x2 = 0) then qA x3 (3) ((if (((pX6_moving b_this) x3) = x1) then g_X6_triesMoving_70 n k23 (g_X6_triesMoving_48 n k23 fu) x1 x3 b_this else g_X6_triesMoving_75 n k23 (g_X6_triesMoving_48 n k23 fu) (0) x1 x3 b_this)) else g_X6_triesMoving_70 n k23 (g_X6_triesMoving_48 n k23 fu) x1 x3 b_this))
def g_X6_triesMoving_23 (n : Nat) : Nat → Int → BX6 → Option (BX6)
  | 0, _, _ => none
  | fu + 1, x1, b_this => (if (8 ≤ x1) then oB (g_X6_seeks n 5 b_this (0)) (fun b_43 => some b_43) else qA (107 + x1) (180) (qA x1 (8) (oL (updZ (pX6_tried b_this) x1 ((pX6_a b_this) (107 + x1))) (fun v_15 => g_X6_triesMoving_48 n (g_X6_triesMoving_23 n fu) n x1 (0) (0) (sX6_tried b_this v_15)))))
def g_X6_triesMoving_2 (n : Nat) : Nat → Int → BX6 → Option (BX6)
  | 0, _, _ => none
  | fu + 1, x1, b_this => (if (24 ≤ x1) then g_X6_triesMoving_23 n n (0) b_this else qA x1 (24) (oL (updZ (pX6_stands b_this) x1 (-1)) (fun v_17 => oR ((x1 + 1)) (g_X6_triesMoving_2 n fu (x1 + 1) (sX6_stands b_this v_17)))))
def g_X6_triesMoving (n : Nat) (b_this : BX6) : Option (BX6) :=
  g_X6_triesMoving_2 n n (0) b_this
def g_X6_seeksInsertion_137 (n : Nat) (k28 : Int → Int → BX6 → Option (BX6)) (x2 : Int) (x3 : Int) (b_this : BX6) : Option (BX6) :=
  oR ((x3 + 1)) (k28 x2 (x3 + 1) b_this)
def g_X6_seeksInsertion_131 (n : Nat) (k28 : Int → Int → BX6 → Option (BX6)) (k80 : Int → Int → Int → BX6 → Option (BX6)) (x2 : Int) (x3 : Int) (x4 : Int) (b_this : BX6) : Option (BX6) :=
  oR ((x4 + 1)) (k80 x2 x3 (x4 + 1) b_this)
def g_X6_seeksInsertion_80 (n : Nat) (k28 : Int → Int → BX6 → Option (BX6)) : Nat → Int → Int → Int → BX6 → Option (BX6)
  | 0, _, _, _, _ => none
  | fu + 1, x2, x3, x4, b_this => qA (74) (180) ((if (((pX6_a b_this) (74)) ≤ x4) then g_X6_seeksInsertion_137 n k28 x2 x3 b_this else (if (x2 ≤ 1) then g_X6_seeksInsertion_137 n k28 x2 x3 b_this else qA (107 + x4) (180) ((if (((pX6_a b_this) (107 + x4)) = (-1)) then g_X6_seeksInsertion_131 n k28 (g_X6_seeksInsertion_80 n k28 fu) x2 x3 x4 b_this else qA (2) (3) (oL (updZ (pX6_moving b_this) (2) x4) (fun v_4 => oB (g_X6_triesMoving n (sX6_movingMany (sX6_moving b_this v_4) 3)) (fun b_6 => g_X6_seeksInsertion_131 n k28 (g_X6_seeksInsertion_80 n k28 fu) x2 x3 x4 b_6))))))))
def g_X6_seeksInsertion_28 (n : Nat) : Nat → Int → Int → BX6 → Option (BX6)
  | 0, _, _, _ => none
  | fu + 1, x2, x3, b_this => qA (74) (180) ((if (((pX6_a b_this) (74)) ≤ x3) then some b_this else (if (x2 ≤ 0) then some b_this else qA (107 + x3) (180) ((if (((pX6_a b_this) (107 + x3)) = (-1)) then g_X6_seeksInsertion_137 n (g_X6_seeksInsertion_28 n fu) x2 x3 b_this else qA (1) (3) (oL (updZ (pX6_moving b_this) (1) x3) (fun v_15 => oB (g_X6_triesMoving n (sX6_movingMany (sX6_moving b_this v_15) 2)) (fun b_63 => oR ((x3 + 1)) (oL (x3 + 1) (fun y_23 => g_X6_seeksInsertion_80 n (g_X6_seeksInsertion_28 n fu) n x2 x3 y_23 b_63))))))))))
def g_X6_seeksInsertion (n : Nat) (b_this : BX6) (x1 : Int) (x2 : Int) : Option (BX6) :=
  qA (0) (3) (oL (updZ (pX6_moving b_this) (0) x1) (fun v_25 => oB (g_X6_triesMoving n (sX6_foundMoves (sX6_foundIncome (sX6_movingMany (sX6_moving b_this v_25) 1) (-1)) 0)) (fun b_119 => g_X6_seeksInsertion_28 n n x2 (0) b_119)))
def g_X6_insert_57 (n : Nat) : Nat → Int → BX6 → Option (Int × BX6)
  | 0, _, _ => none
  | fu + 1, x3, b_this => (if (8 ≤ x3) then some ((pX6_foundMoves b_this), b_this) else qA x3 (8) (qA (107 + x3) (180) (oL (updZ (pX6_a b_this) (107 + x3) ((pX6_found b_this) x3)) (fun v_3 => oR ((x3 + 1)) (g_X6_insert_57 n fu (x3 + 1) (sX6_a b_this v_3))))))
def g_X6_insert_39 (n : Nat) (t1 : Int) (b_this : BX6) : Option (Int × BX6) :=
  (if (t1 ≤ 0) then oB (g_X6_keeps n (sX6_thrown b_this t1)) (fun b_4 => g_X6_insert_57 n n (0) b_4) else some (0, (sX6_thrown b_this t1)))
def g_X6_insert (n : Nat) (b_this : BX6) (x1 : Int) (x2 : Int) : Option (Int × BX6) :=
  oB (g_X6_refusesInsertion b_this x1 x2) (fun r_7 => (if (r_7 ≤ 0) then oB (g_X6_seeksInsertion n (sX6_thrown b_this r_7) x1 x2) (fun b_70 => (if ((pX6_foundIncome b_70) = (-1)) then g_X6_insert_39 n (3) b_70 else g_X6_insert_39 n (0) b_70)) else some (0, (sX6_thrown b_this r_7))))
def g_X6_insertionIncome (n : Nat) (b_this : BX6) (x1 : Int) (x2 : Int) : Option (Int × BX6) :=
  oB (g_X6_refusesInsertion b_this x1 x2) (fun r_1 => (if (r_1 ≤ 0) then oB (g_X6_seeksInsertion n (sX6_thrown b_this r_1) x1 x2) (fun b_2 => some ((pX6_foundIncome b_2), b_2)) else some (0, (sX6_thrown b_this r_1))))
def g_X6_pitchValue_14 (t1 : Int) (x1 : Int) (x2 : Int) (b_this : BX6) : Option (Int × BX6) :=
  (if (t1 ≤ 0) then qA (x1 + x2) (180) (some (((pX6_a b_this) (x1 + x2)), (sX6_thrown b_this t1))) else some (0, (sX6_thrown b_this t1)))
def g_X6_pitchValue (b_this : BX6) (x1 : Int) (x2 : Int) : Option (Int × BX6) :=
  oB (g_X6_isPitch b_this x2) (fun r_2 => (if (r_2 = 0) then g_X6_pitchValue_14 (1) x1 x2 b_this else g_X6_pitchValue_14 (0) x1 x2 b_this))
def g_X6_isRoofed (b_this : BX6) (x1 : Int) : Option (Int × BX6) :=
  oB2 (g_X6_pitchValue b_this (26) x1) (fun r_1 b_1 => (if (r_1 = 1) then some (1, b_1) else some (0, b_1)))
def g_X6_needs (n : Nat) (b_this : BX6) (x1 : Int) : Option (BX6) :=
  oB2 (g_X6_eats n b_this x1) (fun r_1 b_1 => (if (r_1 = 0) then oB (g_X6_fails b_1 (-2)) (fun b_35 => some b_35) else some b_1))
def g_X6_takes_38 (n : Nat) (b_this : BX6) : Option (Int × BX6) :=
  oR ((pX6_number b_this)) (oL (pX6_number b_this) (fun y_1 => (if ((pX6_wrong b_this) = 0) then oB (g_X6_next n b_this) (fun b_2 => some (y_1, b_2)) else some (y_1, b_this))))
def g_X6_takes (n : Nat) (b_this : BX6) (x1 : Int) (x2 : Int) : Option (Int × BX6) :=
  oB (g_X6_is b_this (9)) (fun r_7 => (if (r_7 = 0) then oB (g_X6_fails b_this (-2)) (fun b_36 => g_X6_takes_38 n b_36) else oB (g_X6_isIn (pX6_number b_this) x1 x2) (fun r_9 => (if (r_9 = 0) then oB (g_X6_fails b_this (-3)) (fun b_72 => g_X6_takes_38 n b_72) else g_X6_takes_38 n b_this))))
def g_X6_readsTrader_127 (n : Nat) (t1 : Int) (t2 : Int) (b_this : BX6) : Option (BX6) :=
  qA t1 (180) (oL (updZ (pX6_fresh b_this) t1 t2) (fun v_2 => qA (74) (180) (qA (74) (180) (oR (((v_2 (74)) + 1)) (oL (updZ v_2 (74) ((v_2 (74)) + 1)) (fun v_5 => some (sX6_fresh b_this v_5)))))))
def g_X6_readsTrader_20 (n : Nat) (x1 : Int) (b_this : BX6) : Option (BX6) :=
  (if ((pX6_wrong b_this) = 0) then oB (g_X6_next n b_this) (fun b_5 => oB2 (g_X6_takes n b_5 (0) (7)) (fun r_11 b_39 => oB (g_X6_needs n b_39 (2)) (fun b_72 => oB2 (g_X6_takes n b_72 (1) (3)) (fun r_26 b_104 => oB (g_X6_needs n b_104 (3)) (fun b_137 => oB2 (g_X6_takes n b_137 (1) (9999)) (fun r_41 b_169 => (if ((pX6_wrong b_169) = 0) then qA (75 + x1) (180) (oL (updZ (pX6_fresh b_169) (75 + x1) r_11) (fun v_50 => qA (83 + x1) (180) (oL (updZ v_50 (83 + x1) r_26) (fun v_52 => qA (91 + x1) (180) (oL (updZ v_52 (91 + x1) r_41) (fun v_54 => oB2 (g_X6_eats n (sX6_fresh b_169 v_54) (4)) (fun r_55 b_205 => (if (r_55 = 0) then oR ((99 + x1)) (g_X6_readsTrader_127 n (99 + x1) (0) b_205) else oR ((99 + x1)) (g_X6_readsTrader_127 n (99 + x1) (1) b_205))))))))) else some b_169))))))) else some b_this)
def g_X6_readsTrader (n : Nat) (b_this : BX6) : Option (BX6) :=
  qA (74) (180) (oL ((pX6_fresh b_this) (74)) (fun y_62 => (if (y_62 = 8) then oB (g_X6_fails b_this (-4)) (fun b_267 => g_X6_readsTrader_20 n y_62 b_267) else g_X6_readsTrader_20 n y_62 b_this)))
def g_X6_readsRow_177 (n : Nat) (b_this : BX6) : Option (BX6) :=
  qA (0) (180) (qA (0) (180) (oR ((((pX6_fresh b_this) (0)) + 1)) (oL (updZ (pX6_fresh b_this) (0) (((pX6_fresh b_this) (0)) + 1)) (fun v_3 => some (sX6_fresh b_this v_3)))))
def g_X6_readsRow_150 (n : Nat) (k32 : Int → Int → BX6 → Option (BX6)) (t1 : Int) (t2 : Int) (x1 : Int) (x2 : Int) (x3 : Int) (b_this : BX6) : Option (BX6) :=
  qA t1 (180) (oL (updZ (pX6_fresh b_this) t1 t2) (fun v_5 => qA (50 + x3) (180) (oL (updZ v_5 (50 + x3) x1) (fun v_7 => qA (1) (180) (qA (1) (180) (oR (((v_7 (1)) + 1)) (oL (updZ v_7 (1) ((v_7 (1)) + 1)) (fun v_10 => oR ((x2 + 1)) (k32 x1 (x2 + 1) (sX6_fresh b_this v_10))))))))))
def g_X6_readsRow_100 (n : Nat) (k32 : Int → Int → BX6 → Option (BX6)) (x1 : Int) (x2 : Int) (x3 : Int) (b_this : BX6) : Option (BX6) :=
  oB2 (g_X6_takes n b_this (1) (999)) (fun r_11 b_10 => (if ((pX6_wrong b_10) = 0) then qA (2 + x3) (180) (oL (updZ (pX6_fresh b_10) (2 + x3) r_11) (fun v_20 => oB2 (g_X6_eats n (sX6_fresh b_10 v_20) (7)) (fun r_21 b_44 => (if (r_21 = 0) then oR ((26 + x3)) (g_X6_readsRow_150 n k32 (26 + x3) (0) x1 x2 x3 b_44) else oR ((26 + x3)) (g_X6_readsRow_150 n k32 (26 + x3) (1) x1 x2 x3 b_44))))) else some b_10))
def g_X6_readsRow_94 (n : Nat) (k32 : Int → Int → BX6 → Option (BX6)) (x1 : Int) (x2 : Int) (x3 : Int) (b_this : BX6) : Option (BX6) :=
  oB (g_X6_fails b_this (-4)) (fun b_105 => g_X6_readsRow_100 n k32 x1 x2 x3 b_105)
def g_X6_readsRow_52 (n : Nat) (k32 : Int → Int → BX6 → Option (BX6)) (x1 : Int) (x2 : Int) (b_this : BX6) : Option (BX6) :=
  qA (1) (180) (oL ((pX6_fresh b_this) (1)) (fun y_31 => oB (g_X6_is b_this (9)) (fun r_32 => (if (r_32 = 0) then g_X6_readsRow_100 n k32 x1 x2 y_31 b_this else oB (g_X6_isIn (pX6_number b_this) (1) (999)) (fun r_34 => (if (r_34 = 0) then g_X6_readsRow_100 n k32 x1 x2 y_31 b_this else (if (x2 = 12) then g_X6_readsRow_94 n k32 x1 x2 y_31 b_this else (if (y_31 = 24) then g_X6_readsRow_94 n k32 x1 x2 y_31 b_this else g_X6_readsRow_100 n k32 x1 x2 y_31 b_this))))))))
def g_X6_readsRow_32 (n : Nat) : Nat → Int → Int → BX6 → Option (BX6)
  | 0, _, _, _ => none
  | fu + 1, x1, x2, b_this => (if ((pX6_wrong b_this) = 0) then (if (x2 = 0) then g_X6_readsRow_52 n (g_X6_readsRow_32 n fu) x1 x2 b_this else (if ((pX6_kind b_this) = 9) then g_X6_readsRow_52 n (g_X6_readsRow_32 n fu) x1 x2 b_this else g_X6_readsRow_177 n b_this)) else g_X6_readsRow_177 n b_this)
def g_X6_readsRow_18 (n : Nat) (x1 : Int) (b_this : BX6) : Option (BX6) :=
  (if ((pX6_wrong b_this) = 0) then oB (g_X6_next n b_this) (fun b_144 => g_X6_readsRow_32 n n x1 (0) b_144) else some b_this)
def g_X6_readsRow (n : Nat) (b_this : BX6) : Option (BX6) :=
  qA (0) (180) (oL ((pX6_fresh b_this) (0)) (fun y_42 => (if (y_42 = 4) then oB (g_X6_fails b_this (-4)) (fun b_179 => g_X6_readsRow_18 n y_42 b_179) else g_X6_readsRow_18 n y_42 b_this)))
def g_X6_readsStatement_106 (n : Nat) (b_this : BX6) : Option (BX6) :=
  oB (g_X6_needs n b_this (10)) (fun b_1 => some b_1)
def g_X6_readsStatement_71 (n : Nat) (b_this : BX6) : Option (BX6) :=
  g_X6_readsStatement_106 n b_this
def g_X6_readsStatement (n : Nat) (b_this : BX6) : Option (BX6) :=
  oB (g_X6_is b_this (0)) (fun r_8 => (if (r_8 = 0) then oB (g_X6_is b_this (1)) (fun r_10 => (if (r_10 = 0) then oB2 (g_X6_eats n b_this (5)) (fun r_12 b_35 => (if (r_12 = 0) then oB2 (g_X6_eats n b_35 (6)) (fun r_18 b_70 => (if (r_18 = 0) then oB (g_X6_fails b_70 (-2)) (fun b_105 => g_X6_readsStatement_106 n b_105) else oB2 (g_X6_takes n b_70 (0) (4)) (fun r_27 b_141 => qA (179) (180) (oL (updZ (pX6_fresh b_141) (179) r_27) (fun v_36 => g_X6_readsStatement_106 n (sX6_fresh b_141 v_36)))))) else oB2 (g_X6_takes n b_35 (0) (7)) (fun r_37 b_175 => oB2 (g_X6_takes n b_175 (0) (7)) (fun r_45 b_208 => (if ((pX6_wrong b_208) = 0) then oB (g_X6_clashes (pX6_fresh b_208) r_37 r_45 (1)) (fun b_241 => g_X6_readsStatement_71 n (sX6_fresh b_208 b_241)) else g_X6_readsStatement_71 n b_208))))) else oB (g_X6_readsTrader n b_this) (fun b_243 => g_X6_readsStatement_106 n b_243))) else oB (g_X6_readsRow n b_this) (fun b_274 => g_X6_readsStatement_106 n b_274)))
def g_X6_load_161 (n : Nat) : Nat → Int → Int → BX6 → Option (Int × BX6)
  | 0, _, _, _ => none
  | fu + 1, x2, x3, b_this => (if (180 ≤ x3) then some (x2, b_this) else qA x3 (180) (qA x3 (180) (oL (updZ (pX6_a b_this) x3 ((pX6_fresh b_this) x3)) (fun v_3 => oR ((x3 + 1)) (g_X6_load_161 n fu x2 (x3 + 1) (sX6_a b_this v_3))))))
def g_X6_load_140 (n : Nat) (t1 : Int) (x2 : Int) (b_this : BX6) : Option (Int × BX6) :=
  (if ((pX6_wrong b_this) = 0) then oB (g_X6_keeps n (sX6_errorAt b_this t1)) (fun b_4 => g_X6_load_161 n n x2 (0) b_4) else some ((pX6_wrong b_this), (sX6_errorAt b_this t1)))
def g_X6_load_124 (n : Nat) (x2 : Int) (b_this : BX6) : Option (Int × BX6) :=
  (if ((pX6_wrong b_this) = 0) then g_X6_load_140 n (-1) x2 b_this else g_X6_load_140 n (pX6_wrongAt b_this) x2 b_this)
def g_X6_load_98 (n : Nat) : Nat → Int → BX6 → Option (Int × BX6)
  | 0, _, _ => none
  | fu + 1, x2, b_this => (if ((pX6_wrong b_this) = 0) then (if ((pX6_kind b_this) = 11) then g_X6_load_124 n x2 b_this else oB (g_X6_readsStatement n b_this) (fun b_71 => oR ((x2 + 1)) (g_X6_load_98 n fu (x2 + 1) b_71))) else g_X6_load_124 n x2 b_this)
def g_X6_load_85 (n : Nat) (k54 : Int → BX6 → Option (Int × BX6)) (t1 : Int) (t2 : Int) (x2 : Int) (b_this : BX6) : Option (Int × BX6) :=
  qA t1 (180) (oL (updZ (pX6_fresh b_this) t1 t2) (fun v_16 => oR ((x2 + 1)) (k54 (x2 + 1) (sX6_fresh b_this v_16))))
def g_X6_load_54 (n : Nat) : Nat → Int → BX6 → Option (Int × BX6)
  | 0, _, _ => none
  | fu + 1, x2, b_this => (if (180 ≤ x2) then oB (g_X6_next n b_this) (fun b_111 => g_X6_load_98 n n (0) b_111) else oB (g_X6_isIn x2 (107) (114)) (fun r_22 => (if (r_22 = 0) then g_X6_load_85 n (g_X6_load_54 n fu) x2 (0) x2 b_this else g_X6_load_85 n (g_X6_load_54 n fu) x2 (-1) x2 b_this)))
def g_X6_load_20 (n : Nat) (t1 : Int) (x1 : Int) (b_this : BX6) : Option (Int × BX6) :=
  (if (t1 ≤ 0) then g_X6_load_54 n n (0) (sX6_wrong (sX6_behind (sX6_size (sX6_buffered (sX6_thrown b_this t1) 0) x1) 0) 0) else some (0, (sX6_thrown b_this t1)))
def g_X6_load (n : Nat) (b_this : BX6) (x1 : Int) : Option (Int × BX6) :=
  oB (g_X6_isIn x1 (0) (pX6_buffered b_this)) (fun r_24 => (if (r_24 = 0) then g_X6_load_20 n (1) x1 b_this else g_X6_load_20 n (0) x1 b_this))
def g_X6_obstacle_22 (n : Nat) (t1 : Int) (x1 : Int) (x2 : Int) (b_this : BX6) : Option (Int × BX6) :=
  (if (t1 ≤ 0) then oB (g_X6_hinders n (sX6_thrown b_this t1) x1 x2) (fun r_1 => some (r_1, (sX6_thrown b_this t1))) else some (0, (sX6_thrown b_this t1)))
def g_X6_obstacle_21 (n : Nat) (x1 : Int) (x2 : Int) (b_this : BX6) : Option (Int × BX6) :=
  g_X6_obstacle_22 n (1) x1 x2 b_this
def g_X6_obstacle (n : Nat) (b_this : BX6) (x1 : Int) (x2 : Int) : Option (Int × BX6) :=
  oB (g_X6_isTrader b_this x1) (fun r_3 => (if (r_3 = 0) then g_X6_obstacle_21 n x1 x2 b_this else oB (g_X6_isPitch b_this x2) (fun r_5 => (if (r_5 = 0) then g_X6_obstacle_21 n x1 x2 b_this else g_X6_obstacle_22 n (0) x1 x2 b_this))))
def g_X6_optimise_206 (n : Nat) (k63 : Int → Int → Int → Int → BX6 → Option (Int × BX6)) (t0 : Int) (x1 : Int) (x3 : Int) (x6 : Int) (b_this : BX6) : Option (Int × BX6) :=
  k63 x1 t0 x3 x6 b_this
def g_X6_optimise_122 (n : Nat) (k63 : Int → Int → Int → Int → BX6 → Option (Int × BX6)) (x1 : Int) (x3 : Int) (x4 : Int) (x5 : Int) (b_this : BX6) : Option (Int × BX6) :=
  qA (74) (180) ((if (x5 = ((pX6_a b_this) (74))) then oR ((x4 + 1)) (k63 x1 (8) x3 (x4 + 1) b_this) else oB (g_X6_bare n b_this x5 x4) (fun r_2 => oR ((x3 - r_2)) (oL (x3 - r_2) (fun y_4 => oL (zOr x1 (zShl 1 x5)) (fun y_5 => qA (107 + x5) (180) (oL (updZ (pX6_a b_this) (107 + x5) x4) (fun v_7 => qA (83 + x5) (180) (oR ((x4 + (v_7 (83 + x5)))) (oL (x4 + (v_7 (83 + x5))) (fun y_9 => oB (g_X6_isSameRow (sX6_a b_this v_7) x4 y_9) (fun r_10 => (if (r_10 = 0) then g_X6_optimise_206 n k63 (8) y_5 y_4 y_9 (sX6_a b_this v_7) else g_X6_optimise_206 n k63 x5 y_5 y_4 y_9 (sX6_a b_this v_7))))))))))))))
def g_X6_optimise_77 (n : Nat) (k63 : Int → Int → Int → Int → BX6 → Option (Int × BX6)) : Nat → Int → Int → Int → Int → Int → BX6 → Option (Int × BX6)
  | 0, _, _, _, _, _, _ => none
  | fu + 1, x1, x2, x3, x4, x5, b_this => qA (74) (180) ((if (((pX6_a b_this) (74)) ≤ x5) then g_X6_optimise_122 n k63 x1 x3 x4 x5 b_this else oB (g_X6_begun b_this x5 x4 x1 x2 x3) (fun r_13 => oB (g_X6_at x4 x1 x2 x3) (fun r_15 => qA r_15 (345600) ((if (r_13 = ((pX6_best b_this) r_15)) then g_X6_optimise_122 n k63 x1 x3 x4 x5 b_this else oR ((x5 + 1)) (g_X6_optimise_77 n k63 fu x1 x2 x3 x4 (x5 + 1) b_this)))))))
def g_X6_optimise_63 (n : Nat) : Nat → Int → Int → Int → Int → BX6 → Option (Int × BX6)
  | 0, _, _, _, _, _ => none
  | fu + 1, x1, x2, x3, x4, b_this => qA (1) (180) ((if (((pX6_a b_this) (1)) ≤ x4) then oB (g_X6_placed n b_this) (fun r_19 => some (r_19, b_this)) else g_X6_optimise_77 n (g_X6_optimise_63 n fu) n x1 x2 x3 x4 (0) b_this))
def g_X6_optimise_24 (n : Nat) : Nat → Int → BX6 → Option (Int × BX6)
  | 0, _, _ => none
  | fu + 1, x1, b_this => (if (8 ≤ x1) then qA (179) (180) (oL ((pX6_a b_this) (179)) (fun y_22 => g_X6_optimise_63 n n (0) (8) y_22 (0) b_this)) else qA (107 + x1) (180) (oL (updZ (pX6_a b_this) (107 + x1) (-1)) (fun v_24 => oR ((x1 + 1)) (g_X6_optimise_24 n fu (x1 + 1) (sX6_a b_this v_24)))))
def g_X6_optimise (n : Nat) (b_this : BX6) : Option (Int × BX6) :=
  oB (g_X6_keeps n (sX6_thrown b_this 0)) (fun b_19 => qA (179) (180) (oB2 (g_X6_plans n b_19 ((pX6_a b_19) (179))) (fun r_29 b_81 => g_X6_optimise_24 n n (0) b_81)))
def g_X6_pitchCount (b_this : BX6) : Option (Int × BX6) :=
  qA (1) (180) (some (((pX6_a b_this) (1)), (sX6_thrown b_this 0)))
def g_X6_place_35 (n : Nat) (t1 : Int) (x1 : Int) (x2 : Int) (b_this : BX6) : Option (Int × BX6) :=
  (if (t1 ≤ 0) then oB (g_X6_keeps n (sX6_thrown b_this t1)) (fun b_1 => qA (107 + x1) (180) (oL (updZ (pX6_a b_1) (107 + x1) x2) (fun v_5 => oB (g_X6_rentOf n (sX6_a b_1 v_5) x1 x2) (fun r_6 => some (r_6, (sX6_a b_1 v_5)))))) else some (0, (sX6_thrown b_this t1)))
def g_X6_place_17 (n : Nat) (x1 : Int) (x2 : Int) (b_this : BX6) : Option (Int × BX6) :=
  g_X6_place_35 n (1) x1 x2 b_this
def g_X6_place (n : Nat) (b_this : BX6) (x1 : Int) (x2 : Int) : Option (Int × BX6) :=
  oB (g_X6_isTrader b_this x1) (fun r_8 => (if (r_8 = 0) then g_X6_place_17 n x1 x2 b_this else oB (g_X6_isPitch b_this x2) (fun r_10 => (if (r_10 = 0) then g_X6_place_17 n x1 x2 b_this else oB (g_X6_hinders n b_this x1 x2) (fun r_12 => (if (r_12 = 0) then g_X6_place_35 n (0) x1 x2 b_this else g_X6_place_35 n (2) x1 x2 b_this))))))
def g_X6_remove_31 (n : Nat) (t1 : Int) (x1 : Int) (b_this : BX6) : Option (Int × BX6) :=
  (if (t1 ≤ 0) then oB (g_X6_keeps n (sX6_thrown b_this t1)) (fun b_1 => qA (107 + x1) (180) (oL ((pX6_a b_1) (107 + x1)) (fun y_5 => qA (107 + x1) (180) (oL (updZ (pX6_a b_1) (107 + x1) (-1)) (fun v_7 => some (y_5, (sX6_a b_1 v_7))))))) else some (0, (sX6_thrown b_this t1)))
def g_X6_remove (n : Nat) (b_this : BX6) (x1 : Int) : Option (Int × BX6) :=
  oB (g_X6_isTrader b_this x1) (fun r_8 => (if (r_8 = 0) then g_X6_remove_31 n (1) x1 b_this else qA (107 + x1) (180) ((if (((pX6_a b_this) (107 + x1)) = (-1)) then g_X6_remove_31 n (2) x1 b_this else g_X6_remove_31 n (0) x1 b_this))))
def g_X6_rent (b_this : BX6) (x1 : Int) : Option (Int × BX6) :=
  oB2 (g_X6_pitchValue b_this (2) x1) (fun r_1 b_1 => some (r_1, b_1))
def g_X6_row (b_this : BX6) (x1 : Int) : Option (Int × BX6) :=
  oB2 (g_X6_pitchValue b_this (50) x1) (fun r_1 b_1 => some (r_1, b_1))
def g_X6_setClash_61 (n : Nat) (t1 : Int) (t2 : Int) (t3 : Int) (b_this : BX6) : Option (BX6) :=
  oB (g_X6_clashes (pX6_a b_this) t1 t2 t3) (fun b_1 => some (sX6_a b_this b_1))
def g_X6_setClash_31 (n : Nat) (t1 : Int) (x1 : Int) (x2 : Int) (x3 : Int) (b_this : BX6) : Option (BX6) :=
  (if (t1 ≤ 0) then oB (g_X6_keeps n (sX6_thrown b_this t1)) (fun b_3 => (if (x3 = 0) then g_X6_setClash_61 n x1 x2 (0) b_3 else g_X6_setClash_61 n x1 x2 (1) b_3)) else some (sX6_thrown b_this t1))
def g_X6_setClash_30 (n : Nat) (x1 : Int) (x2 : Int) (x3 : Int) (b_this : BX6) : Option (BX6) :=
  g_X6_setClash_31 n (0) x1 x2 x3 b_this
def g_X6_setClash (n : Nat) (b_this : BX6) (x1 : Int) (x2 : Int) (x3 : Int) : Option (BX6) :=
  oB (g_X6_areTrades x1 x2) (fun r_6 => (if (r_6 = 0) then g_X6_setClash_31 n (1) x1 x2 x3 b_this else (if (x3 = 0) then g_X6_setClash_30 n x1 x2 x3 b_this else oB (g_X6_areBeside n b_this x1 x2) (fun r_8 => (if (r_8 = 0) then g_X6_setClash_30 n x1 x2 x3 b_this else g_X6_setClash_31 n (2) x1 x2 x3 b_this)))))
def g_X6_setCovers_30 (n : Nat) (t1 : Int) (x1 : Int) (b_this : BX6) : Option (Int × BX6) :=
  (if (t1 ≤ 0) then oB (g_X6_keeps n (sX6_thrown b_this t1)) (fun b_1 => qA (179) (180) (oL ((pX6_a b_1) (179)) (fun y_5 => qA (179) (180) (oL (updZ (pX6_a b_1) (179) x1) (fun v_7 => some (y_5, (sX6_a b_1 v_7))))))) else some (0, (sX6_thrown b_this t1)))
def g_X6_setCovers (n : Nat) (b_this : BX6) (x1 : Int) : Option (Int × BX6) :=
  oB (g_X6_isIn x1 (0) (4)) (fun r_8 => (if (r_8 = 0) then g_X6_setCovers_30 n (1) x1 b_this else oB (g_X6_usedCovers n b_this) (fun r_10 => (if (r_10 ≤ x1) then g_X6_setCovers_30 n (0) x1 b_this else g_X6_setCovers_30 n (2) x1 b_this))))
def g_X6_setRent_30 (n : Nat) (t1 : Int) (x1 : Int) (x2 : Int) (b_this : BX6) : Option (Int × BX6) :=
  (if (t1 ≤ 0) then oB (g_X6_keeps n (sX6_thrown b_this t1)) (fun b_1 => qA (2 + x1) (180) (oL (updZ (pX6_a b_1) (2 + x1) x2) (fun v_5 => oB (g_X6_on n (sX6_a b_1 v_5) x1) (fun r_6 => (if (r_6 = (-1)) then some ((-1), (sX6_a b_1 v_5)) else qA (107 + r_6) (180) (oB (g_X6_rentOf n (sX6_a b_1 v_5) r_6 (v_5 (107 + r_6))) (fun r_9 => qA (91 + r_6) (180) ((if ((v_5 (91 + r_6)) < r_9) then qA (107 + r_6) (180) (oL (updZ v_5 (107 + r_6) (-1)) (fun v_13 => some (r_6, (sX6_a b_1 v_13)))) else some ((-1), (sX6_a b_1 v_5))))))))))) else some (0, (sX6_thrown b_this t1)))
def g_X6_setRent (n : Nat) (b_this : BX6) (x1 : Int) (x2 : Int) : Option (Int × BX6) :=
  oB (g_X6_isPitch b_this x1) (fun r_14 => (if (r_14 = 0) then g_X6_setRent_30 n (1) x1 x2 b_this else oB (g_X6_isIn x2 (1) (999)) (fun r_16 => (if (r_16 = 0) then g_X6_setRent_30 n (2) x1 x2 b_this else g_X6_setRent_30 n (0) x1 x2 b_this))))
def g_X6_start (b_this : BX6) (x1 : Int) : Option (Int × BX6) :=
  oB2 (g_X6_traderValue b_this (107) x1) (fun r_1 b_1 => some (r_1, b_1))
def g_X6_swap_35 (n : Nat) (t1 : Int) (x1 : Int) (x2 : Int) (b_this : BX6) : Option (Int × BX6) :=
  (if (t1 ≤ 0) then oB (g_X6_keeps n (sX6_thrown b_this t1)) (fun b_1 => qA (107 + x1) (180) (oL ((pX6_a b_1) (107 + x1)) (fun y_5 => qA (107 + x2) (180) (qA (107 + x1) (180) (oL (updZ (pX6_a b_1) (107 + x1) ((pX6_a b_1) (107 + x2))) (fun v_8 => qA (107 + x2) (180) (oL (updZ v_8 (107 + x2) y_5) (fun v_10 => oB (g_X6_incomeNow n (sX6_a b_1 v_10)) (fun r_11 => some (r_11, (sX6_a b_1 v_10))))))))))) else some (0, (sX6_thrown b_this t1)))
def g_X6_swap_17 (n : Nat) (x1 : Int) (x2 : Int) (b_this : BX6) : Option (Int × BX6) :=
  g_X6_swap_35 n (1) x1 x2 b_this
def g_X6_swap (n : Nat) (b_this : BX6) (x1 : Int) (x2 : Int) : Option (Int × BX6) :=
  oB (g_X6_isTrader b_this x1) (fun r_13 => (if (r_13 = 0) then g_X6_swap_17 n x1 x2 b_this else oB (g_X6_isTrader b_this x2) (fun r_15 => (if (r_15 = 0) then g_X6_swap_17 n x1 x2 b_this else oB2 (g_X6_canSwap n b_this x1 x2) (fun r_17 b_67 => (if (r_17 = 0) then g_X6_swap_35 n (2) x1 x2 b_67 else g_X6_swap_35 n (0) x1 x2 b_67))))))
def g_X6_thrown (b_this : BX6) : Option (Int) :=
  some (pX6_thrown b_this)
def g_X6_trade (b_this : BX6) (x1 : Int) : Option (Int × BX6) :=
  oB2 (g_X6_traderValue b_this (75) x1) (fun r_1 b_1 => some (r_1, b_1))
def g_X6_traderAt_14 (n : Nat) (t1 : Int) (x1 : Int) (b_this : BX6) : Option (Int × BX6) :=
  (if (t1 ≤ 0) then oB (g_X6_on n (sX6_thrown b_this t1) x1) (fun r_1 => some (r_1, (sX6_thrown b_this t1))) else some (0, (sX6_thrown b_this t1)))
def g_X6_traderAt (n : Nat) (b_this : BX6) (x1 : Int) : Option (Int × BX6) :=
  oB (g_X6_isPitch b_this x1) (fun r_3 => (if (r_3 = 0) then g_X6_traderAt_14 n (1) x1 b_this else g_X6_traderAt_14 n (0) x1 b_this))
def g_X6_traderCount (b_this : BX6) : Option (Int × BX6) :=
  qA (74) (180) (some (((pX6_a b_this) (74)), (sX6_thrown b_this 0)))
def g_X6_undo_37 (n : Nat) : Nat → Int → BX6 → Option (Int × BX6)
  | 0, _, _ => none
  | fu + 1, x1, b_this => (if (180 ≤ x1) then some ((pX6_keptMany b_this), b_this) else qA ((180 * (pX6_keptMany b_this)) + x1) (1080) (qA x1 (180) (oL (updZ (pX6_a b_this) x1 ((pX6_kept b_this) ((180 * (pX6_keptMany b_this)) + x1))) (fun v_3 => oR ((x1 + 1)) (g_X6_undo_37 n fu (x1 + 1) (sX6_a b_this v_3))))))
def g_X6_undo_13 (n : Nat) (t1 : Int) (b_this : BX6) : Option (Int × BX6) :=
  (if (t1 ≤ 0) then oR (((pX6_keptMany b_this) - 1)) (oL ((pX6_keptMany b_this) - 1) (fun y_4 => g_X6_undo_37 n n (0) (sX6_thrown (sX6_keptMany b_this y_4) t1))) else some (0, (sX6_thrown b_this t1)))
def g_X6_undo (n : Nat) (b_this : BX6) : Option (Int × BX6) :=
  (if ((pX6_keptMany b_this) = 0) then g_X6_undo_13 n (1) b_this else g_X6_undo_13 n (0) b_this)
