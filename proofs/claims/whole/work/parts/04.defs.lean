def f_X2_blockRent_22 (n : Nat) : Nat → Int32 → Int32 → Int32 → (Nat → Int32) → Option (Int32)
  | 0, _, _, _, _ => none
  | fu + 1, x3, x4, x5, v_rents => (if (x4 ≤ x5) then some x3 else oA x5 24 (oL (x3 + (v_rents (x5).toNatClampNeg)) (fun y_2 => f_X2_blockRent_22 n fu y_2 x4 (x5 + (1 : Int32)) v_rents)))
def f_X2_blockRent (n : Nat) (v_pitches : Int32) (v_rents : Nat → Int32) (v_fronts : Nat → Int32) (x1 : Int32) (x2 : Int32) : Option (Int32) :=
  oA x1 8 (oL (oMin (x2 + (v_fronts (x1).toNatClampNeg)) v_pitches) (fun y_4 => f_X2_blockRent_22 n n (0 : Int32) y_4 x2 v_rents))
def f_X2_isSeated (v_starts : Nat → Int32) (x1 : Int32) : Option (Int32) :=
  oA x1 8 ((if ((v_starts (x1).toNatClampNeg) = (-1 : Int32)) then some (0 : Int32) else some (1 : Int32)))
def f_X2_shareRow (v_pitches : Int32) (v_rows : Nat → Int32) (x1 : Int32) (x2 : Int32) : Option (Int32) :=
  (if (x1 < 0) then some (0 : Int32) else (if (x2 < x1) then some (0 : Int32) else (if (v_pitches ≤ x2) then some (0 : Int32) else oA x1 24 (oA x2 24 ((if ((v_rows (x1).toNatClampNeg) = (v_rows (x2).toNatClampNeg)) then some (1 : Int32) else some (0 : Int32)))))))
def f_X2_isInOneRow (v_pitches : Int32) (v_rows : Nat → Int32) (v_fronts : Nat → Int32) (x1 : Int32) (x2 : Int32) : Option (Int32) :=
  oA x1 8 (oB (f_X2_shareRow v_pitches v_rows x2 ((x2 + (v_fronts (x1).toNatClampNeg)) - (1 : Int32))) (fun r_2 => oG (vp_nar .boolean r_2 = r_2) (some r_2)))
def f_X2_isBlockFree_19 (n : Nat) : Nat → Int32 → Int32 → (Nat → Int32) → Option (Int32)
  | 0, _, _, _ => none
  | fu + 1, x3, x4, v_standing => (if (x3 ≤ x4) then some (1 : Int32) else oA x4 24 ((if ((v_standing (x4).toNatClampNeg) = (-1 : Int32)) then f_X2_isBlockFree_19 n fu x3 (x4 + (1 : Int32)) v_standing else some (0 : Int32))))
def f_X2_isBlockFree (n : Nat) (v_pitches : Int32) (v_fronts : Nat → Int32) (v_standing : Nat → Int32) (x1 : Int32) (x2 : Int32) : Option (Int32) :=
  oA x1 8 (oL (oMin (x2 + (v_fronts (x1).toNatClampNeg)) v_pitches) (fun y_3 => f_X2_isBlockFree_19 n n y_3 x2 v_standing))
def f_X2_affords (n : Nat) (v_pitches : Int32) (v_rents : Nat → Int32) (v_fronts : Nat → Int32) (v_limits : Nat → Int32) (x1 : Int32) (x2 : Int32) : Option (Int32) :=
  oB (f_X2_blockRent n v_pitches v_rents v_fronts x1 x2) (fun r_1 => oA x1 8 ((if ((v_limits (x1).toNatClampNeg) < r_1) then some (0 : Int32) else some (1 : Int32))))
def f_X2_openPitches_42 (n : Nat) (k22 : Int32 → Int32 → Int32 → (Nat → Int32) → Option (Int32)) (x3 : Int32) (x4 : Int32) (x5 : Int32) (v_roofs : Nat → Int32) : Option (Int32) :=
  k22 x3 x4 (x5 + (1 : Int32)) v_roofs
def f_X2_openPitches_22 (n : Nat) : Nat → Int32 → Int32 → Int32 → (Nat → Int32) → Option (Int32)
  | 0, _, _, _, _ => none
  | fu + 1, x3, x4, x5, v_roofs => (if (x4 ≤ x5) then some x3 else oA x5 24 ((if ((v_roofs (x5).toNatClampNeg) = 0) then f_X2_openPitches_42 n (f_X2_openPitches_22 n fu) (x3 + (1 : Int32)) x4 x5 v_roofs else f_X2_openPitches_42 n (f_X2_openPitches_22 n fu) x3 x4 x5 v_roofs)))
def f_X2_openPitches (n : Nat) (v_pitches : Int32) (v_roofs : Nat → Int32) (v_fronts : Nat → Int32) (x1 : Int32) (x2 : Int32) : Option (Int32) :=
  oA x1 8 (oL (oMin (x2 + (v_fronts (x1).toNatClampNeg)) v_pitches) (fun y_3 => f_X2_openPitches_22 n n (0 : Int32) y_3 x2 v_roofs))
def f_X2_coversFor (n : Nat) (v_pitches : Int32) (v_roofs : Nat → Int32) (v_fronts : Nat → Int32) (v_needy : Nat → Int32) (x1 : Int32) (x2 : Int32) : Option (Int32) :=
  oA x1 8 ((if ((v_needy (x1).toNatClampNeg) = 0) then some (0 : Int32) else oB (f_X2_openPitches n v_pitches v_roofs v_fronts x1 x2) (fun r_2 => some r_2)))
def f_X2_clashesWith (v_trades : Nat → Int32) (v_clashes : Nat → Int32) (x1 : Int32) (x2 : Int32) : Option (Int32) :=
  (if (x2 = (-1 : Int32)) then some (0 : Int32) else oA x1 8 (oA (v_trades (x1).toNatClampNeg) 8 (oA x2 8 ((if ((((v_clashes ((v_trades (x1).toNatClampNeg)).toNatClampNeg) >>> ((v_trades (x2).toNatClampNeg) &&& 31)) &&& (1 : Int32)) = 0) then some (0 : Int32) else some (1 : Int32))))))
def f_X2_clashesBeside_65 : Option (Int32) :=
  some (1 : Int32)
def f_X2_clashesBeside_38 (x1 : Int32) (x3 : Int32) (v_pitches : Int32) (v_rows : Nat → Int32) (v_trades : Nat → Int32) (v_clashes : Nat → Int32) (v_standing : Nat → Int32) : Option (Int32) :=
  oB (f_X2_shareRow v_pitches v_rows x3 (x3 + (1 : Int32))) (fun r_1 => (if (r_1 = 0) then some (0 : Int32) else oA (x3 + (1 : Int32)) 24 (oB (f_X2_clashesWith v_trades v_clashes x1 (v_standing ((x3 + (1 : Int32))).toNatClampNeg)) (fun r_4 => (if (r_4 = 0) then some (0 : Int32) else f_X2_clashesBeside_65)))))
def f_X2_clashesBeside (v_pitches : Int32) (v_rows : Nat → Int32) (v_trades : Nat → Int32) (v_fronts : Nat → Int32) (v_clashes : Nat → Int32) (v_standing : Nat → Int32) (x1 : Int32) (x2 : Int32) : Option (Int32) :=
  oA x1 8 (oL ((x2 + (v_fronts (x1).toNatClampNeg)) - (1 : Int32)) (fun y_7 => oB (f_X2_shareRow v_pitches v_rows (x2 - (1 : Int32)) x2) (fun r_8 => (if (r_8 = 0) then f_X2_clashesBeside_38 x1 y_7 v_pitches v_rows v_trades v_clashes v_standing else oA (x2 - (1 : Int32)) 24 (oB (f_X2_clashesWith v_trades v_clashes x1 (v_standing ((x2 - (1 : Int32))).toNatClampNeg)) (fun r_11 => (if (r_11 = 0) then f_X2_clashesBeside_38 x1 y_7 v_pitches v_rows v_trades v_clashes v_standing else f_X2_clashesBeside_65)))))))
def f_X2_hindrance (n : Nat) (v_pitches : Int32) (v_rows : Nat → Int32) (v_rents : Nat → Int32) (v_roofs : Nat → Int32) (v_trades : Nat → Int32) (v_fronts : Nat → Int32) (v_limits : Nat → Int32) (v_needy : Nat → Int32) (v_clashes : Nat → Int32) (v_covers : Int32) (v_starts : Nat → Int32) (v_standing : Nat → Int32) (v_coversBusy : Int32) (x1 : Int32) (x2 : Int32) : Option (Int32) :=
  oB (f_X2_isSeated v_starts x1) (fun r_1 => (if (r_1 = 0) then oB (f_X2_isInOneRow v_pitches v_rows v_fronts x1 x2) (fun r_3 => (if (r_3 = 0) then some (2 : Int32) else oB (f_X2_isBlockFree n v_pitches v_fronts v_standing x1 x2) (fun r_5 => (if (r_5 = 0) then some (3 : Int32) else oB (f_X2_affords n v_pitches v_rents v_fronts v_limits x1 x2) (fun r_7 => (if (r_7 = 0) then some (4 : Int32) else oB (f_X2_coversFor n v_pitches v_roofs v_fronts v_needy x1 x2) (fun r_9 => (if ((v_coversBusy + r_9) ≤ v_covers) then oB (f_X2_clashesBeside v_pitches v_rows v_trades v_fronts v_clashes v_standing x1 x2) (fun r_11 => (if (r_11 = 0) then some (0 : Int32) else some (6 : Int32))) else some (5 : Int32))))))))) else some (1 : Int32)))
def f_X2_settle_15 (n : Nat) : Nat → Int32 → Int32 → Int32 → (Nat → Int32) → Option ((Nat → Int32))
  | 0, _, _, _, _ => none
  | fu + 1, x3, x4, x5, v_standing => (if (x4 ≤ x5) then some v_standing else oA x5 24 (oL (upd v_standing (x5).toNatClampNeg x3) (fun v_2 => f_X2_settle_15 n fu x3 x4 (x5 + (1 : Int32)) v_2)))
def f_X2_settle (n : Nat) (v_pitches : Int32) (v_standing : Nat → Int32) (x1 : Int32) (x2 : Int32) (x3 : Int32) : Option ((Nat → Int32)) :=
  oL (oMin (x1 + x2) v_pitches) (fun y_3 => f_X2_settle_15 n n x3 y_3 x1 v_standing)
def f_X2_seat (n : Nat) (v_pitches : Int32) (v_roofs : Nat → Int32) (v_fronts : Nat → Int32) (v_needy : Nat → Int32) (v_starts : Nat → Int32) (v_standing : Nat → Int32) (v_coversBusy : Int32) (x1 : Int32) (x2 : Int32) : Option ((Nat → Int32) × (Nat → Int32) × Int32) :=
  oA x1 8 (oB (f_X2_settle n v_pitches v_standing x2 (v_fronts (x1).toNatClampNeg) x1) (fun v_2 => oA x1 8 (oL (upd v_starts (x1).toNatClampNeg x2) (fun v_5 => oB (f_X2_coversFor n v_pitches v_roofs v_fronts v_needy x1 x2) (fun r_6 => oL (v_coversBusy + r_6) (fun y_8 => some (v_5, v_2, y_8)))))))
