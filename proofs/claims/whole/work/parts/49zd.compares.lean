/-! The reference's comparison of what is tried with what was found. -/
theorem s_isAhead2 (n : Nat) {b : BX2} {r : BX6} (hb : S2 b) (R : Rl b (pX6_a r)) (hs : ∀ p, 0 ≤ p → p < 24 → -1 ≤ pX6_stands r p ∧ pX6_stands r p < 8) (ho : ∀ p, 0 ≤ p → p < 24 → -1 ≤ pX6_foundOn r p ∧ pX6_foundOn r p < 8) : ∀ (fu : Nat) (x : Int), 0 ≤ x → 0 < fu → pX2_pitches b - x < fu → g_X6_isAhead_2 n fu x r = some (zB (mBefore (pX6_stands r) (pX6_foundOn r) x (pX2_pitches b))) := by
  have hp := hb.pit
  intro fu
  induction fu with
  | zero => intro x _ h0; omega
  | succ fu ih =>
    intro x x0 _ hf
    rw [g_X6_isAhead_2.eq_2]
    unfold g_X6_isAhead_33 g_X6_isAhead_55
    rw [qA_ok (by omega) (by omega) (by omega), R.pit]
    by_cases hc : pX2_pitches b ≤ x
    · rw [if_pos hc, zB_neg]; rintro ⟨p, h1, h2, _⟩; omega
    · have v1 := hs x x0 (by omega)
      have v2 := ho x x0 (by omega)
      have hA : pX6_stands r x = pX6_foundOn r x → oR (x + 1) (g_X6_isAhead_2 n fu (x + 1) r) = some (zB (mBefore (pX6_stands r) (pX6_foundOn r) x (pX2_pitches b))) := by
        intro e
        rw [oR_ok (by omega) (by omega), ih _ (by omega) (by omega) (by omega)]
        refine congrArg some (zB_congr ⟨?_, ?_⟩)
        · rintro ⟨p, h1, h2, h3, h4⟩
          refine ⟨p, by omega, h2, fun q q1 q2 => ?_, h4⟩
          by_cases hq : q = x
          · rw [hq]; exact e
          · exact h3 q (by omega) q2
        · rintro ⟨p, h1, h2, h3, h4⟩
          have : p ≠ x := by intro h; rw [h] at h4; exact h4.1 e
          exact ⟨p, by omega, h2, fun q q1 q2 => h3 q (by omega) q2, h4⟩
      have hB : pX6_stands r x ≠ pX6_foundOn r x → (mBefore (pX6_stands r) (pX6_foundOn r) x (pX2_pitches b) ↔ (pX6_foundOn r x = -1 ∨ (pX6_stands r x ≠ -1 ∧ pX6_stands r x < pX6_foundOn r x))) := by
        intro e
        constructor
        · rintro ⟨p, h1, h2, h3, h4, h5⟩
          by_cases hpx : p = x
          · rw [hpx] at h5; exact h5
          · exact absurd (h3 x (by omega) (by omega)) e
        · intro h; exact ⟨x, by omega, by omega, fun q q1 q2 => by omega, e, h⟩
      have hq : ∀ k : Option Int, qA x 24 k = k := fun k => qA_ok x0 (by omega) (by omega)
      simp only [hq]
      rw [if_neg hc]
      by_cases e1 : pX6_stands r x = -1
      · rw [if_pos e1]
        by_cases e2 : pX6_foundOn r x = -1
        · rw [if_pos e2, if_pos trivial]; exact hA (by omega)
        · rw [if_neg e2, if_neg (by omega), if_pos (by omega), zB_neg]
          rw [hB (by omega)]; omega
      · rw [if_neg e1]
        by_cases e2 : pX6_foundOn r x = -1
        · rw [if_pos e2, if_neg (by omega), if_neg (by omega), zB_pos]
          rw [hB (by omega)]; exact .inl e2
        · rw [if_neg e2]
          by_cases e3 : pX6_stands r x = pX6_foundOn r x
          · rw [if_pos e3]; exact hA e3
          · rw [if_neg e3]
            by_cases e4 : pX6_foundOn r x ≤ pX6_stands r x
            · rw [if_pos e4, zB_neg]; rw [hB e3]; omega
            · rw [if_neg e4, zB_pos]; rw [hB e3]; omega
def Fi (r r' : BX6) : Prop := Fr6 r r' ∧ pX6_stands r' = pX6_stands r ∧ pX6_moving r' = pX6_moving r ∧ pX6_movingMany r' = pX6_movingMany r ∧ pX6_tried r' = pX6_tried r
theorem s_c199 (n : Nat) (r : BX6) : ∀ (fu : Nat) (x : Int) (v : Int → Int), 0 ≤ x → x ≤ 24 → 24 - x < fu → (∀ p, 0 ≤ p → p < x → v p = pX6_stands r p) → ∃ v', g_X6_compares_199 n fu x (sX6_foundOn r v) = some (sX6_foundOn r v') ∧ ∀ p, 0 ≤ p → p < 24 → v' p = pX6_stands r p := by
  intro fu
  induction fu with
  | zero => intro x v _ _ h; omega
  | succ fu ih =>
    intro x v x0 x1 hf hv
    rw [g_X6_compares_199.eq_2]
    by_cases hc : 24 ≤ x
    · rw [if_pos hc]; exact ⟨v, rfl, fun p p0 p1 => hv p p0 (by omega)⟩
    · rw [if_neg hc, qA_ok x0 (by omega) (by omega), qA_ok x0 (by omega) (by omega), oL_def, oR_ok (by omega) (by omega), uX6_foundOn, eX6_foundOn_foundOn, eX6_stands_foundOn]
      refine ih (x + 1) _ (by omega) (by omega) (by omega) (fun p p0 p1 => ?_)
      rw [updZ_app]
      by_cases hp : p = x
      · rw [if_pos hp, hp]
      · rw [if_neg hp]; exact hv p p0 (by omega)
theorem s_c169 (n : Nat) (hn : 100 ≤ n) (r : BX6) : ∀ (fu : Nat) (x : Int) (v : Int → Int), 0 ≤ x → x ≤ 8 → 8 - x < fu → (∀ t, 0 ≤ t → t < x → v t = pX6_tried r t) → ∃ v' u', g_X6_compares_169 n fu x (sX6_found r v) = some (sX6_foundOn (sX6_found r v') u') ∧ (∀ t, 0 ≤ t → t < 8 → v' t = pX6_tried r t) ∧ ∀ p, 0 ≤ p → p < 24 → u' p = pX6_stands r p := by
  intro fu
  induction fu with
  | zero => intro x v _ _ h; omega
  | succ fu ih =>
    intro x v x0 x1 hf hv
    rw [g_X6_compares_169.eq_2]
    by_cases hc : 8 ≤ x
    · rw [if_pos hc]
      obtain ⟨u', h1, h2⟩ := s_c199 n (sX6_found r v) n 0 (pX6_foundOn (sX6_found r v)) (by omega) (by omega) (by omega) (fun p p0 p1 => by omega)
      rw [iX6_foundOn] at h1
      rw [eX6_stands_found] at h2
      exact ⟨v, u', h1, fun t t0 t1 => hv t t0 (by omega), h2⟩
    · rw [if_neg hc, qA_ok x0 (by omega) (by omega), qA_ok x0 (by omega) (by omega), oL_def, oR_ok (by omega) (by omega), uX6_found, eX6_found_found, eX6_tried_found]
      refine ih (x + 1) _ (by omega) (by omega) (by omega) (fun p p0 p1 => ?_)
      rw [updZ_app]
      by_cases hp : p = x
      · rw [if_pos hp, hp]
      · rw [if_neg hp]; exact hv p p0 (by omega)
def RfF (b : BX2) (r : BX6) : Option BX2 → Prop
  | none => pX6_foundIncome r = -1
  | some c => pX6_foundIncome r = mIncome c ∧ pX6_foundMoves r = mvd b c ∧ (∀ t, 0 ≤ t → t < 8 → pX6_found r t = pX2_starts c t) ∧ (∀ p, 0 ≤ p → p < 24 → pX6_foundOn r p = pX2_standing c p) ∧ V2 c ∧ Same c b
theorem s_c156 {n : Nat} (hn : 100 ≤ n) {b c : BX2} {r : BX6} (hc : V2 c) (hs : Same c b) (h1 : ∀ t, 0 ≤ t → t < 8 → pX6_tried r t = pX2_starts c t) (h2 : ∀ p, 0 ≤ p → p < 24 → pX6_stands r p = pX2_standing c p) : ∃ r', g_X6_compares_156 n (mIncome c) (mvd b c) r = some r' ∧ Fi r r' ∧ RfF b r' (some c) := by
  unfold g_X6_compares_156
  obtain ⟨v', u', k1, k2, k3⟩ := s_c169 n hn (sX6_foundMoves (sX6_foundIncome r (mIncome c)) (mvd b c)) n 0 (pX6_found (sX6_foundMoves (sX6_foundIncome r (mIncome c)) (mvd b c))) (by omega) (by omega) (by omega) (fun p p0 p1 => by omega)
  rw [iX6_found] at k1
  rw [eX6_tried_foundMoves, eX6_tried_foundIncome] at k2
  rw [eX6_stands_foundMoves, eX6_stands_foundIncome] at k3
  rw [k1]
  refine ⟨_, rfl, ⟨⟨?_, ?_, ?_, ?_, ?_, ?_, ?_⟩, ?_, ?_, ?_, ?_⟩, ?_, ?_, ?_, ?_, hc, hs⟩
  · rw [eX6_a_foundOn, eX6_a_found, eX6_a_foundMoves, eX6_a_foundIncome]
  · rw [eX6_kept_foundOn, eX6_kept_found, eX6_kept_foundMoves, eX6_kept_foundIncome]
  · rw [eX6_keptMany_foundOn, eX6_keptMany_found, eX6_keptMany_foundMoves, eX6_keptMany_foundIncome]
  · rw [eX6_buffer_foundOn, eX6_buffer_found, eX6_buffer_foundMoves, eX6_buffer_foundIncome]
  · rw [eX6_buffered_foundOn, eX6_buffered_found, eX6_buffered_foundMoves, eX6_buffered_foundIncome]
  · rw [eX6_errorAt_foundOn, eX6_errorAt_found, eX6_errorAt_foundMoves, eX6_errorAt_foundIncome]
  · rw [eX6_thrown_foundOn, eX6_thrown_found, eX6_thrown_foundMoves, eX6_thrown_foundIncome]
  · rw [eX6_stands_foundOn, eX6_stands_found, eX6_stands_foundMoves, eX6_stands_foundIncome]
  · rw [eX6_moving_foundOn, eX6_moving_found, eX6_moving_foundMoves, eX6_moving_foundIncome]
  · rw [eX6_movingMany_foundOn, eX6_movingMany_found, eX6_movingMany_foundMoves, eX6_movingMany_foundIncome]
  · rw [eX6_tried_foundOn, eX6_tried_found, eX6_tried_foundMoves, eX6_tried_foundIncome]
  · rw [eX6_foundIncome_foundOn, eX6_foundIncome_found, eX6_foundIncome_foundMoves, eX6_foundIncome_foundIncome]
  · rw [eX6_foundMoves_foundOn, eX6_foundMoves_found, eX6_foundMoves_foundMoves]
  · intro t t0 t1
    rw [eX6_found_foundOn, eX6_found_found, k2 t t0 t1, h1 t t0 t1]
  · intro p p0 p1
    rw [eX6_foundOn_foundOn, k3 p p0 p1, h2 p p0 p1]
def cFin (n : Nat) (I M : Int) (r : BX6) : Option BX6 := (if (I < (pX6_foundIncome r)) then g_X6_compares_137 n I M r else (if (I = (pX6_foundIncome r)) then (if ((pX6_foundMoves r) < M) then g_X6_compares_137 n I M r else (if (M = (pX6_foundMoves r)) then oB (g_X6_isAhead n r) (fun r_13 => (if (r_13 = 0) then g_X6_compares_137 n I M r else g_X6_compares_141 n I M r)) else g_X6_compares_141 n I M r)) else g_X6_compares_141 n I M r))
theorem s_c14 (n : Nat) (hn : 100 ≤ n) {b : BX2} {r : BX6} (hb : S2 b) (R : Rl b (pX6_a r)) (hst : ∀ t, 0 ≤ t → t < pX2_traders b → pX6_tried r t = -1 ∨ (0 ≤ pX6_tried r t ∧ pX6_tried r t + pX2_fronts b t ≤ pX2_pitches b)) : ∀ (fu : Nat) (I M x : Int), 0 ≤ x → 0 < fu → pX2_traders b - x < fu → 0 ≤ I → I ≤ 3000 * x → 0 ≤ M → M ≤ x →
    g_X6_compares_14 n fu I M x r = cFin n (I + zr (fun t => if pX6_tried r t = -1 then 0 else mRent b t (pX6_tried r t)) x (pX2_traders b)) (M + zr (fun t => if pX2_starts b t = -1 then 0 else if pX6_tried r t = pX2_starts b t then 0 else 1) x (pX2_traders b)) r := by
  have ht := hb.tra
  intro fu
  induction fu with
  | zero => intro I M x _ h0; omega
  | succ fu ih =>
    intro I M x x0 _ hf I0 I1 M0 M1
    rw [g_X6_compares_14.eq_2, qA_ok (by omega) (by omega) (by omega), R.tra]
    by_cases hc : pX2_traders b ≤ x
    · rw [if_pos hc, zr_nil hc, zr_nil hc, Int.add_zero, Int.add_zero]; rfl
    · have hgo : ∀ v, v = (if pX6_tried r x = -1 then 0 else mRent b x (pX6_tried r x)) → 0 ≤ v → v ≤ 2997 → g_X6_compares_51 n (g_X6_compares_14 n fu) I v M x r = cFin n (I + zr (fun t => if pX6_tried r t = -1 then 0 else mRent b t (pX6_tried r t)) x (pX2_traders b)) (M + zr (fun t => if pX2_starts b t = -1 then 0 else if pX6_tried r t = pX2_starts b t then 0 else 1) x (pX2_traders b)) r := by
        intro v hv v0 v1
        have hk : ∀ m, m = (if pX2_starts b x = -1 then (0 : Int) else if pX6_tried r x = pX2_starts b x then 0 else 1) → 0 ≤ m → m ≤ 1 → g_X6_compares_90 n (g_X6_compares_14 n fu) M m (I + v) x r = cFin n (I + zr (fun t => if pX6_tried r t = -1 then 0 else mRent b t (pX6_tried r t)) x (pX2_traders b)) (M + zr (fun t => if pX2_starts b t = -1 then 0 else if pX6_tried r t = pX2_starts b t then 0 else 1) x (pX2_traders b)) r := by
          intro m hm m0 m1
          unfold g_X6_compares_90
          rw [oR_ok (by omega) (by omega), oL_def, oR_ok (by omega) (by omega), ih (I + v) (M + m) (x + 1) (by omega) (by omega) (by omega) (by omega) (by omega) (by omega) (by omega), zr_cons (a := x) (b := pX2_traders b) (by omega), zr_cons (a := x) (b := pX2_traders b) (by omega), ← hv, ← hm, Int.add_assoc, Int.add_assoc]
        unfold g_X6_compares_51 g_X6_compares_89
        rw [oR_ok (by omega) (by omega), oL_def, qA_ok (by omega) (by omega) (by omega), R.st x0 (by omega)]
        by_cases h1 : pX2_starts b x = -1
        · rw [if_pos h1]; exact hk 0 (by rw [if_pos h1]) (by omega) (by omega)
        · rw [if_neg h1, qA_ok x0 (by omega) (by omega), qA_ok (by omega) (by omega) (by omega)]
          by_cases h2 : pX6_tried r x = pX2_starts b x
          · rw [if_pos h2]; exact hk 0 (by rw [if_neg h1, if_pos h2]) (by omega) (by omega)
          · rw [if_neg h2]; exact hk 1 (by rw [if_neg h1, if_neg h2]) (by omega) (by omega)
      rw [if_neg hc, qA_ok x0 (by omega) (by omega)]
      by_cases h1 : pX6_tried r x = -1
      · rw [if_pos h1]; exact hgo 0 (by rw [if_pos h1]) (by omega) (by omega)
      · rcases hst x x0 (by omega) with h | ⟨k1, k2⟩
        · exact absurd h h1
        have hmr := mRent_b hb (t := x) x0 (by omega) k1
        rw [if_neg h1, qA_ok x0 (by omega) (by omega), s_X6_rentOf hn hb R x0 (by omega) k1 k2, oB_some]
        exact hgo _ (by rw [if_neg h1]) hmr.1 hmr.2
theorem s_compares {n : Nat} (hn : 1000 ≤ n) {b : BX2} {r : BX6} (hb : V2 b) (R : Rl b (pX6_a r)) {st : Int → Int} (hL : LayOf b st (pX6_stands r)) (htr : ∀ t, 0 ≤ t → t < 8 → pX6_tried r t = st t) (hst : ∀ t, 0 ≤ t → t < 8 → st t = -1 ∨ (t < pX2_traders b ∧ mInRow b t (st t) ∧ mRent b t (st t) ≤ pX2_limits b t)) {o : Option BX2} (hF : RfF b r o) {G : BX2 → Prop} (hG : ∀ c, V2 c → Same c b → (∀ t, 0 ≤ t → t < 8 → pX2_starts c t = st t) → G c) :
    ∃ r' o', g_X6_compares n r = some r' ∧ Fi r r' ∧ RfF b r' o' ∧ Rs b G (fun c => V2 c ∧ Same c b ∧ ∀ t, 0 ≤ t → t < 8 → pX2_starts c t = st t) o o' := by
  have ht := hb.s.tra
  have hp := hb.s.pit
  have htrS : tSum b (pX6_tried r) 0 = tSum b st 0 := by
    unfold tSum
    apply zr_congr
    intro i i0 i1
    show (if pX6_tried r i = -1 then 0 else mFor b i (pX6_tried r i)) = (if st i = -1 then 0 else mFor b i (st i))
    rw [htr i i0 (by omega)]
  have hrg : ∀ t, 0 ≤ t → t < pX2_traders b → pX6_tried r t = -1 ∨ (0 ≤ pX6_tried r t ∧ pX6_tried r t + pX2_fronts b t ≤ pX2_pitches b) := by
    intro t t0 t1
    rw [htr t t0 (by omega)]
    rcases hst t t0 (by omega) with h | ⟨_, h, _⟩
    · exact .inl h
    · have := mInRow_lt h; right; omega
  have hlr := lay_r ht.1 hL
  unfold g_X6_compares
  rw [s_X6_isSound (by omega) hb.s R hlr hrg, oB_some, htrS]
  by_cases hS : tSum b st 0 ≤ pX2_covers b ∧ NoClV b (pX6_stands r) 0
  · rw [zB_pos hS, if_neg (by omega)]
    have hv := V2_mk hb hL hst hS.1 hS.2
    have hms := mMk_same b st (pX6_stands r)
    have e1 : ∀ t, 0 ≤ t → t < 8 → pX6_tried r t = pX2_starts (mMk b st (pX6_stands r)) t := fun t t0 t1 => by rw [htr t t0 t1, mMk_st b st _ t0 t1]
    have e2 : ∀ p, 0 ≤ p → p < 24 → pX6_stands r p = pX2_standing (mMk b st (pX6_stands r)) p := fun p p0 p1 => by rw [mMk_on b st _ p0 p1]
    generalize mMk b st (pX6_stands r) = c at hv hms e1 e2
    have hmi := mIncome_b hv.w
    have hI : zr (fun t => if pX6_tried r t = -1 then 0 else mRent b t (pX6_tried r t)) 0 (pX2_traders b) = mIncome c := by
      unfold mIncome
      rw [hms.2.2.2.2.1]
      exact zr_congr (fun t t0 t1 => by show (if pX6_tried r t = -1 then 0 else mRent b t (pX6_tried r t)) = (if pX2_starts c t = -1 then 0 else mRent c t (pX2_starts c t)); rw [e1 t t0 (by omega), hms.rent])
    have hM : zr (fun t => if pX2_starts b t = -1 then 0 else if pX6_tried r t = pX2_starts b t then 0 else 1) 0 (pX2_traders b) = mvd b c := by
      unfold mvd
      exact zr_congr (fun t t0 t1 => by show (if pX2_starts b t = -1 then (0 : Int) else if pX6_tried r t = pX2_starts b t then 0 else 1) = (if pX2_starts b t = -1 then 0 else if pX2_starts c t = pX2_starts b t then 0 else 1); rw [e1 t t0 (by omega)])
    rw [s_c14 n (by omega) hb.s R hrg n 0 0 0 (by omega) (by omega) (by omega) (by omega) (by omega) (by omega) (by omega), hI, hM, Int.zero_add, Int.zero_add]
    obtain ⟨r', k1, k2, k3⟩ := s_c156 (n := n) (by omega) hv hms e1 e2
    have hcst : ∀ t, 0 ≤ t → t < 8 → pX2_starts c t = st t := fun t t0 t1 => by rw [← e1 t t0 t1, htr t t0 t1]
    have hRs : Rs b G (fun c => V2 c ∧ Same c b ∧ ∀ t, 0 ≤ t → t < 8 → pX2_starts c t = st t) o (updo b o c) := (Rs_upd o (hG c hv hms hcst)).mono (fun d hd => W2_eq hd.1.w hv.w (hd.2.1.trans hms.symm) (fun t t0 t1 => by rw [hd.2.2 t t0 t1, hcst t t0 t1]))
    have tk : updo b o c = some c → ∃ r' o', g_X6_compares_156 n (mIncome c) (mvd b c) r = some r' ∧ Fi r r' ∧ RfF b r' o' ∧ Rs b G (fun c => V2 c ∧ Same c b ∧ ∀ t, 0 ≤ t → t < 8 → pX2_starts c t = st t) o o' := by
      intro h
      rw [h] at hRs
      exact ⟨r', some c, k1, k2, k3, hRs⟩
    have sty : updo b o c = o → ∃ r' o', some r = some r' ∧ Fi r r' ∧ RfF b r' o' ∧ Rs b G (fun c => V2 c ∧ Same c b ∧ ∀ t, 0 ≤ t → t < 8 → pX2_starts c t = st t) o o' := by
      intro h
      rw [h] at hRs
      exact ⟨r, o, rfl, ⟨Fr6.rfl' r, rfl, rfl, rfl, rfl⟩, hF, hRs⟩
    unfold cFin g_X6_compares_137 g_X6_compares_141 g_X6_compares_142
    cases o with
    | none =>
      have hF : pX6_foundIncome r = -1 := hF
      rw [hF, if_neg (by omega), if_neg (by omega), if_pos rfl]
      exact tk rfl
    | some d =>
      obtain ⟨f1, f2, f3, f4, f5, f6⟩ := hF
      have hmd := mIncome_b f5.w
      have hk := key_lt hb.s f5.w hv.w f6 hms
      have hkb := kyc_before hb.s hv.w f5.w hms f6
      have tk' : key b d < key b c → updo b (some d) c = some c := fun h => cif_pos h
      have sty' : ¬ key b d < key b c → updo b (some d) c = some d := fun h => cif_neg h
      rw [f1, f2]
      rw [if_neg (c := mIncome d = -1) (by omega), if_neg (c := mIncome d = -1) (by omega), if_neg (c := (1 : Int) = 0) (by omega), if_pos (c := (0 : Int) = 0) rfl]
      by_cases h1 : mIncome c < mIncome d
      · rw [if_pos h1]; exact sty (sty' (fun h => by have := hk.1 h; omega))
      · rw [if_neg h1]
        by_cases h2 : mIncome c = mIncome d
        · rw [if_pos h2]
          by_cases h3 : mvd b d < mvd b c
          · rw [if_pos h3]; exact sty (sty' (fun h => by have := hk.1 h; omega))
          · rw [if_neg h3]
            by_cases h4 : mvd b c = mvd b d
            · have hah : g_X6_isAhead n r = some (zB (mBefore (pX6_stands r) (pX6_foundOn r) 0 (pX2_pitches b))) := by
                unfold g_X6_isAhead
                exact s_isAhead2 n hb.s R (fun p p0 p1 => by have := hlr p p0 p1; omega) (fun p p0 p1 => by rw [f4 p p0 p1]; have := f5.w.std p p0 p1; have := f6.2.2.2.2.1; omega) n 0 (by omega) (by omega) (by omega)
              have hbe : mBefore (pX6_stands r) (pX6_foundOn r) 0 (pX2_pitches b) ↔ mBefore (pX2_standing c) (pX2_standing d) 0 (pX2_pitches b) := by
                unfold mBefore
                constructor
                · rintro ⟨p, p0, p1, p2, p3⟩
                  refine ⟨p, p0, p1, fun q q0 q1 => ?_, ?_⟩
                  · rw [← e2 q q0 (by omega), ← f4 q q0 (by omega)]; exact p2 q q0 q1
                  · rw [← e2 p p0 (by omega), ← f4 p p0 (by omega)]; exact p3
                · rintro ⟨p, p0, p1, p2, p3⟩
                  refine ⟨p, p0, p1, fun q q0 q1 => ?_, ?_⟩
                  · rw [e2 q q0 (by omega), f4 q q0 (by omega)]; exact p2 q q0 q1
                  · rw [e2 p p0 (by omega), f4 p p0 (by omega)]; exact p3
              rw [if_pos h4, hah, oB_some, zB_congr hbe]
              by_cases h5 : mBefore (pX2_standing c) (pX2_standing d) 0 (pX2_pitches b)
              · rw [zB_pos h5, if_neg (by omega)]
                exact tk (tk' (hk.2 (.inr ⟨h2.symm, .inr ⟨h4, hkb.1 h5⟩⟩)))
              · rw [zB_neg h5, if_pos rfl]
                refine sty (sty' (fun h => h5 (hkb.2 ?_)))
                have := hk.1 h
                omega
            · rw [if_neg h4]
              exact tk (tk' (hk.2 (.inr ⟨h2.symm, .inl (by omega)⟩)))
        · rw [if_neg h2]
          exact tk (tk' (hk.2 (.inl (by omega))))
  · rw [zB_neg hS, if_pos rfl]
    exact ⟨r, o, rfl, ⟨Fr6.rfl' r, rfl, rfl, rfl, rfl⟩, hF, Rs_nil o (fun c hc => hS (V2_to hc.1 hc.2.1 hb.s hL hc.2.2))⟩
