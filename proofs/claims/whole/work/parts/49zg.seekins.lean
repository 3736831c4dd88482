/-! The reference's search for the best insertion. -/
theorem MvB_up {b : BX2} {nc mo K t : Int} {m : Int → Int} (hM : MvB b nc mo m K) (hK : K ≤ 2) (hmo : K + 1 ≤ mo + 1) (t0 : 0 ≤ t) (t1 : t < pX2_traders b) (ht : pX2_starts b t ≠ -1) (hn : ∀ i, 1 ≤ i → i < K → m i ≠ t) : MvB b nc mo (updZ m K t) (K + 1) := by
  obtain ⟨h1, h2, h3, h4, h5⟩ := hM
  have hK1 := h1.1
  refine ⟨⟨by omega, fun i i0 i1 => ?_, fun i j i0 i1 i2 => ?_⟩, by rw [updZ_ne (by omega)]; exact h2, h3, fun i i0 i1 => ?_, by omega⟩
  · rw [updZ_app]
    by_cases hi : i = K
    · rw [if_pos hi]; exact ⟨t0, t1⟩
    · rw [if_neg hi]; exact h1.2.1 i i0 (by omega)
  · rw [updZ_ne (by omega), updZ_app]
    by_cases hj : j = K
    · rw [if_pos hj]
      by_cases hi : i = 0
      · rw [hi, h2]; exact fun e => ht (by rw [← e]; exact h3)
      · exact hn i (by omega) (by omega)
    · rw [if_neg hj]; exact h1.2.2 i j i0 i1 (by omega)
  · rw [updZ_app]
    by_cases hi : i = K
    · rw [if_pos hi]; exact ht
    · rw [if_neg hi]; exact h4 i i0 (by omega)
def w3 (t u v i : Int) : Int := if i = 1 then t else if i = 2 then u else v
theorem mvd_1 {b c : BX2} {t : Int} (t0 : 0 ≤ t) (t1 : t < pX2_traders b) (h : Mv b c t) : 1 ≤ mvd b c := by
  have := mvd_ge (b := b) (c := c) (w := w3 t t t) (m := 1) (fun i i0 i1 => by rw [show i = 1 by omega]; exact ⟨t0, t1⟩) (fun i j i0 i1 i2 => by omega) (fun i i0 i1 => by rw [show i = 1 by omega]; exact h)
  omega
theorem mvd_2 {b c : BX2} {t u : Int} (t0 : 0 ≤ t) (t1 : t < pX2_traders b) (u0 : 0 ≤ u) (u1 : u < pX2_traders b) (h : Mv b c t) (k : Mv b c u) (e : t ≠ u) : 2 ≤ mvd b c := by
  have h1 : w3 t u u 1 = t := rfl
  have h2 : w3 t u u 2 = u := rfl
  have := mvd_ge (b := b) (c := c) (w := w3 t u u) (m := 2) (fun i i0 i1 => by
    by_cases hi : i = 1
    · rw [hi, h1]; exact ⟨t0, t1⟩
    · rw [show i = 2 by omega, h2]; exact ⟨u0, u1⟩) (fun i j i0 i1 i2 => by rw [show i = 1 by omega, show j = 2 by omega, h1, h2]; exact e) (fun i i0 i1 => by
    by_cases hi : i = 1
    · rw [hi, h1]; exact h
    · rw [show i = 2 by omega, h2]; exact k)
  omega
theorem mvd_3 {b c : BX2} {t u v : Int} (t0 : 0 ≤ t) (t1 : t < pX2_traders b) (u0 : 0 ≤ u) (u1 : u < pX2_traders b) (v0 : 0 ≤ v) (v1 : v < pX2_traders b) (h : Mv b c t) (k : Mv b c u) (l : Mv b c v) (e : t ≠ u) (e2 : t ≠ v) (e3 : u ≠ v) : 3 ≤ mvd b c := by
  have h1 : w3 t u v 1 = t := rfl
  have h2 : w3 t u v 2 = u := rfl
  have h3 : w3 t u v 3 = v := rfl
  have := mvd_ge (b := b) (c := c) (w := w3 t u v) (m := 3) (fun i i0 i1 => by
    by_cases hi : i = 1
    · rw [hi, h1]; exact ⟨t0, t1⟩
    · by_cases hi2 : i = 2
      · rw [hi2, h2]; exact ⟨u0, u1⟩
      · rw [show i = 3 by omega, h3]; exact ⟨v0, v1⟩) (fun i j i0 i1 i2 => by
    by_cases hi : i = 1
    · by_cases hj : j = 2
      · rw [hi, hj, h1, h2]; exact e
      · rw [hi, show j = 3 by omega, h1, h3]; exact e2
    · rw [show i = 2 by omega, show j = 3 by omega, h2, h3]; exact e3) (fun i i0 i1 => by
    by_cases hi : i = 1
    · rw [hi, h1]; exact h
    · by_cases hi2 : i = 2
      · rw [hi2, h2]; exact k
      · rw [show i = 3 by omega, h3]; exact l)
  omega
theorem RfF_mm {b : BX2} {r : BX6} {o : Option BX2} (h : RfF b r o) (v : Int → Int) (k : Int) : RfF b (sX6_movingMany (sX6_moving r v) k) o := by
  cases o with
  | none => show pX6_foundIncome (sX6_movingMany (sX6_moving r v) k) = -1; rw [eX6_foundIncome_movingMany, eX6_foundIncome_moving]; exact h
  | some c => exact ⟨by rw [eX6_foundIncome_movingMany, eX6_foundIncome_moving]; exact h.1, by rw [eX6_foundMoves_movingMany, eX6_foundMoves_moving]; exact h.2.1, by rw [eX6_found_movingMany, eX6_found_moving]; exact h.2.2.1, by rw [eX6_foundOn_movingMany, eX6_foundOn_moving]; exact h.2.2.2.1, h.2.2.2.2⟩
theorem Fr6.mm (r : BX6) (v : Int → Int) (k : Int) : Fr6 r (sX6_movingMany (sX6_moving r v) k) := ⟨by rw [eX6_a_movingMany, eX6_a_moving], by rw [eX6_kept_movingMany, eX6_kept_moving], by rw [eX6_keptMany_movingMany, eX6_keptMany_moving], by rw [eX6_buffer_movingMany, eX6_buffer_moving], by rw [eX6_buffered_movingMany, eX6_buffered_moving], by rw [eX6_errorAt_movingMany, eX6_errorAt_moving], by rw [eX6_thrown_movingMany, eX6_thrown_moving]⟩
/-! one trial with the mover K set -/
theorem s_try1 {n : Nat} (hn : 1000 ≤ n) {b : BX2} (hb : V2 b) {nc mo K t : Int} {m : Int → Int} (hM : MvB b nc mo (updZ m K t) (K + 1)) {r : BX6} {o : Option BX2} (R : Rl b (pX6_a r)) (hmo : ∀ i, 0 ≤ i → i < K → pX6_moving r i = m i) (hF : RfF b r o) :
    ∃ r' o', g_X6_triesMoving n (sX6_movingMany (sX6_moving r (updZ (pX6_moving r) K t)) (K + 1)) = some r' ∧ Fr6 r r' ∧ (∀ i, 0 ≤ i → i < K + 1 → pX6_moving r' i = updZ m K t i) ∧ RfF b r' o' ∧ Rs b (Cd b nc mo) (TM b (updZ m K t) (K + 1)) o o' := by
  have hmv : pX6_moving (sX6_movingMany (sX6_moving r (updZ (pX6_moving r) K t)) (K + 1)) = updZ (pX6_moving r) K t := by rw [eX6_moving_movingMany, eX6_moving_moving]
  have hK := hM.1.1
  obtain ⟨r', o', q1, q2, q3, q4, q5⟩ := s_tries hn hb hM.1 (G := Cd b nc mo) (fun c hc => TM_Cd hM hc) (r := sX6_movingMany (sX6_moving r (updZ (pX6_moving r) K t)) (K + 1)) (by rw [eX6_a_movingMany, eX6_a_moving]; exact R) (fun i i0 i1 => by
    rw [hmv, updZ_app, updZ_app]
    by_cases hi : i = K
    · rw [if_pos hi, if_pos hi]
    · rw [if_neg hi, if_neg hi]; exact hmo i i0 (by omega)) (eX6_movingMany_movingMany _ _) (RfF_mm hF _ _)
  refine ⟨r', o', q1, (Fr6.mm r _ _).trans q2, fun i i0 i1 => ?_, q4, q5⟩
  rw [q3, hmv, updZ_app, updZ_app]
  by_cases hi : i = K
  · rw [if_pos hi, if_pos hi]
  · rw [if_neg hi, if_neg hi]; exact hmo i i0 (by omega)
theorem s_si80 (n : Nat) (hn : 1000 ≤ n) (k28 : Int → Int → BX6 → Option BX6) {b : BX2} (hb : V2 b) {nc mo t : Int} {m : Int → Int} (hM : MvB b nc mo m 2) (hm1 : m 1 = t) (hmo2 : mo ≤ 2) :
    ∀ (fu : Nat) (u : Int) (r : BX6) (o : Option BX2), t < u → 0 < fu → pX2_traders b - u < fu → Rl b (pX6_a r) → (∀ i, 0 ≤ i → i < 2 → pX6_moving r i = m i) → RfF b r o →
    ∃ r' o', g_X6_seeksInsertion_80 n k28 fu mo t u r = g_X6_seeksInsertion_137 n k28 mo t r' ∧ Fr6 r r' ∧ (∀ i, 0 ≤ i → i < 2 → pX6_moving r' i = m i) ∧ RfF b r' o' ∧ Rs b (Cd b nc mo) (fun c => Cd b nc mo c ∧ Mv b c t ∧ (∀ v, 0 ≤ v → v < pX2_traders b → Mv b c v → v = t ∨ u ≤ v) ∧ ∃ v, 0 ≤ v ∧ v < pX2_traders b ∧ Mv b c v ∧ v ≠ t) o o' := by
  have hT := hb.s.tra
  have ht := hM.1.2.1 1 (by omega) (by omega)
  rw [hm1] at ht
  intro fu
  induction fu with
  | zero => intro u r o _ h; omega
  | succ fu ih =>
    intro u r o hu _ hf R hmo hF
    rw [g_X6_seeksInsertion_80.eq_2, qA_ok (by omega) (by omega) (by omega), R.tra]
    by_cases hc : pX2_traders b ≤ u
    · rw [if_pos hc]
      refine ⟨r, o, rfl, Fr6.rfl' r, hmo, hF, Rs_nil o (fun c hx => ?_)⟩
      obtain ⟨x1, x2, x3, v, v0, v1, v2, v3⟩ := hx
      rcases x3 v v0 v1 v2 with h | h
      · exact v3 h
      · omega
    · rw [if_neg hc]
      by_cases h1 : mo ≤ 1
      · rw [if_pos h1]
        refine ⟨r, o, rfl, Fr6.rfl' r, hmo, hF, Rs_nil o (fun c hx => ?_)⟩
        obtain ⟨x1, x2, x3, v, v0, v1, v2, v3⟩ := hx
        have := mvd_2 ht.1 ht.2 v0 v1 x2 v2 (fun e => v3 e.symm)
        have := x1.2.2.2.2
        omega
      · have u0 : 0 ≤ u := by omega
        have hsk : ∀ (r1 : BX6) (o1 : Option BX2) (S : BX2 → Prop), Fr6 r r1 → (∀ i, 0 ≤ i → i < 2 → pX6_moving r1 i = m i) → RfF b r1 o1 → Rs b (Cd b nc mo) S o o1 → (∀ c, Cd b nc mo c → Mv b c t → Mv b c u → S c) → ∃ r' o', g_X6_seeksInsertion_131 n k28 (g_X6_seeksInsertion_80 n k28 fu) mo t u r1 = g_X6_seeksInsertion_137 n k28 mo t r' ∧ Fr6 r r' ∧ (∀ i, 0 ≤ i → i < 2 → pX6_moving r' i = m i) ∧ RfF b r' o' ∧ Rs b (Cd b nc mo) (fun c => Cd b nc mo c ∧ Mv b c t ∧ (∀ v, 0 ≤ v → v < pX2_traders b → Mv b c v → v = t ∨ u ≤ v) ∧ ∃ v, 0 ≤ v ∧ v < pX2_traders b ∧ Mv b c v ∧ v ≠ t) o o' := by
          intro r1 o1 S q1 q2 q3 q4 q5
          unfold g_X6_seeksInsertion_131
          rw [oR_ok (by omega) (by omega)]
          obtain ⟨r', o', i1, i2, i3, i4, i5⟩ := ih (u + 1) r1 o1 (by omega) (by omega) (by omega) (by rw [q1.1]; exact R) q2 q3
          refine ⟨r', o', i1, q1.trans i2, i3, i4, (q4.trans i5).mono (fun c hx => ?_)⟩
          obtain ⟨x1, x2, x3, x4⟩ := hx
          by_cases hmu : Mv b c u
          · exact .inl (q5 c x1 x2 hmu)
          · refine .inr ⟨x1, x2, fun v v0 v1 v2 => ?_, x4⟩
            rcases x3 v v0 v1 v2 with h | h
            · exact .inl h
            · by_cases hv : v = u
              · rw [hv] at v2; exact absurd v2 hmu
              · right; omega
        rw [if_neg h1, qA_ok (by omega) (by omega) (by omega), R.st u0 (by omega)]
        by_cases h2 : pX2_starts b u = -1
        · rw [if_pos h2]
          exact hsk r o (fun _ => False) (Fr6.rfl' r) hmo hF (Rs_nil o (fun _ h => h)) (fun c _ _ h => h.1 h2)
        · have hM3 := MvB_up hM (by omega) (by omega) u0 (by omega) h2 (fun i i0 i1 => by rw [show i = 1 by omega, hm1]; omega)
          obtain ⟨r1, o1, q1, q2, q3, q4, q5⟩ := s_try1 hn hb hM3 R hmo hF
          have q1 : g_X6_triesMoving n (sX6_movingMany (sX6_moving r (updZ (pX6_moving r) 2 u)) 3) = some r1 := q1
          rw [if_neg h2, qA_ok (by omega) (by omega) (by omega), oL_def, q1, oB_some]
          refine hsk r1 o1 _ q2 (fun i i0 i1 => by rw [q3 i i0 (by omega), updZ_ne (by omega)]) q4 q5 (fun c x1 x2 x3 => Cd_TM hb hM3 x1 (fun v v0 v1 v2 => ?_))
          by_cases e1 : v = t
          · exact ⟨1, by omega, by omega, by rw [updZ_ne (by omega), hm1, e1]⟩
          · by_cases e2 : v = u
            · exact ⟨2, by omega, by omega, by rw [updZ_at, e2]⟩
            · have := mvd_3 ht.1 ht.2 u0 (by omega) v0 v1 x2 x3 v2 (by omega) (fun e => e1 e.symm) (fun e => e2 e.symm)
              have := x1.2.2.2.2
              omega
theorem s_si28 (n : Nat) (hn : 1000 ≤ n) {b : BX2} (hb : V2 b) {nc mo : Int} {m : Int → Int} (hM : MvB b nc mo m 1) (hmo2 : mo ≤ 2) :
    ∀ (fu : Nat) (t : Int) (r : BX6) (o : Option BX2), 0 ≤ t → 0 < fu → pX2_traders b - t < fu → Rl b (pX6_a r) → pX6_moving r 0 = nc → RfF b r o →
    ∃ r' o', g_X6_seeksInsertion_28 n fu mo t r = some r' ∧ Fr6 r r' ∧ RfF b r' o' ∧ Rs b (Cd b nc mo) (fun c => Cd b nc mo c ∧ (∀ v, 0 ≤ v → v < pX2_traders b → Mv b c v → t ≤ v) ∧ ∃ v, 0 ≤ v ∧ v < pX2_traders b ∧ Mv b c v) o o' := by
  have hT := hb.s.tra
  have hm0 := hM.2.1
  intro fu
  induction fu with
  | zero => intro t r o _ h; omega
  | succ fu ih =>
    intro t r o t0 _ hf R hmo hF
    rw [g_X6_seeksInsertion_28.eq_2, qA_ok (by omega) (by omega) (by omega), R.tra]
    by_cases hc : pX2_traders b ≤ t
    · rw [if_pos hc]
      refine ⟨r, o, rfl, Fr6.rfl' r, hF, Rs_nil o (fun c hx => ?_)⟩
      obtain ⟨x1, x2, v, v0, v1, v2⟩ := hx
      have := x2 v v0 v1 v2
      omega
    · rw [if_neg hc]
      by_cases h1 : mo ≤ 0
      · rw [if_pos h1]
        refine ⟨r, o, rfl, Fr6.rfl' r, hF, Rs_nil o (fun c hx => ?_)⟩
        obtain ⟨x1, x2, v, v0, v1, v2⟩ := hx
        have := mvd_1 v0 v1 v2
        have := x1.2.2.2.2
        omega
      · have hsk : ∀ (r1 : BX6) (o1 : Option BX2) (S : BX2 → Prop), Fr6 r r1 → pX6_moving r1 0 = nc → RfF b r1 o1 → Rs b (Cd b nc mo) S o o1 → (∀ c, Cd b nc mo c → (∀ v, 0 ≤ v → v < pX2_traders b → Mv b c v → t ≤ v) → Mv b c t → S c) → ∃ r' o', g_X6_seeksInsertion_137 n (g_X6_seeksInsertion_28 n fu) mo t r1 = some r' ∧ Fr6 r r' ∧ RfF b r' o' ∧ Rs b (Cd b nc mo) (fun c => Cd b nc mo c ∧ (∀ v, 0 ≤ v → v < pX2_traders b → Mv b c v → t ≤ v) ∧ ∃ v, 0 ≤ v ∧ v < pX2_traders b ∧ Mv b c v) o o' := by
          intro r1 o1 S q1 q2 q3 q4 q5
          unfold g_X6_seeksInsertion_137
          rw [oR_ok (by omega) (by omega)]
          obtain ⟨r', o', i1, i2, i3, i4⟩ := ih (t + 1) r1 o1 (by omega) (by omega) (by omega) (by rw [q1.1]; exact R) q2 q3
          refine ⟨r', o', i1, q1.trans i2, i3, (q4.trans i4).mono (fun c hx => ?_)⟩
          obtain ⟨x1, x2, x3⟩ := hx
          by_cases hmt : Mv b c t
          · exact .inl (q5 c x1 x2 hmt)
          · refine .inr ⟨x1, fun v v0 v1 v2 => ?_, x3⟩
            have := x2 v v0 v1 v2
            by_cases hv : v = t
            · rw [hv] at v2; exact absurd v2 hmt
            · omega
        rw [if_neg h1, qA_ok (by omega) (by omega) (by omega), R.st t0 (by omega)]
        by_cases h2 : pX2_starts b t = -1
        · rw [if_pos h2]
          exact hsk r o (fun _ => False) (Fr6.rfl' r) hmo hF (Rs_nil o (fun _ h => h)) (fun c _ _ h => h.1 h2)
        · have hM2 : MvB b nc mo (updZ m 1 t) 2 := MvB_up hM (by omega) (by omega) t0 (by omega) h2 (fun i i0 i1 => by omega)
          obtain ⟨r1, o1, q1, q2, q3, q4, q5⟩ := s_try1 hn hb (K := 1) hM2 R (fun i i0 i1 => by rw [show i = 0 by omega, hmo, hm0]) hF
          have q1 : g_X6_triesMoving n (sX6_movingMany (sX6_moving r (updZ (pX6_moving r) 1 t)) 2) = some r1 := q1
          obtain ⟨r2, o2, j1, j2, j3, j4, j5⟩ := s_si80 n hn (g_X6_seeksInsertion_28 n fu) hb hM2 (updZ_at _ _ _) hmo2 n (t + 1) r1 o1 (by omega) (by omega) (by omega) (by rw [q2.1]; exact R) (fun i i0 i1 => q3 i i0 (by omega)) q4
          rw [if_neg h2, qA_ok (by omega) (by omega) (by omega), oL_def, q1, oB_some, oR_ok (by omega) (by omega), oL_def, j1]
          refine hsk r2 o2 _ (q2.trans j2) (by rw [j3 0 (by omega) (by omega), updZ_ne (by omega), hm0]) j4 (q5.trans j5) (fun c x1 x2 x3 => ?_)
          by_cases hex : ∃ v, 0 ≤ v ∧ v < pX2_traders b ∧ Mv b c v ∧ v ≠ t
          · refine .inr ⟨x1, x3, fun v v0 v1 v2 => ?_, hex⟩
            have := x2 v v0 v1 v2
            omega
          · refine .inl (Cd_TM hb hM2 x1 (fun v v0 v1 v2 => ⟨1, by omega, by omega, ?_⟩))
            rw [updZ_at]
            exact (Classical.byContradiction (fun e => hex ⟨v, v0, v1, v2, fun e2 => e e2.symm⟩))
theorem s_seeksIns {n : Nat} (hn : 1000 ≤ n) {b : BX2} (hb : V2 b) {nc mo : Int} {r : BX6} (R : Rl b (pX6_a r)) (n0 : 0 ≤ nc) (n1 : nc < pX2_traders b) (n2 : pX2_starts b nc = -1) (m0 : 0 ≤ mo) (m1 : mo ≤ 2) : ∃ r' o', g_X6_seeksInsertion n r nc mo = some r' ∧ Fr6 r r' ∧ RfF b r' o' ∧ Rs b (Cd b nc mo) (Cd b nc mo) none o' := by
  have hT := hb.s.tra
  unfold g_X6_seeksInsertion
  rw [qA_ok (by omega) (by omega) (by omega), oL_def]
  have hM : MvB b nc mo (updZ (pX6_moving r) 0 nc) 1 := by
    refine ⟨⟨by omega, fun i i0 i1 => ?_, fun i j i0 i1 i2 => by omega⟩, updZ_at _ _ _, n2, fun i i0 i1 => by omega, by omega⟩
    rw [show i = 0 by omega, updZ_at]; exact ⟨n0, n1⟩
  have hmv : pX6_moving (sX6_foundMoves (sX6_foundIncome (sX6_movingMany (sX6_moving r (updZ (pX6_moving r) 0 nc)) 1) (-1)) 0) = updZ (pX6_moving r) 0 nc := by rw [eX6_moving_foundMoves, eX6_moving_foundIncome, eX6_moving_movingMany, eX6_moving_moving]
  have hF0 : Fr6 r (sX6_foundMoves (sX6_foundIncome (sX6_movingMany (sX6_moving r (updZ (pX6_moving r) 0 nc)) 1) (-1)) 0) := by
    refine (Fr6.mm r (updZ (pX6_moving r) 0 nc) 1).trans ⟨?_, ?_, ?_, ?_, ?_, ?_, ?_⟩
    · rw [eX6_a_foundMoves, eX6_a_foundIncome]
    · rw [eX6_kept_foundMoves, eX6_kept_foundIncome]
    · rw [eX6_keptMany_foundMoves, eX6_keptMany_foundIncome]
    · rw [eX6_buffer_foundMoves, eX6_buffer_foundIncome]
    · rw [eX6_buffered_foundMoves, eX6_buffered_foundIncome]
    · rw [eX6_errorAt_foundMoves, eX6_errorAt_foundIncome]
    · rw [eX6_thrown_foundMoves, eX6_thrown_foundIncome]
  obtain ⟨r1, o1, q1, q2, q3, q4, q5⟩ := s_tries hn hb hM.1 (G := Cd b nc mo) (fun c hc => TM_Cd hM hc) (r := sX6_foundMoves (sX6_foundIncome (sX6_movingMany (sX6_moving r (updZ (pX6_moving r) 0 nc)) 1) (-1)) 0) (o := none) (by rw [hF0.1]; exact R) (fun i i0 i1 => by rw [hmv]) (by rw [eX6_movingMany_foundMoves, eX6_movingMany_foundIncome, eX6_movingMany_movingMany]) (by show pX6_foundIncome _ = -1; rw [eX6_foundIncome_foundMoves, eX6_foundIncome_foundIncome])
  obtain ⟨r2, o2, j1, j2, j3, j4⟩ := s_si28 n hn hb hM m1 n 0 r1 o1 (by omega) (by omega) (by omega) (by rw [q2.1, hF0.1]; exact R) (by rw [q3, hmv, updZ_at]) q4
  rw [q1, oB_some, j1]
  refine ⟨r2, o2, rfl, (hF0.trans q2).trans j2, j3, (q5.trans j4).mono (fun c hc => ?_)⟩
  by_cases hex : ∃ v, 0 ≤ v ∧ v < pX2_traders b ∧ Mv b c v
  · exact .inr ⟨hc, fun v v0 _ _ => v0, hex⟩
  · exact .inl (Cd_TM hb hM hc (fun v v0 v1 v2 => absurd ⟨v, v0, v1, v2⟩ hex))
