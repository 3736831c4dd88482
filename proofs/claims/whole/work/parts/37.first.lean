/-! firstCome -/
noncomputable def seenN (s : Int) : Int := zr (fun t => zB (zbit s t)) 0 8
theorem seenN_b (s : Int) : 0 ≤ seenN s ∧ seenN s ≤ 8 := by
  have := zr_bound (f := fun t => zB (zbit s t)) (a := 0) (b := 8) (l := 0) (u := 1) (by omega) (fun i _ _ => by rcases zB_01 (zbit s i) with h | h <;> rw [h] <;> omega)
  unfold seenN; omega
theorem seenN_or {s t : Int} (t0 : 0 ≤ t) (t1 : t < 8) (h : ¬ zbit s t) : seenN (zOr s (zShl 1 t)) = seenN s + 1 := by
  unfold seenN
  have e : zr (fun u => zB (zbit (zOr s (zShl 1 t)) u)) 0 8 = zr (updZ (fun u => zB (zbit s u)) t 1) 0 8 := by
    apply zr_congr
    intro i i0 i1
    rw [updZ_app]
    show zB (zbit (zOr s (zShl 1 t)) i) = _
    rw [zB_congr (zbit_or t0 (by omega) i0 (by omega))]
    by_cases hi : i = t
    · rw [if_pos hi, zB_pos (.inr hi)]
    · rw [if_neg hi]; exact zB_congr ⟨fun x => x.resolve_right hi, .inl⟩
  rw [e, zr_upd t0 t1, zB_neg h]; omega
theorem seenN_8 {s : Int} (h : seenN s = 8) {t : Int} (t0 : 0 ≤ t) (t1 : t < 8) : zbit s t := by
  by_cases hz : zbit s t
  · exact hz
  · have := seenN_or t0 t1 hz
    have := seenN_b (zOr s (zShl 1 t))
    omega
theorem seenN_0 : seenN 0 = 0 := zr_0 (fun i i0 i1 => zB_neg (zbit_0 i0 (by omega)))
theorem p10 (k : Nat) : (0 : Int) < 10 ^ k := Int.pow_pos (by omega)
theorem p10s (k : Nat) : (10 : Int) ^ (k + 1) = 10 * 10 ^ k := Int.pow_succ' 10 k
theorem div_p10 (a : Int) (k : Nat) : a / 10 / 10 ^ k = a / 10 ^ (k + 1) := by
  rw [Int.ediv_ediv_of_nonneg (by omega), p10s]
theorem rq (n : Nat) {b : BX2} {r : BX6} (hb : S2 b) (R : Rl b (pX6_a r)) (o : Int) (ho : 0 ≤ o) : ∀ (fu : Nat) (rest seen cnt : Int) (x : BX5), pX5_market x = b → 0 ≤ rest → rest < 10 ^ fu → rest ≤ 9223372036854775807 → cnt = seenN seen →
    (∃ q, g_X5_readQueue_16 n (fu + 1) seen cnt rest x = some (-1, sX5_queue x q) ∧ g_X6_isOrder_5 n (fu + 1) o seen rest r = some 0) ∨
    (∃ (c : Nat) (q : Int → Int), g_X5_readQueue_16 n (fu + 1) seen cnt rest x = some (cnt + c, sX5_queue x q) ∧ g_X6_isOrder_5 n (fu + 1) o seen rest r = some 1 ∧ cnt + c ≤ 8 ∧ (rest = 0 → c = 0) ∧ (0 < rest → 0 < c ∧ 10 ^ (c - 1) ≤ rest ∧ rest < 10 ^ c) ∧
      (∀ i : Nat, i < c → q (cnt + i) = rest / 10 ^ i % 10 - 1 ∧ 0 ≤ q (cnt + i) ∧ q (cnt + i) < pX2_traders b ∧ ¬ zbit seen (q (cnt + i))) ∧ (∀ i j : Nat, i < j → j < c → q (cnt + i) ≠ q (cnt + j)) ∧ (∀ i, i < cnt → q i = pX5_queue x i)) := by
  have ht := hb.tra
  intro fu
  induction fu with
  | zero =>
    intro rest seen cnt x hx r0 r1 r2 hc
    have hr : rest = 0 := by have : (10 : Int) ^ 0 = 1 := rfl; omega
    right
    refine ⟨0, pX5_queue x, ?_, ?_, ?_, fun _ => rfl, fun h => by omega, fun i h => by omega, fun i j _ h => by omega, fun _ _ => rfl⟩
    · rw [g_X5_readQueue_16.eq_2, if_pos (by omega), iX5_queue]; simp
    · rw [g_X6_isOrder_5.eq_2, if_pos (by omega), if_neg (by omega)]
    · have := seenN_b seen; omega
  | succ fu ih =>
    intro rest seen cnt x hx r0 r1 r2 hc
    have hsb := seenN_b seen
    rw [g_X5_readQueue_16.eq_2, g_X6_isOrder_5.eq_2]
    by_cases hr : rest = 0
    · right
      refine ⟨0, pX5_queue x, ?_, ?_, by omega, fun _ => rfl, fun h => by omega, fun i h => by omega, fun i j _ h => by omega, fun _ _ => rfl⟩
      · rw [if_pos (by omega), iX5_queue]; simp
      · rw [if_pos (by omega), if_neg (by omega)]
    · by_cases h1 : 0 ≤ rest % 10 - 1 ∧ rest % 10 - 1 < pX2_traders b
      · by_cases h2 : zbit seen (rest % 10 - 1)
        · left
          refine ⟨pX5_queue x, ?_, ?_⟩
          · rw [if_neg (by omega), qD_ok r0 (by omega), oRJ_ok (by omega) (by omega), oR_ok (by omega) (by omega), oL_def, hx, s_X2_hasTrader, oB_some, zB_pos h1, if_neg (by omega), if_neg (c := zAnd (zShr seen (rest % 10 - 1)) 1 = 0) h2, iX5_queue]
          · rw [if_neg (by omega), qD_ok r0 (by omega), oRJ_ok (by omega) (by omega), oR_ok (by omega) (by omega), oL_def, s_X6_isTrader hb R, oB_some, zB_pos h1, if_neg (by omega), if_pos ((zShr1_eq1 h1.1 (by omega)).2 h2)]
        · have h2' : zAnd (zShr seen (rest % 10 - 1)) 1 = 0 := Classical.byContradiction h2
          have hc8 : cnt < 8 := by
            by_cases h8 : seenN seen = 8
            · exact absurd (seenN_8 h8 h1.1 (by omega)) h2
            · omega
          have C : (if rest ≤ 0 then some (cnt, x) else qD rest 10 (oRJ (rest % 10) (oR (rest % 10 - 1) (oL (rest % 10 - 1) (fun y_1 => oB (g_X2_hasTrader (pX5_market x) y_1) (fun r_2 => (if (r_2 = 0) then some ((-1), x) else (if ((zAnd (zShr seen y_1) 1) = 0) then (if (cnt < 8) then oL (zOr seen (zShl 1 y_1)) (fun y_4 => qA cnt (8) (oL (updZ (pX5_queue x) cnt y_1) (fun v_6 => oRJ ((rest / 10)) (oL (rest / 10) (fun y_7 => oR ((cnt + 1)) (g_X5_readQueue_16 n (fu + 1) y_4 (cnt + 1) y_7 (sX5_queue x v_6))))))) else some ((-1), x)) else some ((-1), x))))))))) = g_X5_readQueue_16 n (fu + 1) (zOr seen (zShl 1 (rest % 10 - 1))) (cnt + 1) (rest / 10) (sX5_queue x (updZ (pX5_queue x) cnt (rest % 10 - 1))) := by
            rw [if_neg (by omega), qD_ok r0 (by omega), oRJ_ok (by omega) (by omega), oR_ok (by omega) (by omega), oL_def, hx, s_X2_hasTrader, oB_some, zB_pos h1, if_neg (by omega), if_pos h2', if_pos hc8, oL_def, qA_ok (by omega) (by omega) (by omega), oL_def, oRJ_ok (by omega) (by omega), oL_def, oR_ok (by omega) (by omega)]
          have D : (if rest ≤ 0 then (if o < 0 then some 0 else some 1) else qD rest (10) (oRJ ((rest % 10)) (oR (((rest % 10) - 1)) (oL ((rest % 10) - 1) (fun y_1 => oB (g_X6_isTrader r y_1) (fun r_2 => (if (r_2 = 0) then some (0) else (if ((zAnd (zShr seen y_1) 1) = 1) then some (0) else oL (zOr seen (zShl 1 y_1)) (fun y_4 => oRJ ((rest / 10)) (oL (rest / 10) (fun y_5 => g_X6_isOrder_5 n (fu + 1) o y_4 y_5 r)))))))))) ) = g_X6_isOrder_5 n (fu + 1) o (zOr seen (zShl 1 (rest % 10 - 1))) (rest / 10) r := by
            rw [if_neg (by omega), qD_ok r0 (by omega), oRJ_ok (by omega) (by omega), oR_ok (by omega) (by omega), oL_def, s_X6_isTrader hb R, oB_some, zB_pos h1, if_neg (by omega), if_neg (by omega), oL_def, oRJ_ok (by omega) (by omega), oL_def]
          rw [C, D]
          have hsn := seenN_or h1.1 (by omega) h2
          have hlt : rest / 10 < 10 ^ fu := by have := p10s fu; omega
          have := ih (rest / 10) (zOr seen (zShl 1 (rest % 10 - 1))) (cnt + 1) (sX5_queue x (updZ (pX5_queue x) cnt (rest % 10 - 1))) (by rw [eX5_market_queue]; exact hx) (by omega) hlt (by omega) (by omega)
          rcases this with ⟨q, e1, e2⟩ | ⟨c, q, e1, e2, e3, e4, e5, e6, e7, e8⟩
          · left; exact ⟨q, by rw [e1, uX5_queue], e2⟩
          · right
            have hq0 : q cnt = rest % 10 - 1 := by rw [e8 cnt (by omega), eX5_queue_queue, updZ_at]
            refine ⟨c + 1, q, ?_, e2, by omega, fun h => absurd h hr, ?_, ?_, ?_, ?_⟩
            · rw [e1, uX5_queue]; congr 2; omega
            · intro _
              refine ⟨by omega, ?_, ?_⟩
              · by_cases h0 : rest / 10 = 0
                · have := e4 h0; subst this; show (10 : Int) ^ 0 ≤ rest; have : (10 : Int) ^ 0 = 1 := rfl; omega
                · obtain ⟨f1, f2, f3⟩ := e5 (by omega)
                  rw [show c + 1 - 1 = (c - 1) + 1 by omega, p10s]
                  omega
              · by_cases h0 : rest / 10 = 0
                · have := e4 h0; subst this; have : (10 : Int) ^ (0 + 1) = 10 := rfl; omega
                · obtain ⟨f1, f2, f3⟩ := e5 (by omega)
                  rw [p10s]; omega
            · intro i hi
              cases i with
              | zero =>
                have e0 : cnt + ((0 : Nat) : Int) = cnt := by omega
                have e1 : rest / 10 ^ 0 = rest := by rw [Int.pow_zero, Int.ediv_one]
                rw [e0, hq0, e1]
                exact ⟨rfl, h1.1, h1.2, h2⟩
              | succ i =>
                have h := e6 i (by omega)
                rw [show cnt + ((i + 1 : Nat) : Int) = cnt + 1 + (i : Int) by omega]
                rw [div_p10] at h
                refine ⟨h.1, h.2.1, h.2.2.1, fun hz => h.2.2.2 ?_⟩
                exact (zbit_or h1.1 (by omega) h.2.1 (by omega)).2 (.inl hz)
            · intro i j hij hj
              cases i with
              | zero =>
                cases j with
                | zero => omega
                | succ j =>
                  have h := e6 j (by omega)
                  rw [show cnt + ((0 : Nat) : Int) = cnt by omega, show cnt + ((j + 1 : Nat) : Int) = cnt + 1 + (j : Int) by omega, hq0]
                  intro he
                  apply h.2.2.2
                  exact (zbit_or h1.1 (by omega) h.2.1 (by omega)).2 (.inr he.symm)
              | succ i =>
                cases j with
                | zero => omega
                | succ j =>
                  rw [show cnt + ((i + 1 : Nat) : Int) = cnt + 1 + (i : Int) by omega, show cnt + ((j + 1 : Nat) : Int) = cnt + 1 + (j : Int) by omega]
                  exact e7 i j (by omega) (by omega)
            · intro i hi
              rw [e8 i (by omega), eX5_queue_queue, updZ_ne (by omega)]
      · left
        refine ⟨pX5_queue x, ?_, ?_⟩
        · rw [if_neg (by omega), qD_ok r0 (by omega), oRJ_ok (by omega) (by omega), oR_ok (by omega) (by omega), oL_def, hx, s_X2_hasTrader, oB_some, zB_neg h1, if_pos rfl, iX5_queue]
        · rw [if_neg (by omega), qD_ok r0 (by omega), oRJ_ok (by omega) (by omega), oR_ok (by omega) (by omega), oL_def, s_X6_isTrader hb R, oB_some, zB_neg h1, if_pos rfl]
/-! the traders come -/
theorem s_X6_firstCome_151 (n : Nat) (r : BX6) (c : Int) (v : Int → Int) : ∀ (fu : Nat) (x : Int), 0 ≤ x → x ≤ 8 → 8 - x < fu → g_X6_firstCome_151 n fu c x (sX6_a r (fun i => if 107 ≤ i ∧ i < 107 + x then pX6_found r (i - 107) else v i)) = some (c, sX6_a r (fun i => if 107 ≤ i ∧ i < 115 then pX6_found r (i - 107) else v i)) := by
  intro fu
  induction fu with
  | zero => intro x _ _ h0; omega
  | succ fu ih =>
    intro x x0 x1 hf
    rw [g_X6_firstCome_151.eq_2, eX6_a_a, eX6_found_a]
    by_cases h : 8 ≤ x
    · rw [if_pos h, show x = 8 by omega]; rfl
    · rw [if_neg h, qA_ok (by omega) (by omega) (by omega), qA_ok (by omega) (by omega) (by omega), oL_def, oR_ok (by omega) (by omega), uX6_a]
      rw [← ih (x + 1) (by omega) (by omega) (by omega)]
      refine congrArg (fun z => g_X6_firstCome_151 n fu c (x + 1) (sX6_a r z)) ?_
      funext i
      rw [updZ_app]
      by_cases h1 : i = 107 + x
      · rw [if_pos h1, if_pos (by omega)]; exact congrArg _ (by omega)
      · rw [if_neg h1]
        by_cases h2 : 107 ≤ i ∧ i < 107 + x
        · rw [if_pos h2, if_pos (by omega)]
        · rw [if_neg h2, if_neg (by omega)]
theorem s_X6_firstCome_142 {n : Nat} (hn : 100 ≤ n) {d : BX2} {r : BX6} {v : Int → Int} (hd : W2 d) (R : Rl d v) : g_X6_firstCome_142 n (sX6_a r v) = some (mIncome d, sX6_a r (fun i => if 107 ≤ i ∧ i < 115 then pX6_found r (i - 107) else v i)) := by
  unfold g_X6_firstCome_142
  rw [s_X6_incomeNow hn hd (by rw [eX6_a_a]; exact R), oB_some]
  have h := s_X6_firstCome_151 n r (mIncome d) v n 0 (by omega) (by omega) (by omega)
  have e : (fun i => if 107 ≤ i ∧ i < 107 + 0 then pX6_found r (i - 107) else v i) = v := by funext i; rw [if_neg (by omega)]
  rw [e] at h
  exact h
theorem fc (n : Nat) (hn : 100 ≤ n) (r : BX6) (o : Int) (ho : 0 < o) (q : Int → Int) : ∀ (k fu fv : Nat) (x : BX5) (d : BX2) (v : Int → Int), k < fu → k < fv → k ≤ 8 → o ≤ 9223372036854775807 → pX5_draft x = d → pX5_queue x = q → W2 d → Rl d v → (0 < k → 10 ^ (k - 1) ≤ o) →
    (∀ i : Nat, i < k → q i = o / 10 ^ i % 10 - 1 ∧ 0 ≤ q i ∧ q i < pX2_traders d ∧ pX2_starts d (q i) = -1) → (∀ i j : Nat, i < j → j < k → q i ≠ q j) →
    ∃ (d' : BX2) (w : Int) (v' : Int → Int), g_X5_firstCome_43 n fu ((k : Int) - 1) x = some (0, w, sX5_draft x d') ∧ g_X6_firstCome_89 n fv o (if k = 0 then 0 else 10 ^ (k - 1)) (sX6_a r v) = some (w, sX6_a r (fun i => if 107 ≤ i ∧ i < 115 then pX6_found r (i - 107) else v' i)) ∧ W2 d' ∧ (∀ i, (i < 107 ∨ 115 ≤ i) → v' i = v i) := by
  intro k
  induction k with
  | zero =>
    intro fu fv x d v hfu hfv _ _ hx hq hd R _ _ _
    obtain ⟨fu, rfl⟩ : ∃ f, fu = f + 1 := ⟨fu - 1, by omega⟩
    obtain ⟨fv, rfl⟩ : ∃ f, fv = f + 1 := ⟨fv - 1, by omega⟩
    refine ⟨d, mIncome d, v, ?_, ?_, hd, fun i _ => rfl⟩
    · rw [g_X5_firstCome_43.eq_2, if_pos (by omega), hx, s_X2_totalRent hn hd, oB_some, ← hx, iX5_draft]
    · rw [g_X6_firstCome_89.eq_2, if_pos rfl, if_pos (by omega), s_X6_firstCome_142 hn hd R]
  | succ k ih =>
    intro fu fv x d v hfu hfv k8 ho2 hx hq hd R hpw hqs hqd
    obtain ⟨fu, rfl⟩ : ∃ f, fu = f + 1 := ⟨fu - 1, by omega⟩
    obtain ⟨fv, rfl⟩ : ∃ f, fv = f + 1 := ⟨fv - 1, by omega⟩
    have ht := hd.s.tra
    have hp := hd.s.pit
    obtain ⟨q1, q2, q3, q4⟩ := hqs k (by omega)
    have hk1 : k + 1 - 1 = k := by omega
    have hpk : (10 : Int) ^ k ≤ o := by have := hpw (by omega); rw [hk1] at this; exact this
    have hp0 := p10 k
    have hdr := mDearest_r hd.s (q k) (-1)
    -- both sides take the same start
    have key : ∃ d1, (if mDearest d (q k) (-1) = -1 then d else mSeat d (q k) (mDearest d (q k) (-1))) = d1 ∧ W2 d1 ∧ Rl d1 (updZ v (107 + q k) (mDearest d (q k) (-1))) ∧ pX2_traders d1 = pX2_traders d ∧ (∀ u, u ≠ q k → pX2_starts d1 u = pX2_starts d u) := by
      by_cases hm : mDearest d (q k) (-1) = -1
      · refine ⟨d, by rw [if_pos hm], hd, ?_, rfl, fun _ _ => rfl⟩
        rw [hm]
        refine Rl_congr hd.s R (fun i _ _ => ?_)
        rw [updZ_app]; split
        · rename_i h; rw [h, R.st q2 (by omega), q4]
        · rfl
      · have hh : mHind d (q k) (mDearest d (q k) (-1)) = 0 := by
          rcases hdr with h | h
          · exact absurd h hm
          · exact h.2.2.2
        refine ⟨_, by rw [if_neg hm], W2_seat0 hd q2 q3 hh, Rl_seat R hd.s _ q2 (by omega), rfl, fun u hu => ?_⟩
        show updZ (pX2_starts d) (q k) _ u = _
        rw [updZ_ne hu]
    obtain ⟨d1, e0, hd1, R1, ht1, hs1⟩ := key
    have hxq : pX5_queue x (((k + 1 : Nat) : Int) - 1) = q k := by rw [hq]; exact congrArg q (by omega)
    obtain ⟨d', w, v', i1, i2, i3, i4⟩ := ih fu fv (sX5_draft x d1) d1 (updZ v (107 + q k) (mDearest d (q k) (-1))) (by omega) (by omega) (by omega) ho2 (eX5_draft_draft _ _) (by rw [eX5_queue_draft]; exact hq) hd1 R1
      (fun hk => by
        have e := p10s (k - 1)
        rw [show k - 1 + 1 = k by omega] at e
        have := p10 (k - 1)
        omega)
      (fun i hi => by
        obtain ⟨a1, a2, a3, a4⟩ := hqs i (by omega)
        refine ⟨a1, a2, by rw [ht1]; exact a3, ?_⟩
        rw [hs1 _ (hqd i k hi (by omega))]; exact a4)
      (fun i j hij hj => hqd i j hij (by omega))
    refine ⟨d', w, v', ?_, ?_, i3, ?_⟩
    · rw [g_X5_firstCome_43.eq_2, if_neg (by omega), qA_ok (by omega) (by omega) (by omega), hxq, hx, s_X2_seatDearest hn hd q2 q3, oB_some, e0, oR_ok (by omega) (by omega), show ((k + 1 : Nat) : Int) - 1 + -1 = (k : Int) - 1 by omega, i1, uX5_draft]
    · rw [if_neg (by omega : ¬ k + 1 = 0), hk1, g_X6_firstCome_89.eq_2, if_neg (by omega), if_neg (by omega)]
      have hdiv : 0 ≤ o / 10 ^ k ∧ o / 10 ^ k ≤ o := ⟨Int.ediv_nonneg (by omega) (by omega), Int.ediv_le_self _ (by omega)⟩
      rw [oG_ok (by omega), qD_ok (by omega) hp0, oRJ_ok (by omega) (by omega), qD_ok hdiv.1 (by omega), oRJ_ok (by omega) (by omega), oR_ok (by omega) (by omega), oL_def, ← q1]
      rw [s_X6_takesStart hn hd (by rw [eX6_a_a]; exact R) q2 q3, oB_some, qA_ok (by omega) (by omega) (by omega), oL_def, eX6_a_a, qD_ok (by omega) (by omega), oRJ_ok (by omega) (by omega), oL_def, uX6_a]
      have e : (10 : Int) ^ k / 10 = if k = 0 then 0 else 10 ^ (k - 1) := by
        by_cases hk : k = 0
        · subst hk; rfl
        · rw [if_neg hk]
          have e := p10s (k - 1)
          rw [show k - 1 + 1 = k by omega] at e
          omega
      rw [e, i2]
    · intro i hi
      rw [i4 i hi, updZ_ne (by omega)]
theorem s_X6_firstCome_67 (n : Nat) (o : Int) (ho : 0 < o) (ho2 : o ≤ 9223372036854775807) (c : Nat) (c0 : 0 < c) (h1 : 10 ^ (c - 1) ≤ o) (h2 : o < 10 ^ c) (r : BX6) : ∀ (fu j : Nat), j ≤ c - 1 → c - 1 - j < fu → g_X6_firstCome_67 n fu o (10 ^ j) r = g_X6_firstCome_89 n n o (10 ^ (c - 1)) r := by
  intro fu
  induction fu with
  | zero => intro j _ h; omega
  | succ fu ih =>
    intro j hj hf
    have hp := p10 j
    have hs := p10s j
    rw [g_X6_firstCome_67.eq_2, qD_ok (by omega) (by omega), oRJ_ok (by omega) (by omega)]
    by_cases hc : j = c - 1
    · subst hc
      rw [show c - 1 + 1 = c by omega] at hs
      rw [if_pos (by omega)]
    · have hmono : (10 : Int) ^ (j + 1) ≤ 10 ^ (c - 1) := by
        have : ∀ (a b : Nat), a ≤ b → (10 : Int) ^ a ≤ 10 ^ b := by
          intro a b hab
          induction hab with
          | refl => exact Int.le_refl _
          | step h ih => rename_i m; have := p10s m; have := p10 m; show (10 : Int) ^ a ≤ 10 ^ (m + 1); omega
        exact this _ _ (by omega)
      rw [if_neg (by omega), oRJ_ok (by omega) (by omega), oL_def, ← hs]
      exact ih (j + 1) (by omega) (by omega)
theorem cX6_found_a (r : BX6) (v w : Int → Int) : sX6_found (sX6_a r v) w = sX6_a (sX6_found r w) v := by simp only [sX6_found, sX6_a]
theorem s_X6_firstCome_28 (n : Nat) (o : Int) (r : BX6) : ∀ (fu : Nat) (x : Int), 0 ≤ x → x ≤ 8 → 8 - x < fu → g_X6_firstCome_28 n fu o x (sX6_found (sX6_a r (fun i => if 107 ≤ i ∧ i < 107 + x then -1 else pX6_a r i)) (fun i => if 0 ≤ i ∧ i < x then pX6_a r (107 + i) else pX6_found r i)) = g_X6_firstCome_67 n n o 1 (sX6_found (sX6_a r (fun i => if 107 ≤ i ∧ i < 115 then -1 else pX6_a r i)) (fun i => if 0 ≤ i ∧ i < 8 then pX6_a r (107 + i) else pX6_found r i)) := by
  intro fu
  induction fu with
  | zero => intro x _ _ h0; omega
  | succ fu ih =>
    intro x x0 x1 hf
    rw [g_X6_firstCome_28.eq_2, eX6_a_found, eX6_a_a, eX6_found_found]
    by_cases h : 8 ≤ x
    · rw [if_pos h, show x = 8 by omega]; rfl
    · rw [if_neg h, qA_ok (by omega) (by omega) (by omega), qA_ok (by omega) (by omega) (by omega), oL_def, qA_ok (by omega) (by omega) (by omega), oL_def, oR_ok (by omega) (by omega)]
      rw [← ih (x + 1) (by omega) (by omega) (by omega)]
      have e1 : updZ (fun i => if 107 ≤ i ∧ i < 107 + x then -1 else pX6_a r i) (107 + x) (-1) = (fun i => if 107 ≤ i ∧ i < 107 + (x + 1) then -1 else pX6_a r i) := by
        funext i
        rw [updZ_app]
        by_cases h1 : i = 107 + x
        · rw [if_pos h1, if_pos (by omega)]
        · rw [if_neg h1]
          by_cases h2 : 107 ≤ i ∧ i < 107 + x
          · rw [if_pos h2, if_pos (by omega)]
          · rw [if_neg h2, if_neg (by omega)]
      have e2 : updZ (fun i => if 0 ≤ i ∧ i < x then pX6_a r (107 + i) else pX6_found r i) x (if 107 ≤ 107 + x ∧ 107 + x < 107 + x then -1 else pX6_a r (107 + x)) = (fun i => if 0 ≤ i ∧ i < x + 1 then pX6_a r (107 + i) else pX6_found r i) := by
        funext i
        rw [updZ_app]
        by_cases h1 : i = x
        · rw [if_pos h1, if_neg (by omega), if_pos (by omega), h1]
        · rw [if_neg h1]
          by_cases h2 : 0 ≤ i ∧ i < x
          · rw [if_pos h2, if_pos (by omega)]
          · rw [if_neg h2, if_neg (by omega)]
      rw [e1, e2]
      rw [cX6_found_a, uX6_found, ← cX6_found_a, uX6_a]
