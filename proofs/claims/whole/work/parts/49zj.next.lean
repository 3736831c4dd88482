/-! The reference's next token. -/
def Fn (r r' : BX6) : Prop := pX6_a r' = pX6_a r ∧ pX6_kept r' = pX6_kept r ∧ pX6_keptMany r' = pX6_keptMany r ∧ pX6_thrown r' = pX6_thrown r ∧ pX6_buffer r' = pX6_buffer r ∧ pX6_buffered r' = pX6_buffered r ∧ pX6_size r' = pX6_size r ∧ pX6_wrong r' = pX6_wrong r ∧ pX6_wrongAt r' = pX6_wrongAt r ∧ pX6_errorAt r' = pX6_errorAt r ∧ pX6_fresh r' = pX6_fresh r
theorem Fn.rfl' (r : BX6) : Fn r r := ⟨rfl, rfl, rfl, rfl, rfl, rfl, rfl, rfl, rfl, rfl, rfl⟩
theorem Fn.trans {r s t : BX6} (h : Fn r s) (k : Fn s t) : Fn r t := by
  obtain ⟨h1, h2, h3, h4, h5, h6, h7, h8, h9, h10, h11⟩ := h
  obtain ⟨k1, k2, k3, k4, k5, k6, k7, k8, k9, k10, k11⟩ := k
  exact ⟨k1.trans h1, k2.trans h2, k3.trans h3, k4.trans h4, k5.trans h5, k6.trans h6, k7.trans h7, k8.trans h8, k9.trans h9, k10.trans h10, k11.trans h11⟩
theorem Fn.at (r : BX6) (v : Int) : Fn r (sX6_at r v) := ⟨eX6_a_at _ _, eX6_kept_at _ _, eX6_keptMany_at _ _, eX6_thrown_at _ _, eX6_buffer_at _ _, eX6_buffered_at _ _, eX6_size_at _ _, eX6_wrong_at _ _, eX6_wrongAt_at _ _, eX6_errorAt_at _ _, eX6_fresh_at _ _⟩
theorem Fn.behind (r : BX6) (v : Int) : Fn r (sX6_behind r v) := ⟨eX6_a_behind _ _, eX6_kept_behind _ _, eX6_keptMany_behind _ _, eX6_thrown_behind _ _, eX6_buffer_behind _ _, eX6_buffered_behind _ _, eX6_size_behind _ _, eX6_wrong_behind _ _, eX6_wrongAt_behind _ _, eX6_errorAt_behind _ _, eX6_fresh_behind _ _⟩
theorem Fn.kind (r : BX6) (v : Int) : Fn r (sX6_kind r v) := ⟨eX6_a_kind _ _, eX6_kept_kind _ _, eX6_keptMany_kind _ _, eX6_thrown_kind _ _, eX6_buffer_kind _ _, eX6_buffered_kind _ _, eX6_size_kind _ _, eX6_wrong_kind _ _, eX6_wrongAt_kind _ _, eX6_errorAt_kind _ _, eX6_fresh_kind _ _⟩
theorem Fn.number (r : BX6) (v : Int) : Fn r (sX6_number r v) := ⟨eX6_a_number _ _, eX6_kept_number _ _, eX6_keptMany_number _ _, eX6_thrown_number _ _, eX6_buffer_number _ _, eX6_buffered_number _ _, eX6_size_number _ _, eX6_wrong_number _ _, eX6_wrongAt_number _ _, eX6_errorAt_number _ _, eX6_fresh_number _ _⟩
def Bf (v : Int → Int) (l : Int) (r : BX6) : Prop := pX6_size r = l ∧ (0 ≤ l ∧ l ≤ 600) ∧ (∀ q, 0 ≤ q → q < l → pX6_buffer r q = v q) ∧ (∀ q, 0 ≤ q → q < l → 0 ≤ v q ∧ v q ≤ 255)
theorem Fn.bf {r r' : BX6} (h : Fn r r') {v : Int → Int} {l : Int} (k : Bf v l r) : Bf v l r' := by
  obtain ⟨h1, h2, h3, h4, h5, h6, h7, _⟩ := h
  exact ⟨by rw [h7]; exact k.1, k.2.1, by rw [h5]; exact k.2.2.1, k.2.2.2⟩
theorem s_see {v : Int → Int} {l : Int} {r : BX6} (h : Bf v l r) {q : Int} (q0 : 0 ≤ q) : g_X6_see r q = some (if l ≤ q then -1 else v q) := by
  have hl := h.2.1
  unfold g_X6_see
  rw [h.1]
  by_cases hc : l ≤ q
  · rw [if_pos hc, if_pos hc]
  · rw [if_neg hc, if_neg hc, qA_ok q0 (by omega) (by omega), h.2.2.1 q q0 (by omega)]
theorem s_rDigit (x : Int) : g_X6_isDigit x = some (zB (48 ≤ x ∧ x ≤ 57)) := by
  unfold g_X6_isDigit; rw [s_X6_isIn, oB_some, oG_ok (zB_nb _)]
theorem s_rSmall (x : Int) : g_X6_isSmall x = some (zB (97 ≤ x ∧ x ≤ 122)) := by
  unfold g_X6_isSmall; rw [s_X6_isIn, oB_some, oG_ok (zB_nb _)]
theorem js8 : ((jsLen.getD 8 0 : Nat) : Int) = 48 := by decide
theorem js9 : (8 : Nat) < jsN := by decide
theorem s_key97 (n : Nat) (k4 : Int → Int → BX6 → Option Int) {k : Nat} (hk : k < 8) (r : BX6) {x : Int} (hx : 0 ≤ x ∧ x ≤ 100) : ∀ (d fu i : Nat), i + d = rle.getD k 0 → d < fu → g_X6_keyAt_97 n k4 fu x (((rst.getD k 0 : Nat) : Int) + (i : Int)) r = k4 (x + 1) (((rst.getD k 0 : Nat) : Int) + ((rle.getD k 0 : Nat) : Int) + 1) r := by
  obtain ⟨k1, k2, k3, k4', k5, k6⟩ := rch_k k hk
  intro d
  induction d with
  | zero =>
    intro fu i hi hf
    cases fu with
    | zero => omega
    | succ fu =>
      have e1 : Int.toNat (((rst.getD k 0 : Nat) : Int) + (i : Int)) = rst.getD k 0 + i := by omega
      have e2 : (jsCh 8 (rst.getD k 0 + i)).toInt = 32 := by rw [show i = rle.getD k 0 by omega]; exact k2
      rw [g_X6_keyAt_97.eq_2, oG_ok js9, js8, qA_ok (by omega) (by omega) (by omega), e1, if_pos e2, oR_ok (by omega) (by omega), oR_ok (by omega) (by omega), show i = rle.getD k 0 by omega]
  | succ d ih =>
    intro fu i hi hf
    cases fu with
    | zero => omega
    | succ fu =>
      have e1 : Int.toNat (((rst.getD k 0 : Nat) : Int) + (i : Int)) = rst.getD k 0 + i := by omega
      have e2 : ¬ (jsCh 8 (rst.getD k 0 + i)).toInt = 32 := (k1 i (by omega)).1
      rw [g_X6_keyAt_97.eq_2, oG_ok js9, js8, qA_ok (by omega) (by omega) (by omega), e1, if_neg e2, oR_ok (by omega) (by omega)]
      have := ih fu (i + 1) (by omega) (by omega)
      rw [show ((rst.getD k 0 : Nat) : Int) + ((i + 1 : Nat) : Int) = ((rst.getD k 0 : Nat) : Int) + (i : Int) + 1 by omega] at this
      exact this
theorem s_key15 (n : Nat) (hn : 100 ≤ n) (k4 : Int → Int → BX6 → Option Int) {k : Nat} (hk : k < 8) {v : Int → Int} {l : Int} {r : BX6} (hB : Bf v l r) (a0 : 0 ≤ pX6_at r) (a1 : pX6_behind r ≤ l) {x : Int} (hx : 0 ≤ x ∧ x ≤ 100) : ∀ (d fu i : Nat), i + d = rle.getD k 0 → d < fu → (∀ j : Nat, j < i → v (pX6_at r + j) = rch k j) → pX6_at r + i ≤ pX6_behind r →
    g_X6_keyAt_15 n k4 fu x ((rst.getD k 0 : Nat) : Int) (i : Int) r = cif (WA v (pX6_at r) (pX6_behind r) k) (some x) (k4 (x + 1) (((rst.getD k 0 : Nat) : Int) + ((rle.getD k 0 : Nat) : Int) + 1) r) := by
  obtain ⟨k1, k2, k3, k4', k5, k6⟩ := rch_k k hk
  have hl := hB.2.1
  have h97 : g_X6_keyAt_97 n k4 n x ((rst.getD k 0 : Nat) : Int) r = k4 (x + 1) (((rst.getD k 0 : Nat) : Int) + ((rle.getD k 0 : Nat) : Int) + 1) r := by
    have := s_key97 n k4 hk r hx (rle.getD k 0) n 0 (by omega) (by omega)
    rw [show ((rst.getD k 0 : Nat) : Int) + ((0 : Nat) : Int) = ((rst.getD k 0 : Nat) : Int) by omega] at this
    exact this
  intro d
  induction d with
  | zero =>
    intro fu i hi hf hm hb
    cases fu with
    | zero => omega
    | succ fu =>
      have e1 : Int.toNat (((rst.getD k 0 : Nat) : Int) + (i : Int)) = rst.getD k 0 + i := by omega
      have e2 : (jsCh 8 (rst.getD k 0 + i)).toInt = 32 := by rw [show i = rle.getD k 0 by omega]; exact k2
      rw [g_X6_keyAt_15.eq_2, oG_ok js9, js8, qA_ok (by omega) (by omega) (by omega), e1, if_pos e2]
      unfold g_X6_keyAt_69
      rw [oG_ok js9, js8, qA_ok (by omega) (by omega) (by omega), e1, if_pos e2, oR_ok (by omega) (by omega)]
      by_cases hw : pX6_at r + (i : Int) = pX6_behind r
      · rw [if_pos hw, cif_pos ⟨by omega, fun j hj => hm j (by omega)⟩]
      · rw [if_neg hw, h97, cif_neg (fun h => by have := h.1; omega)]
  | succ d ih =>
    intro fu i hi hf hm hb
    cases fu with
    | zero => omega
    | succ fu =>
      have e1 : Int.toNat (((rst.getD k 0 : Nat) : Int) + (i : Int)) = rst.getD k 0 + i := by omega
      have e2 : ¬ (jsCh 8 (rst.getD k 0 + i)).toInt = 32 := (k1 i (by omega)).1
      have hno : ¬ WA v (pX6_at r) (pX6_behind r) k → g_X6_keyAt_69 n k4 x ((rst.getD k 0 : Nat) : Int) (i : Int) r = cif (WA v (pX6_at r) (pX6_behind r) k) (some x) (k4 (x + 1) (((rst.getD k 0 : Nat) : Int) + ((rle.getD k 0 : Nat) : Int) + 1) r) := by
        intro h
        unfold g_X6_keyAt_69
        rw [oG_ok js9, js8, qA_ok (by omega) (by omega) (by omega), e1, if_neg e2, h97, cif_neg h]
      rw [g_X6_keyAt_15.eq_2, oG_ok js9, js8, qA_ok (by omega) (by omega) (by omega), e1, if_neg e2, oR_ok (by omega) (by omega)]
      by_cases h1 : pX6_behind r ≤ pX6_at r + (i : Int)
      · rw [if_pos h1]
        exact hno (fun h => by have := h.1; omega)
      · rw [if_neg h1, qA_ok (by omega) (by omega) (by omega), oG_ok js9, qA_ok (by omega) (by omega) (by omega), hB.2.2.1 _ (by omega) (by omega)]
        by_cases h2 : v (pX6_at r + (i : Int)) = (jsCh 8 (rst.getD k 0 + i)).toInt
        · rw [if_pos h2, oR_ok (by omega) (by omega)]
          have := ih fu (i + 1) (by omega) (by omega) (fun j hj => by
            by_cases hji : j = i
            · rw [hji]; exact h2
            · exact hm j (by omega)) (by omega)
          rw [show ((i + 1 : Nat) : Int) = (i : Int) + 1 by omega] at this
          exact this
        · rw [if_neg h2]
          exact hno (fun h => h2 (h.2 i (by omega)))
theorem s_key4 (n : Nat) (hn : 100 ≤ n) {v : Int → Int} {l : Int} {r : BX6} (hB : Bf v l r) (a0 : 0 ≤ pX6_at r) (a2 : pX6_at r ≤ pX6_behind r) (a1 : pX6_behind r ≤ l) : ∀ (d k fu : Nat), k + d = 8 → d < fu → g_X6_keyAt_4 n fu (k : Int) (if k < 8 then ((rst.getD k 0 : Nat) : Int) else 48) r = some (kwF v (pX6_at r) (pX6_behind r) k d) := by
  intro d
  induction d with
  | zero =>
    intro k fu hk hf
    cases fu with
    | zero => omega
    | succ fu =>
      rw [g_X6_keyAt_4.eq_2, oG_ok js9, js8, oR_ok (by omega) (by omega), if_neg (c := k < 8) (by omega), if_pos (c := (48 : Int) ≤ 48) (by omega)]
      rfl
  | succ d ih =>
    intro k fu hk hf
    cases fu with
    | zero => omega
    | succ fu =>
      obtain ⟨k1, k2, k3, k4', k5, k6⟩ := rch_k k (by omega)
      have h15 := s_key15 n hn (g_X6_keyAt_4 n fu) (k := k) (by omega) hB a0 a1 (x := (k : Int)) (by omega) (rle.getD k 0) n 0 (by omega) (by omega) (fun j hj => by omega) (by omega)
      have h15 : g_X6_keyAt_15 n (g_X6_keyAt_4 n fu) n (k : Int) ((rst.getD k 0 : Nat) : Int) 0 r = _ := h15
      rw [g_X6_keyAt_4.eq_2, oG_ok js9, js8, oR_ok (by omega) (by omega), if_pos (c := k < 8) (by omega), if_neg (by omega), h15, kwF.eq_2]
      have hnx : ((rst.getD k 0 : Nat) : Int) + ((rle.getD k 0 : Nat) : Int) + 1 = (if k + 1 < 8 then ((rst.getD (k + 1) 0 : Nat) : Int) else 48) := by
        by_cases h7 : k < 7
        · rw [if_pos (by omega)]; have := k6 h7; omega
        · rw [if_neg (by omega)]
          have : k = 7 := by omega
          rw [this]; decide
      have := ih (k + 1) fu (by omega) (by omega)
      rw [hnx, show (k : Int) + 1 = ((k + 1 : Nat) : Int) by omega, this]
      by_cases hw : WA v (pX6_at r) (pX6_behind r) k
      · rw [cif_pos hw, cif_pos hw]
      · rw [cif_neg hw, cif_neg hw]
theorem s_keyAt {n : Nat} (hn : 100 ≤ n) {v : Int → Int} {l : Int} {r : BX6} (hB : Bf v l r) (a0 : 0 ≤ pX6_at r) (a2 : pX6_at r ≤ pX6_behind r) (a1 : pX6_behind r ≤ l) : g_X6_keyAt n r = some (kw v (pX6_at r) (pX6_behind r)) := by
  unfold g_X6_keyAt
  exact s_key4 n hn hB a0 a2 a1 8 0 n (by omega) (by omega)
theorem s_next133 (n : Nat) {v : Int → Int} {l : Int} : ∀ (fu : Nat) (q : Int) (r : BX6), Bf v l r → pX6_behind r = q → 0 ≤ q → q ≤ l → l - q < fu → 0 ≤ pX6_number r → pX6_number r ≤ 999999 → ∃ r', g_X6_next_133 n fu r = some r' ∧ Fn r r' ∧ pX6_at r' = pX6_at r ∧ pX6_behind r' = run (Dig v) l q ∧ pX6_kind r' = 9 ∧ pX6_number r' = nR v (pX6_number r) q (run (Dig v) l q - q).toNat := by
  intro fu
  induction fu with
  | zero => intro q r _ _ _ _ h; omega
  | succ fu ih =>
    intro q r hB hq q0 q1 hf n0 n1
    have hl := hB.2.1
    rw [g_X6_next_133.eq_2, hq, s_see hB q0, oB_some, s_rDigit, oB_some]
    by_cases hd : q < l ∧ Dig v q
    · have hd2 := hd.2
      unfold Dig at hd2
      have hz : zB (48 ≤ (if l ≤ q then -1 else v q) ∧ (if l ≤ q then -1 else v q) ≤ 57) = 1 := zB_pos (by rw [if_neg (by omega)]; exact hd2)
      obtain ⟨⟨i1, i2⟩, _, _⟩ := run_p (P := Dig v) (l := l) (p := q + 1) (by omega)
      rw [hz, if_neg (by omega), run_yes hd.1 hd.2, show (run (Dig v) l (q + 1) - q).toNat = (run (Dig v) l (q + 1) - (q + 1)).toNat + 1 by omega]
      show ∃ r', _ ∧ _ ∧ _ ∧ _ ∧ _ ∧ pX6_number r' = nR v (if pX6_number r < 100000 then 10 * pX6_number r + v q - 48 else pX6_number r) (q + 1) (run (Dig v) l (q + 1) - (q + 1)).toNat
      unfold g_X6_next_184
      by_cases hb : 100000 ≤ pX6_number r
      · rw [if_pos hb, hq, oR_ok (by omega) (by omega), oL_def, if_neg (c := pX6_number r < 100000) (by omega)]
        obtain ⟨r', j1, j2, j3, j4, j5, j6⟩ := ih (q + 1) (sX6_behind r (q + 1)) ((Fn.behind r _).bf hB) (eX6_behind_behind _ _) (by omega) (by omega) (by omega) (by rw [eX6_number_behind]; exact n0) (by rw [eX6_number_behind]; exact n1)
        rw [eX6_number_behind] at j6
        rw [eX6_at_behind] at j3
        exact ⟨r', j1, (Fn.behind r _).trans j2, j3, j4, j5, j6⟩
      · rw [if_neg hb, oB_some, if_neg (c := l ≤ q) (by omega), oRJ_ok (by omega) (by omega), oL_def, eX6_behind_number, hq, oR_ok (by omega) (by omega), oL_def, if_pos (c := pX6_number r < 100000) (by omega)]
        obtain ⟨r', j1, j2, j3, j4, j5, j6⟩ := ih (q + 1) (sX6_behind (sX6_number r (10 * pX6_number r + v q - 48)) (q + 1)) (((Fn.number r _).trans (Fn.behind _ _)).bf hB) (eX6_behind_behind _ _) (by omega) (by omega) (by omega) (by rw [eX6_number_behind, eX6_number_number]; omega) (by rw [eX6_number_behind, eX6_number_number]; omega)
        rw [eX6_number_behind, eX6_number_number] at j6
        rw [eX6_at_behind, eX6_at_number] at j3
        exact ⟨r', j1, ((Fn.number r _).trans (Fn.behind _ _)).trans j2, j3, j4, j5, j6⟩
    · have hz : zB (48 ≤ (if l ≤ q then -1 else v q) ∧ (if l ≤ q then -1 else v q) ≤ 57) = 0 := zB_neg (fun h => by
        by_cases hc : l ≤ q
        · rw [if_pos hc] at h; omega
        · rw [if_neg hc] at h; exact hd ⟨by omega, h⟩)
      have hr : run (Dig v) l q = q := by
        by_cases hc : l ≤ q
        · exact run_end hc
        · exact run_no (fun h => hd ⟨by omega, h⟩)
      rw [hz, if_pos rfl, hr, show (q - q).toNat = 0 by omega]
      exact ⟨_, rfl, Fn.kind r _, eX6_at_kind _ _, by rw [eX6_behind_kind, hq], eX6_kind_kind _ _, by rw [eX6_number_kind]; rfl⟩
theorem s_next76 (n : Nat) (hn : 100 ≤ n) {v : Int → Int} {l : Int} : ∀ (fu : Nat) (q : Int) (r : BX6), Bf v l r → pX6_behind r = q → 0 ≤ pX6_at r → pX6_at r ≤ q → q ≤ l → l - q < fu → ∃ r', g_X6_next_76 n fu r = some r' ∧ Fn r r' ∧ pX6_at r' = pX6_at r ∧ pX6_behind r' = run (Let v) l q ∧ pX6_kind r' = kw v (pX6_at r) (run (Let v) l q) ∧ pX6_number r' = pX6_number r := by
  intro fu
  induction fu with
  | zero => intro q r _ _ _ _ _ h; omega
  | succ fu ih =>
    intro q r hB hq a0 q0 q1 hf
    have hl := hB.2.1
    rw [g_X6_next_76.eq_2, hq, s_see hB (by omega), oB_some, s_rSmall, oB_some]
    by_cases hd : q < l ∧ Let v q
    · have hd2 := hd.2
      unfold Let at hd2
      have hz : zB (97 ≤ (if l ≤ q then -1 else v q) ∧ (if l ≤ q then -1 else v q) ≤ 122) = 1 := zB_pos (by rw [if_neg (by omega)]; exact hd2)
      rw [hz, if_neg (by omega), run_yes hd.1 hd.2, oR_ok (by omega) (by omega), oL_def]
      obtain ⟨r', j1, j2, j3, j4, j5, j6⟩ := ih (q + 1) (sX6_behind r (q + 1)) ((Fn.behind r _).bf hB) (eX6_behind_behind _ _) (by rw [eX6_at_behind]; exact a0) (by rw [eX6_at_behind]; omega) (by omega) (by omega)
      rw [eX6_at_behind] at j3 j5
      rw [eX6_number_behind] at j6
      exact ⟨r', j1, (Fn.behind r _).trans j2, j3, j4, j5, j6⟩
    · have hz : zB (97 ≤ (if l ≤ q then -1 else v q) ∧ (if l ≤ q then -1 else v q) ≤ 122) = 0 := zB_neg (fun h => by
        by_cases hc : l ≤ q
        · rw [if_pos hc] at h; omega
        · rw [if_neg hc] at h; exact hd ⟨by omega, h⟩)
      have hr : run (Let v) l q = q := by
        by_cases hc : l ≤ q
        · exact run_end hc
        · exact run_no (fun h => hd ⟨by omega, h⟩)
      rw [hz, if_pos rfl, hr, s_keyAt hn hB a0 (by omega) (by omega), oB_some, hq]
      exact ⟨_, rfl, Fn.kind r _, eX6_at_kind _ _, by rw [eX6_behind_kind, hq], eX6_kind_kind _ _, by rw [eX6_number_kind]⟩
theorem s_next8 (n : Nat) (hn : 1000 ≤ n) {v : Int → Int} {l : Int} : ∀ (fu : Nat) (p : Int) (r : BX6), Bf v l r → pX6_at r = p → 0 ≤ p → p ≤ l → l - p < fu → 0 ≤ pX6_number r → pX6_number r ≤ 999999 → ∃ r', g_X6_next_8 n fu r = some r' ∧ Fn r r' ∧ pX6_at r' = run (Spc v) l p ∧ Tok v l r' ∧ 0 ≤ pX6_number r' ∧ pX6_number r' ≤ 999999 := by
  intro fu
  induction fu with
  | zero => intro p r _ _ _ _ h; omega
  | succ fu ih =>
    intro p r hB hp p0 p1 hf n0 n1
    have hl := hB.2.1
    rw [g_X6_next_8.eq_2, hp, s_see hB p0, oB_some]
    by_cases hs : p < l ∧ v p = 32
    · rw [if_pos (by rw [if_neg (by omega)]; exact hs.2), oR_ok (by omega) (by omega), oL_def, run_yes (P := Spc v) hs.1 hs.2]
      obtain ⟨r', j1, j2, j3, j4, j5⟩ := ih (p + 1) (sX6_at r (p + 1)) ((Fn.at r _).bf hB) (eX6_at_at _ _) (by omega) (by omega) (by omega) (by rw [eX6_number_at]; exact n0) (by rw [eX6_number_at]; exact n1)
      exact ⟨r', j1, (Fn.at r _).trans j2, j3, j4, j5⟩
    · have hr : run (Spc v) l p = p := by
        by_cases hc : l ≤ p
        · exact run_end hc
        · exact run_no (fun h => hs ⟨by omega, h⟩)
      have hne : ¬ (if l ≤ p then (-1 : Int) else v p) = 32 := by
        by_cases hc : l ≤ p
        · rw [if_pos hc]; omega
        · rw [if_neg hc]; exact fun h => hs ⟨by omega, h⟩
      have hB1 := (Fn.behind r p).bf hB
      rw [if_neg hne, hB.1, hr]
      by_cases hc : p < l
      · rw [if_pos hc, s_see hB1 p0, oB_some, if_neg (c := l ≤ p) (by omega), s_rSmall, oB_some]
        by_cases hL : Let v p
        · have hL2 := hL
          unfold Let at hL2
          rw [zB_pos hL2, if_neg (by omega)]
          obtain ⟨r', j1, j2, j3, j4, j5, j6⟩ := s_next76 n (by omega) n p (sX6_behind r p) hB1 (eX6_behind_behind _ _) (by rw [eX6_at_behind, hp]; exact p0) (by rw [eX6_at_behind, hp]; exact Int.le_refl _) (by omega) (by omega)
          rw [eX6_at_behind, hp] at j3 j5
          rw [eX6_number_behind] at j6
          refine ⟨r', j1, (Fn.behind r _).trans j2, j3, .inr (.inl ⟨by rw [j3]; exact hc, by rw [j3]; exact hL, by rw [j3]; exact j4, by rw [j3, j4]; exact j5⟩), by rw [j6]; exact n0, by rw [j6]; exact n1⟩
        · have hL2 := hL
          unfold Let at hL2
          rw [zB_neg hL2, if_pos rfl, oB_some, s_rDigit, oB_some]
          by_cases hD : Dig v p
          · have hD2 := hD
            unfold Dig at hD2
            rw [zB_pos hD2, if_neg (by omega)]
            obtain ⟨r', j1, j2, j3, j4, j5, j6⟩ := s_next133 n n p (sX6_number (sX6_behind r p) 0) (((Fn.behind r _).trans (Fn.number _ _)).bf hB) (by rw [eX6_behind_number, eX6_behind_behind]) p0 (by omega) (by omega) (by rw [eX6_number_number]; omega) (by rw [eX6_number_number]; omega)
            rw [eX6_at_number, eX6_at_behind, hp] at j3
            rw [eX6_number_number] at j6
            have hnb := numR_b (v := v) (l := l) (p := p) (by omega)
            have j6 : pX6_number r' = numR v l p := j6
            exact ⟨r', j1, ((Fn.behind r _).trans (Fn.number _ _)).trans j2, j3, .inr (.inr (.inl ⟨by rw [j3]; exact hc, by rw [j3]; exact hD, by rw [j3]; exact j4, j5, by rw [j3]; exact j6⟩)), by rw [j6]; exact hnb.1, by rw [j6]; exact hnb.2⟩
          · have hD2 := hD
            unfold Dig at hD2
            unfold g_X6_next_237
            rw [zB_neg hD2, if_pos rfl, oR_ok (by omega) (by omega), oL_def, s_see ((Fn.behind r (p + 1)).bf hB) p0, oB_some, if_neg (c := l ≤ p) (by omega)]
            have fin : ∀ k, k = (if v p = 59 then (10 : Int) else 12) → ∃ r', some (sX6_kind (sX6_behind r (p + 1)) k) = some r' ∧ Fn r r' ∧ pX6_at r' = p ∧ Tok v l r' ∧ 0 ≤ pX6_number r' ∧ pX6_number r' ≤ 999999 := by
              intro k hk
              have ha : pX6_at (sX6_kind (sX6_behind r (p + 1)) k) = p := by rw [eX6_at_kind, eX6_at_behind, hp]
              refine ⟨_, rfl, (Fn.behind r _).trans (Fn.kind _ _), ha, .inr (.inr (.inr ⟨by rw [ha]; exact hc, by rw [ha]; exact hL, by rw [ha]; exact hD, ?_, ?_⟩)), ?_, ?_⟩
              · rw [ha, eX6_behind_kind, eX6_behind_behind]
              · rw [ha, eX6_kind_kind]; exact hk
              · rw [eX6_number_kind, eX6_number_behind]; exact n0
              · rw [eX6_number_kind, eX6_number_behind]; exact n1
            by_cases h59 : v p = 59
            · rw [if_pos h59]; exact fin 10 (by rw [if_pos h59])
            · rw [if_neg h59]; exact fin 12 (by rw [if_neg h59])
      · have ha : pX6_at (sX6_kind (sX6_behind r p) 11) = p := by rw [eX6_at_kind, eX6_at_behind, hp]
        rw [if_neg hc]
        refine ⟨_, rfl, (Fn.behind r _).trans (Fn.kind _ _), ha, .inl ⟨by rw [ha]; omega, eX6_kind_kind _ _, by rw [ha, eX6_behind_kind, eX6_behind_behind]⟩, ?_, ?_⟩
        · rw [eX6_number_kind, eX6_number_behind]; exact n0
        · rw [eX6_number_kind, eX6_number_behind]; exact n1
theorem s_next {n : Nat} (hn : 1000 ≤ n) {v : Int → Int} {l : Int} {r : BX6} (hB : Bf v l r) (b0 : 0 ≤ pX6_behind r) (b1 : pX6_behind r ≤ l) (n0 : 0 ≤ pX6_number r) (n1 : pX6_number r ≤ 999999) : ∃ r', g_X6_next n r = some r' ∧ Fn r r' ∧ pX6_at r' = run (Spc v) l (pX6_behind r) ∧ Tok v l r' ∧ 0 ≤ pX6_number r' ∧ pX6_number r' ≤ 999999 := by
  have hl := hB.2.1
  unfold g_X6_next
  obtain ⟨r', j1, j2, j3, j4, j5⟩ := s_next8 n hn n (pX6_behind r) (sX6_at r (pX6_behind r)) ((Fn.at r _).bf hB) (eX6_at_at _ _) b0 b1 (by omega) (by rw [eX6_number_at]; exact n0) (by rw [eX6_number_at]; exact n1)
  exact ⟨r', j1, (Fn.at r _).trans j2, j3, j4, j5⟩
