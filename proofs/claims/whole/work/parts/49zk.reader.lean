/-! The class's reader beside the reference's. -/
def Yt (v : Int → Int) (l : Int) (y : BX4) : Prop := pX4_text y = v ∧ pX4_length y = l ∧ (0 ≤ pX4_position y ∧ pX4_position y ≤ l)
theorem Yt_pos {v : Int → Int} {l : Int} {y : BX4} (h : Yt v l y) {p : Int} (p0 : 0 ≤ p) (p1 : p ≤ l) : Yt v l (sX4_position y p) := ⟨by rw [eX4_text_position]; exact h.1, by rw [eX4_length_position]; exact h.2.1, by rw [eX4_position_position]; exact ⟨p0, p1⟩⟩
theorem s_skip0 (n : Nat) {v : Int → Int} {l : Int} (hl : 0 ≤ l ∧ l ≤ 600) : ∀ (fu : Nat) (y : BX4), Yt v l y → l - pX4_position y < fu → g_X4_skipSpaces_0 n fu y = some (sX4_position y (run (Spc v) l (pX4_position y))) := by
  intro fu
  induction fu with
  | zero => intro y h hf; have := h.2.2; omega
  | succ fu ih =>
    intro y h hf
    have hp := h.2.2
    rw [g_X4_skipSpaces_0.eq_2, h.2.1, h.1]
    by_cases hc : l ≤ pX4_position y
    · rw [if_pos hc, run_end hc, iX4_position]
    · rw [if_neg hc, qA_ok hp.1 (by omega) (by omega)]
      by_cases hs : v (pX4_position y) = 32
      · rw [if_pos hs, oR_ok (by omega) (by omega), oL_def, ih _ (Yt_pos h (by omega) (by omega)) (by rw [eX4_position_position]; omega), uX4_position, eX4_position_position, run_yes (P := Spc v) (by omega) hs]
      · rw [if_neg hs, run_no (P := Spc v) hs, iX4_position]
theorem s_skip {n : Nat} (hn : 1000 ≤ n) {v : Int → Int} {l : Int} (hl : 0 ≤ l ∧ l ≤ 600) {y : BX4} (h : Yt v l y) : g_X4_skipSpaces n y = some (sX4_position y (run (Spc v) l (pX4_position y))) := by
  have := h.2.2
  exact s_skip0 n hl n y h (by omega)
theorem s_cDigit {v : Int → Int} {l : Int} (hl : 0 ≤ l ∧ l ≤ 600) {y : BX4} (h : Yt v l y) {q : Int} (q0 : 0 ≤ q) : g_X4_isDigit y q = some (zB (q < l ∧ Dig v q)) := by
  unfold g_X4_isDigit
  rw [h.2.1, h.1]
  by_cases hc : l ≤ q
  · rw [if_pos hc, zB_neg (by omega)]
  · rw [if_neg hc, qA_ok q0 (by omega) (by omega), qA_ok q0 (by omega) (by omega)]
    by_cases h1 : v q < 48
    · rw [if_pos h1, zB_neg (fun h => by have := h.2; unfold Dig at this; omega)]
    · rw [if_neg h1]
      by_cases h2 : 57 < v q
      · rw [if_pos h2, zB_neg (fun h => by have := h.2; unfold Dig at this; omega)]
      · rw [if_neg h2, zB_pos ⟨by omega, by unfold Dig; omega⟩]
theorem s_cLetter {v : Int → Int} {l : Int} (hl : 0 ≤ l ∧ l ≤ 600) {y : BX4} (h : Yt v l y) {q : Int} (q0 : 0 ≤ q) : g_X4_isLetter y q = some (zB (q < l ∧ Let v q)) := by
  unfold g_X4_isLetter
  rw [h.2.1, h.1]
  by_cases hc : l ≤ q
  · rw [if_pos hc, zB_neg (by omega)]
  · rw [if_neg hc, qA_ok q0 (by omega) (by omega), qA_ok q0 (by omega) (by omega)]
    by_cases h1 : v q < 97
    · rw [if_pos h1, zB_neg (fun h => by have := h.2; unfold Let at this; omega)]
    · rw [if_neg h1]
      by_cases h2 : 122 < v q
      · rw [if_pos h2, zB_neg (fun h => by have := h.2; unfold Let at this; omega)]
      · rw [if_neg h2, zB_pos ⟨by omega, by unfold Let; omega⟩]
theorem jsN_k : ∀ j : Nat, j < 8 → j < jsN ∧ 3 ≤ jsLen.getD j 0 ∧ jsLen.getD j 0 ≤ 6 := by decide
theorem s_tw46 (n : Nat) {v : Int → Int} {l : Int} (hl : 0 ≤ l ∧ l ≤ 600) {y : BX4} (h : Yt v l y) {j : Nat} (hj : j < 8) (hp : pX4_position y + (jsLen.getD j 0 : Nat) ≤ l) : ∀ (d fu i : Nat), i + d = jsLen.getD j 0 → d < fu → (∀ k : Nat, k < i → v (pX4_position y + k) = (jsCh j k).toInt) →
    g_X4_takesWord_46 n fu j ((jsLen.getD j 0 : Nat) : Int) (i : Int) y = some (zB (∀ k : Nat, k < jsLen.getD j 0 → v (pX4_position y + k) = (jsCh j k).toInt), sX4_position y (cif (∀ k : Nat, k < jsLen.getD j 0 → v (pX4_position y + k) = (jsCh j k).toInt) (pX4_position y + (jsLen.getD j 0 : Nat)) (pX4_position y))) := by
  have hp0 := h.2.2
  have hjn := jsN_k j hj
  intro d
  induction d with
  | zero =>
    intro fu i hi hf hm
    cases fu with
    | zero => omega
    | succ fu =>
      have hall : ∀ k : Nat, k < jsLen.getD j 0 → v (pX4_position y + k) = (jsCh j k).toInt := fun k hk => hm k (by omega)
      rw [g_X4_takesWord_46.eq_2, if_pos (by omega), oR_ok (by omega) (by omega), oL_def, zB_pos hall, cif_pos hall]
  | succ d ih =>
    intro fu i hi hf hm
    cases fu with
    | zero => omega
    | succ fu =>
      rw [g_X4_takesWord_46.eq_2, if_neg (by omega), qA_ok (by omega) (by omega) (by omega), oG_ok hjn.1, qA_ok (by omega) (by omega) (by omega), h.1, show Int.toNat (i : Int) = i by omega]
      by_cases he : v (pX4_position y + (i : Int)) = (jsCh j i).toInt
      · rw [if_pos he, oR_ok (by omega) (by omega)]
        have := ih fu (i + 1) (by omega) (by omega) (fun k hk => by
          by_cases hki : k = i
          · rw [hki]; exact he
          · exact hm k (by omega))
        rw [show ((i + 1 : Nat) : Int) = (i : Int) + 1 by omega] at this
        exact this
      · have hno : ¬ ∀ k : Nat, k < jsLen.getD j 0 → v (pX4_position y + k) = (jsCh j k).toInt := fun hh => he (hh i (by omega))
        rw [if_neg he, zB_neg hno, cif_neg hno, iX4_position]
theorem s_cWord {n : Nat} (hn : 1000 ≤ n) {v : Int → Int} {l : Int} (hl : 0 ≤ l ∧ l ≤ 600) {y : BX4} (h : Yt v l y) (he : pX4_error y = 0) {j : Nat} (hj : j < 8) : g_X4_takesWord n y j = some (zB (WM v l (run (Spc v) l (pX4_position y)) j), sX4_position y (cif (WM v l (run (Spc v) l (pX4_position y)) j) (run (Spc v) l (pX4_position y) + (jsLen.getD j 0 : Nat)) (run (Spc v) l (pX4_position y)))) := by
  obtain ⟨⟨r1, r2⟩, _, _⟩ := run_p (P := Spc v) (l := l) (p := pX4_position y) h.2.2.2
  have hp := h.2.2
  have hjn := jsN_k j hj
  have h1 := Yt_pos h (p := run (Spc v) l (pX4_position y)) (by omega) r2
  have ep : pX4_position (sX4_position y (run (Spc v) l (pX4_position y))) = run (Spc v) l (pX4_position y) := eX4_position_position _ _
  unfold g_X4_takesWord
  rw [s_skip hn hl h, oB_some, oG_ok hjn.1, oR_ok (by omega) (by omega), oL_def, eX4_error_position, if_pos he, ep, oR_ok (by omega) (by omega), h1.2.1]
  by_cases hc : l < run (Spc v) l (pX4_position y) + (jsLen.getD j 0 : Nat)
  · have hno : ¬ WM v l (run (Spc v) l (pX4_position y)) j := fun hw => by have := hw.1; omega
    rw [if_pos hc, zB_neg hno, cif_neg hno]
  · rw [if_neg hc, s_cLetter hl h1 (by omega), oB_some]
    by_cases hL : run (Spc v) l (pX4_position y) + (jsLen.getD j 0 : Nat) < l ∧ Let v (run (Spc v) l (pX4_position y) + (jsLen.getD j 0 : Nat))
    · have hno : ¬ WM v l (run (Spc v) l (pX4_position y)) j := fun hw => hw.2.1 hL
      rw [zB_pos hL, if_neg (by omega), zB_neg hno, cif_neg hno]
    · have h46 := s_tw46 n hl h1 hj (by rw [ep]; omega) (jsLen.getD j 0) n 0 (by omega) (by omega) (fun k hk => by omega)
      have h46 : g_X4_takesWord_46 n n j ((jsLen.getD j 0 : Nat) : Int) 0 (sX4_position y (run (Spc v) l (pX4_position y))) = _ := h46
      rw [zB_neg hL, if_pos rfl, h46, ep, uX4_position]
      have hiff : (∀ k : Nat, k < jsLen.getD j 0 → v (run (Spc v) l (pX4_position y) + k) = (jsCh j k).toInt) ↔ WM v l (run (Spc v) l (pX4_position y)) j := ⟨fun hh => ⟨by omega, hL, hh⟩, fun hh => hh.2.2⟩
      rw [zB_congr hiff, cif_congr hiff]
theorem s_cWord_bad {n : Nat} (hn : 1000 ≤ n) {v : Int → Int} {l : Int} (hl : 0 ≤ l ∧ l ≤ 600) {y : BX4} (h : Yt v l y) (he : pX4_error y ≠ 0) {j : Nat} (hj : j < 8) : g_X4_takesWord n y j = some (0, sX4_position y (run (Spc v) l (pX4_position y))) := by
  have hjn := jsN_k j hj
  unfold g_X4_takesWord
  rw [s_skip hn hl h, oB_some, oG_ok hjn.1, oR_ok (by omega) (by omega), oL_def, eX4_error_position, if_neg he]
theorem s_rn27 (n : Nat) {v : Int → Int} {l : Int} (hl : 0 ≤ l ∧ l ≤ 600) (hv : ∀ q, 0 ≤ q → q < l → 0 ≤ v q ∧ v q ≤ 255) (lo hi at0 : Int) : ∀ (fu : Nat) (a : Int) (y : BX4), Yt v l y → l - pX4_position y < fu → 0 ≤ a → a ≤ 999999 → g_X4_readNumber_27 n fu lo hi at0 (min a 10000) y = g_X4_readNumber_88 n lo hi at0 (min (nR v a (pX4_position y) (run (Dig v) l (pX4_position y) - pX4_position y).toNat) 10000) (sX4_position y (run (Dig v) l (pX4_position y))) := by
  intro fu
  induction fu with
  | zero => intro a y h hf; have := h.2.2; omega
  | succ fu ih =>
    intro a y h hf a0 a1
    have hp := h.2.2
    rw [g_X4_readNumber_27.eq_2, h.2.1, h.1]
    by_cases hc : l ≤ pX4_position y
    · rw [if_pos hc, run_end hc, iX4_position, show (pX4_position y - pX4_position y).toNat = 0 by omega]
      rfl
    · rw [if_neg hc, s_cDigit hl h hp.1, oB_some]
      by_cases hd : Dig v (pX4_position y)
      · have hd2 := hd
        unfold Dig at hd2
        obtain ⟨⟨r1, r2⟩, _, _⟩ := run_p (P := Dig v) (l := l) (p := pX4_position y + 1) (by omega)
        have ea : min (min a 10000 * 10 + v (pX4_position y) - 48) 10000 = min (if a < 100000 then 10 * a + v (pX4_position y) - 48 else a) 10000 := by
          by_cases h1 : a < 100000
          · rw [if_pos h1]; omega
          · rw [if_neg h1]; omega
        rw [zB_pos ⟨by omega, hd⟩, if_neg (by omega), qA_ok hp.1 (by omega) (by omega), oR_ok (by omega) (by omega), oL_def, oR_ok (by omega) (by omega), oL_def, ea, ih _ _ (Yt_pos h (by omega) (by omega)) (by rw [eX4_position_position]; omega) (by split <;> omega) (by split <;> omega), eX4_position_position, uX4_position, run_yes (P := Dig v) (by omega) hd, show (run (Dig v) l (pX4_position y + 1) - pX4_position y).toNat = (run (Dig v) l (pX4_position y + 1) - (pX4_position y + 1)).toNat + 1 by omega]
        rfl
      · rw [zB_neg (fun h => hd h.2), if_pos rfl, run_no hd, iX4_position, show (pX4_position y - pX4_position y).toNat = 0 by omega]
        rfl
def yFail (y : BX4) (c p : Int) : BX4 := sX4_errorAt (sX4_error y c) p
theorem s_fail {y : BX4} (c p : Int) : g_X4_fail y c p = some (if pX4_error y = 0 then yFail y c p else y) := by
  unfold g_X4_fail yFail
  by_cases h : pX4_error y = 0
  · rw [if_pos h, if_pos h]
  · rw [if_neg h, if_neg h]
theorem s_cNumber {n : Nat} (hn : 1000 ≤ n) {v : Int → Int} {l : Int} (hl : 0 ≤ l ∧ l ≤ 600) (hv : ∀ q, 0 ≤ q → q < l → 0 ≤ v q ∧ v q ≤ 255) {y : BX4} (h : Yt v l y) (he : pX4_error y = 0) (lo hi : Int) {p : Int} (hp : p = run (Spc v) l (pX4_position y)) : g_X4_readNumber n y lo hi = some (if p < l ∧ 48 ≤ v p ∧ v p ≤ 57 then (if lo ≤ min (numR v l p) 10000 ∧ min (numR v l p) 10000 ≤ hi then (min (numR v l p) 10000, sX4_position y (run (Dig v) l p)) else (0, yFail (sX4_position y (run (Dig v) l p)) (-3) p)) else (0, yFail (sX4_position y p) (-2) p)) := by
  obtain ⟨⟨r1, r2⟩, _, _⟩ := run_p (P := Spc v) (l := l) (p := pX4_position y) h.2.2.2
  rw [← hp] at r1 r2
  have hp0 := h.2.2
  have h1 := Yt_pos h (p := p) (by omega) r2
  have ep : pX4_position (sX4_position y p) = p := eX4_position_position _ _
  have ee : pX4_error (sX4_position y p) = 0 := by rw [eX4_error_position]; exact he
  unfold g_X4_readNumber g_X4_isAtDigit
  rw [s_skip hn hl h, ← hp, oB_some, ee, if_pos rfl, ep, s_cDigit hl h1 (by omega), oB_some]
  by_cases hd : p < l ∧ 48 ≤ v p ∧ v p ≤ 57
  · have hd' : p < l ∧ Dig v p := hd
    rw [zB_pos hd', if_neg (by omega), oB2_some, if_neg (by omega), if_pos hd, ep]
    have h27 := s_rn27 n hl hv lo hi p n 0 (sX4_position y p) h1 (by rw [ep]; omega) (by omega) (by omega)
    rw [show min (0 : Int) 10000 = 0 by omega, ep, uX4_position] at h27
    rw [h27]
    have en : nR v 0 p (run (Dig v) l p - p).toNat = numR v l p := rfl
    rw [en]
    unfold g_X4_readNumber_88
    rw [g_out, oB_some]
    by_cases hr : lo ≤ min (numR v l p) 10000 ∧ min (numR v l p) 10000 ≤ hi
    · rw [zB_neg (fun h => h hr), if_pos rfl, if_pos hr]
    · rw [zB_pos hr, if_neg (by omega), s_fail, oB_some, eX4_error_position, if_pos he, if_neg hr]
  · have hd' : ¬ (p < l ∧ Dig v p) := hd
    rw [zB_neg hd', if_pos rfl, oB2_some, if_pos rfl, s_fail, oB_some, ee, if_pos rfl, if_neg hd, ep]
theorem s_cNumber_bad {n : Nat} (hn : 1000 ≤ n) {v : Int → Int} {l : Int} (hl : 0 ≤ l ∧ l ≤ 600) {y : BX4} (h : Yt v l y) (he : pX4_error y ≠ 0) (lo hi : Int) : g_X4_readNumber n y lo hi = some (0, sX4_position y (run (Spc v) l (pX4_position y))) := by
  unfold g_X4_readNumber g_X4_isAtDigit
  rw [s_skip hn hl h, oB_some, eX4_error_position, if_neg he, oB2_some, if_pos rfl, s_fail, oB_some, eX4_error_position, if_neg he]
