/-! The class's search: the choice of those who move, and the whole. -/
def Yg (mv : Int) (y y' : BX1) : Prop := pX1_street y' = pX1_street y ∧ pX1_oldStarts y' = pX1_oldStarts y ∧ (∀ i, 0 ≤ i → i ≤ mv → pX1_walkers y' i = pX1_walkers y i)
theorem Yg.rfl' (mv : Int) (y : BX1) : Yg mv y y := ⟨rfl, rfl, fun _ _ _ => rfl⟩
theorem Yg.trans {mv : Int} {x y z : BX1} (h : Yg mv x y) (k : Yg mv y z) : Yg mv x z := ⟨k.1.trans h.1, k.2.1.trans h.2.1, fun i i0 i1 => (k.2.2 i i0 i1).trans (h.2.2 i i0 i1)⟩
theorem Yg_CM {b : BX2} {nc mv : Int} {w : Int → Int} {y y' : BX1} {o o' : Option BX2} (h : Yg mv y y') (hC : CM b nc w mv y o) (hW : W2 (pX1_found y')) (hF : ClF b y' o') : CM b nc w mv y' o' := by
  obtain ⟨c1, c2, c3, c4, c5, c6, c7⟩ := hC
  exact ⟨by rw [h.1]; exact c1, by rw [h.1]; exact c2, by rw [h.1]; exact c3, fun i i0 i1 => by rw [h.2.2 i i0 i1]; exact c4 i i0 i1, by rw [h.2.1]; exact c5, hW, hF⟩
def CMp (b : BX2) (nc mo : Int) (n d : Nat) : Prop := ∀ (mv fi : Int) (w : Int → Int) (y : BX1) (o : Option BX2), 3 - mv ≤ d → mv ≤ mo → 0 ≤ fi → CW b nc w mv → CM b nc w mv y o → ∃ y' o', g_X1_chooseMovers n d y mv fi mo = some y' ∧ Yg mv y y' ∧ W2 (pX1_found y') ∧ ClF b y' o' ∧ Rs b (Cd b nc mo) (Sm b nc mo w mv fi) o o'
theorem s_cm35 (n : Nat) (hn : 1000 ≤ n) {b : BX2} (hb : V2 b) {nc mo mv : Int} {w : Int → Int} (hW : CW b nc w mv) (hmo : mv < mo) (hmo2 : mo ≤ 2) {d : Nat} (hd : 2 - mv ≤ d) (hrec : CMp b nc mo n d) :
    ∀ (fu : Nat) (t : Int) (y : BX1) (o : Option BX2), 0 ≤ t → 0 < fu → pX2_traders b - t < fu → CM b nc w mv y o → ∃ y' o', g_X1_chooseMovers_35 n (g_X1_chooseMovers n d) fu mv mo t y = some y' ∧ Yg mv y y' ∧ W2 (pX1_found y') ∧ ClF b y' o' ∧ Rs b (Cd b nc mo) (fun c => Sm b nc mo w mv t c ∧ ∃ u, 0 ≤ u ∧ u < pX2_traders b ∧ Mv b c u ∧ ¬ chs w mv u) o o' := by
  have hT := hb.s.tra
  have hP := hb.s.pit
  have hmv := hW.1.1
  intro fu
  induction fu with
  | zero => intro t y o t0 h; omega
  | succ fu ih =>
    intro t y o t0 _ hf hC
    have hC' := hC
    obtain ⟨c1, c2, c3, c4, c5, c6, c7⟩ := hC'
    have eT := c2.2.2.2.2.1
    have eP := c2.1
    rw [g_X1_chooseMovers_35.eq_2, eT]
    by_cases hc : pX2_traders b ≤ t
    · rw [if_pos hc]
      refine ⟨y, o, rfl, Yg.rfl' mv y, c6, c7, Rs_nil o (fun c hx => ?_)⟩
      obtain ⟨hS, u, u0, u1, u2, u3⟩ := hx
      rcases hS.2.2 u u0 u1 u2 with h | h
      · exact u3 h
      · omega
    · have hsk : ∀ (y1 : BX1) (o1 : Option BX2) (S : BX2 → Prop), Yg mv y y1 → W2 (pX1_found y1) → ClF b y1 o1 → Rs b (Cd b nc mo) S o o1 → (∀ c, Sm b nc mo w mv t c → Mv b c t → ¬ chs w mv t → S c) → ∃ y' o', g_X1_chooseMovers_106 n (g_X1_chooseMovers n d) (g_X1_chooseMovers_35 n (g_X1_chooseMovers n d) fu) mv mo t y1 = some y' ∧ Yg mv y y' ∧ W2 (pX1_found y') ∧ ClF b y' o' ∧ Rs b (Cd b nc mo) (fun c => Sm b nc mo w mv t c ∧ ∃ u, 0 ≤ u ∧ u < pX2_traders b ∧ Mv b c u ∧ ¬ chs w mv u) o o' := by
        intro y1 o1 S k1 k2 k3 k4 k5
        unfold g_X1_chooseMovers_106
        rw [oR_ok (by omega) (by omega)]
        obtain ⟨y', o', i1, i2, i3, i4, i5⟩ := ih (t + 1) y1 o1 (by omega) (by omega) (by omega) (Yg_CM k1 hC k2 k3)
        refine ⟨y', o', i1, k1.trans i2, i3, i4, (k4.trans i5).mono (fun c hx => ?_)⟩
        obtain ⟨hS, u, u0, u1, u2, u3⟩ := hx
        by_cases hm : Mv b c t ∧ ¬ chs w mv t
        · exact .inl (k5 c hS hm.1 hm.2)
        · refine .inr ⟨⟨hS.1, hS.2.1, fun v v0 v1 v2 => ?_⟩, u, u0, u1, u2, u3⟩
          rcases hS.2.2 v v0 v1 v2 with h | h
          · exact .inl h
          · by_cases hv : v = t
            · rw [hv] at v2
              by_cases hct : chs w mv t
              · rw [hv]; exact .inl hct
              · exact absurd ⟨v2, hct⟩ hm
            · right; omega
      have hst := c3 t t0 (by omega)
      rw [if_neg hc, s_X2_isSeated _ t0 (by omega), oB_some]
      by_cases hseat : pX2_starts (pX1_street y) t = -1
      · rw [zB_neg (fun h => h hseat), if_pos rfl]
        refine hsk y o (fun _ => False) (Yg.rfl' mv y) c6 c7 (Rs_nil o (fun _ h => h)) (fun c _ hm hn => ?_)
        rw [hst, cif_neg hn] at hseat
        exact hm.1 hseat
      · have hnch : ¬ chs w mv t := fun h => hseat (by rw [hst, cif_pos h])
        have hsb : pX2_starts (pX1_street y) t = pX2_starts b t := by rw [hst, cif_neg hnch]
        have hsb1 : pX2_starts b t ≠ -1 := by rw [← hsb]; exact hseat
        have htn : t ≠ nc := fun e => hsb1 (by rw [e]; exact hW.2.2.1)
        have hv1 := V2_unseat c1 t0 (t := t) (by omega)
        have hms := mUnseat_same (pX1_street y) t
        have hwr := hb.w.st t t0 (by omega)
        have hst1 : pX1_street (sX1_walkers (sX1_street y (mUnseat (pX1_street y) t)) (updZ (pX1_walkers y) (mv + 1) t)) = mUnseat (pX1_street y) t := by rw [eX1_street_walkers, eX1_street_street]
        have hw1 : pX1_walkers (sX1_walkers (sX1_street y (mUnseat (pX1_street y) t)) (updZ (pX1_walkers y) (mv + 1) t)) = updZ (pX1_walkers y) (mv + 1) t := eX1_walkers_walkers _ _
        have ho1 : pX1_oldStarts (sX1_walkers (sX1_street y (mUnseat (pX1_street y) t)) (updZ (pX1_walkers y) (mv + 1) t)) = pX1_oldStarts y := by rw [eX1_oldStarts_walkers, eX1_oldStarts_street]
        have hchs : ∀ u, chs (updZ w (mv + 1) t) (mv + 1) u ↔ (chs w mv u ∨ u = t) := by
          intro u
          constructor
          · rintro ⟨i, i0, i1, i2⟩
            by_cases hi : i = mv + 1
            · rw [hi, updZ_at] at i2; exact .inr i2.symm
            · rw [updZ_ne hi] at i2; exact .inl ⟨i, i0, by omega, i2⟩
          · rintro (⟨i, i0, i1, i2⟩ | h)
            · exact ⟨i, i0, by omega, by rw [updZ_ne (by omega)]; exact i2⟩
            · exact ⟨mv + 1, by omega, Int.le_refl _, by rw [updZ_at]; exact h.symm⟩
        have hW1 : CW b nc (updZ w (mv + 1) t) (mv + 1) := by
          refine ⟨⟨by omega, fun i i0 i1 => ?_, fun i j i0 i1 i2 => ?_⟩, ?_, hW.2.2.1, fun i i0 i1 => ?_⟩
          · rw [updZ_app]
            by_cases hi : i = mv + 1
            · rw [if_pos hi]; omega
            · rw [if_neg hi]; exact hW.1.2.1 i i0 (by omega)
          · rw [updZ_ne (by omega), updZ_app]
            by_cases hj : j = mv + 1
            · rw [if_pos hj]
              intro e
              by_cases hi : i = 0
              · rw [hi, hW.2.1] at e; exact htn e.symm
              · exact hnch ⟨i, by omega, by omega, e⟩
            · rw [if_neg hj]; exact hW.1.2.2 i j i0 i1 (by omega)
          · rw [updZ_ne (by omega)]; exact hW.2.1
          · rw [updZ_app]
            by_cases hi : i = mv + 1
            · rw [if_pos hi]; exact hsb1
            · rw [if_neg hi]; exact hW.2.2.2 i i0 (by omega)
        have hC1 : CM b nc (updZ w (mv + 1) t) (mv + 1) (sX1_walkers (sX1_street y (mUnseat (pX1_street y) t)) (updZ (pX1_walkers y) (mv + 1) t)) o := by
          refine ⟨by rw [hst1]; exact hv1, by rw [hst1]; exact hms.trans c2, fun u u0 u1 => ?_, fun i i0 i1 => ?_, by rw [ho1]; exact c5, by rw [eX1_found_walkers, eX1_found_street]; exact c6, ?_⟩
          · rw [hst1, mUnseat_st (.inr trivial), updZ_app]
            by_cases hu : u = t
            · rw [if_pos hu, cif_pos ((hchs u).2 (.inr hu))]
            · rw [if_neg hu, c3 u u0 u1]
              exact cif_congr ⟨fun h => (hchs u).2 (.inl h), fun h => ((hchs u).1 h).resolve_right hu⟩
          · rw [hw1, updZ_app, updZ_app]
            by_cases hi : i = mv + 1
            · rw [if_pos hi, if_pos hi]
            · rw [if_neg hi, if_neg hi]; exact c4 i i0 (by omega)
          · have := ClF_street c7 (mUnseat (pX1_street y) t)
            cases o with
            | none => exact ⟨by rw [eX1_mostIncome_walkers]; exact this.1, by rw [eX1_fewestMoved_walkers]; exact this.2⟩
            | some e => exact ⟨by rw [eX1_mostIncome_walkers]; exact this.1, by rw [eX1_fewestMoved_walkers]; exact this.2.1, by rw [eX1_found_walkers]; exact this.2.2.1, this.2.2.2⟩
        obtain ⟨y2, o2, j1, j2, j3, j4, j5⟩ := hrec (mv + 1) (t + 1) (updZ w (mv + 1) t) _ o (by omega) (by omega) (by omega) hW1 hC1
        have hst2 : pX1_street y2 = mUnseat (pX1_street y) t := by rw [j2.1, hst1]
        have hold2 : pX1_oldStarts y2 t = pX2_starts (pX1_street y) t := by rw [j2.2.1, ho1, c5 t t0 (by omega), hsb]
        have hse : 0 ≤ pX2_starts (pX1_street y) t ∧ pX2_starts (pX1_street y) t ≤ 90 := by
          rw [hsb]
          rcases hwr with h | h
          · exact absurd h hsb1
          · have := hb.s.fr t0 h.1; omega
        rw [zB_pos hseat, if_neg (by omega), s_X2_unseat (by omega) c1.w t0 (by omega), oB_some, qA_ok (by omega) (by omega) (by omega), oL_def, oR_ok (by omega) (by omega), oR_ok (by omega) (by omega), j1, oB_some, qA_ok t0 (by omega) (by omega), hst2, hold2, s_X2_seat (by omega) hv1.w t0 (by rw [hms.2.2.2.2.1]; omega) hse.1 hse.2, oB_some, un_seat c1 t0 (by omega) hseat]
        refine hsk (sX1_street y2 (pX1_street y)) o2 _ ⟨?_, ?_, fun i i0 i1 => ?_⟩ ?_ (ClF_street j4 _) j5 (fun c hS hm hn => ⟨hS.1, fun i i0 i1 => ?_, fun u u0 u1 u2 => ?_⟩)
        · rw [eX1_street_street]
        · rw [eX1_oldStarts_street, j2.2.1, ho1]
        · rw [eX1_walkers_street, j2.2.2 i i0 (by omega), hw1, updZ_ne (by omega)]
        · rw [eX1_found_street]; exact j3
        · rw [updZ_app]
          by_cases hi : i = mv + 1
          · rw [if_pos hi]; exact hm
          · rw [if_neg hi]; exact hS.2.1 i i0 (by omega)
        · rcases hS.2.2 u u0 u1 u2 with h | h
          · exact .inl ((hchs u).2 (.inl h))
          · by_cases hu : u = t
            · exact .inl ((hchs u).2 (.inr hu))
            · right; omega
theorem s_choose (n : Nat) (hn : 1000 ≤ n) {b : BX2} (hb : V2 b) {nc mo : Int} (hmo : mo ≤ 2) : ∀ d : Nat, CMp b nc mo n d := by
  have hT := hb.s.tra
  intro d
  induction d with
  | zero => intro mv fi w y o h _ _ hW; have := hW.1.1; omega
  | succ d ih =>
    intro mv fi w y o hd hm hfi hW hC
    have hC' := hC
    obtain ⟨c1, c2, c3, c4, c5, c6, c7⟩ := hC'
    have hmv := hW.1.1
    have hun := CW_un hT.2 hW hC
    have hEG : ∀ c, Ex b (pX1_street y) w 0 mv c → mvd b c = mv ∧ Cd b nc mo c := fun c hx => Ex_Cd hb hW c3 hm hx
    obtain ⟨r, H, h1, h2⟩ := s_sumHopes (n := n) hn hb c1 c2 hW.1 rfl c4 c5
    have hA : ∃ y1 o1, (if r = 0 then g_X1_chooseMovers_21 n (g_X1_chooseMovers n d) mv fi mo (sX1_hopes y H) else oB (g_X2_totalRent n (pX1_street (sX1_hopes y H))) (fun r_39 => oB (g_X1_seatWalkers n 5 (sX1_hopes y H) 0 mv r_39) (fun b_159 => g_X1_chooseMovers_21 n (g_X1_chooseMovers n d) mv fi mo b_159))) = g_X1_chooseMovers_21 n (g_X1_chooseMovers n d) mv fi mo y1 ∧ Yg mv y y1 ∧ W2 (pX1_found y1) ∧ ClF b y1 o1 ∧ Rs b (Cd b nc mo) (Ex b (pX1_street y) w 0 mv) o o1 := by
      have hF : ClF b (sX1_hopes y H) o := by
        cases o with
        | none => exact ⟨by rw [eX1_mostIncome_hopes]; exact c7.1, by rw [eX1_fewestMoved_hopes]; exact c7.2⟩
        | some e => exact ⟨by rw [eX1_mostIncome_hopes]; exact c7.1, by rw [eX1_fewestMoved_hopes]; exact c7.2.1, by rw [eX1_found_hopes]; exact c7.2.2.1, c7.2.2.2⟩
      have hY : Yg mv y (sX1_hopes y H) := ⟨eX1_street_hopes _ _, eX1_oldStarts_hopes _ _, fun i _ _ => by rw [eX1_walkers_hopes]⟩
      rcases h2 with ⟨h2, h3⟩ | ⟨h2, j, j0, j1, j2⟩
      · rw [if_neg (by omega), eX1_street_hopes, s_X2_totalRent (by omega) c1.w, oB_some]
        have hHp : Hp b w H mv (Ex b (pX1_street y) w 0 mv) := by
          refine ⟨h3.1, fun i i0 i1 => by have := h3.2.1 i i0 i1; omega, fun c i hx i0 i1 => ⟨(hx.2.2.2 i i0 i1).1, ?_⟩⟩
          have q1 := (Ex_hind hb c1 c2 hW.1 hun hx i0 i1).2
          have q2 := (h3.2.2 i i0 i1).2
          rw [c2.rent, c2.rent] at q1
          omega
        obtain ⟨y1, o1, k1, k2, k3, k4, k5⟩ := s_seatWalkers n hn hb hW.1 hHp hEG 5 0 (sX1_hopes y H) o (by omega) (by omega) (by omega) ⟨by rw [eX1_street_hopes]; exact c1, by rw [eX1_street_hopes]; exact c2, by rw [eX1_street_hopes]; exact hun, by rw [eX1_walkers_hopes]; exact c4, by rw [eX1_oldStarts_hopes]; exact c5, by rw [eX1_found_hopes]; exact c6, hF, eX1_hopes_hopes _ _⟩ (by rw [eX1_street_hopes]; exact fun c hx => hx)
        rw [eX1_street_hopes] at k1 k5
        rw [k1, oB_some]
        exact ⟨y1, o1, rfl, hY.trans ⟨k2.1, k2.2.1, fun i _ _ => by rw [k2.2.2.1]⟩, k3, k4, k5⟩
      · rw [if_pos h2]
        exact ⟨_, o, rfl, hY, by rw [eX1_found_hopes]; exact c6, hF, Rs_nil o (fun c hx => (Ex_hind hb c1 c2 hW.1 hun hx j0 j1).1 j2)⟩
    obtain ⟨y1, o1, a1, a2, a3, a4, a5⟩ := hA
    rw [g_X1_chooseMovers.eq_2, h1, oB2_some, a1]
    unfold g_X1_chooseMovers_21
    have hmany : ∀ c, Sm b nc mo w mv fi c → mo ≤ mv → Ex b (pX1_street y) w 0 mv c := by
      intro c hS hle
      refine Sm_Ex hb hW c3 hS (fun u u0 u1 u2 => Classical.byContradiction (fun hn => ?_))
      have := mvd_ge (b := b) (c := c) (w := updZ w (mv + 1) u) (m := (mv + 1).toNat) (fun i i0 i1 => by
        rw [updZ_app]
        by_cases hi : i = mv + 1
        · rw [if_pos hi]; exact ⟨u0, u1⟩
        · rw [if_neg hi]; exact hW.1.2.1 i (by omega) (by omega)) (fun i j i0 i1 i2 => by
        rw [updZ_ne (by omega), updZ_app]
        by_cases hj : j = mv + 1
        · rw [if_pos hj]; exact fun e => hn ⟨i, i0, by omega, e⟩
        · rw [if_neg hj]; exact hW.1.2.2 i j (by omega) i1 (by omega)) (fun i i0 i1 => by
        rw [updZ_app]
        by_cases hi : i = mv + 1
        · rw [if_pos hi]; exact u2
        · rw [if_neg hi]; exact hS.2.1 i i0 (by omega))
      have := hS.1.2.2.2.2
      omega
    by_cases hle : mo ≤ mv
    · rw [if_pos hle]
      exact ⟨y1, o1, rfl, a2, a3, a4, a5.mono (fun c hS => hmany c hS hle)⟩
    · rw [if_neg hle, if_pos (by omega)]
      obtain ⟨y', o', k1, k2, k3, k4, k5⟩ := s_cm35 n hn hb hW (by omega) hmo (d := d) (by omega) ih n fi y1 o1 hfi (by omega) (by omega) (Yg_CM a2 hC a3 a4)
      refine ⟨y', o', k1, a2.trans k2, k3, k4, (a5.trans k5).mono (fun c hS => ?_)⟩
      by_cases hex : ∃ u, 0 ≤ u ∧ u < pX2_traders b ∧ Mv b c u ∧ ¬ chs w mv u
      · exact .inr ⟨hS, hex⟩
      · exact .inl (Sm_Ex hb hW c3 hS (fun u u0 u1 u2 => Classical.byContradiction (fun hn => hex ⟨u, u0, u1, u2, hn⟩)))
theorem s_search {n : Nat} (hn : 1000 ≤ n) {b : BX2} (hb : V2 b) {y : BX1} (h1 : W2 (pX1_street y)) (h2 : W2 (pX1_found y)) {nc mo : Int} (n0 : 0 ≤ nc) (n1 : nc < pX2_traders b) (n2 : pX2_starts b nc = -1) (m0 : 0 ≤ mo) (m1 : mo ≤ 2) : ∃ y' o', g_X1_search n y b nc mo = some y' ∧ W2 (pX1_street y') ∧ W2 (pX1_found y') ∧ ClF b y' o' ∧ Rs b (Cd b nc mo) (Cd b nc mo) none o' := by
  have hT := hb.s.tra
  unfold g_X1_search
  rw [s_X2_copyFrom (by omega) h1.s hb.s, oB_some, oL_def, qA_ok (by omega) (by omega) (by omega), oL_def]
  have hW : CW b nc (updZ (pX1_walkers y) 0 nc) 0 := by
    refine ⟨⟨by omega, fun i i0 i1 => ?_, fun i j i0 i1 i2 => by omega⟩, updZ_at _ _ _, n2, fun i i0 i1 => by omega⟩
    rw [show i = 0 by omega, updZ_at]; exact ⟨n0, n1⟩
  obtain ⟨y', o', k1, k2, k3, k4, k5⟩ := s_choose n hn hb m1 4 0 0 (updZ (pX1_walkers y) 0 nc) (sX1_walkers (sX1_oldStarts (sX1_fewestMoved (sX1_mostIncome (sX1_street y b) (-1)) 0) (cpyZ (pX2_starts b) (pX1_oldStarts y) 0 0 8)) (updZ (pX1_walkers y) 0 nc)) none (by omega) m0 (by omega) hW (by
    have e1 : pX1_street (sX1_walkers (sX1_oldStarts (sX1_fewestMoved (sX1_mostIncome (sX1_street y b) (-1)) 0) (cpyZ (pX2_starts b) (pX1_oldStarts y) 0 0 8)) (updZ (pX1_walkers y) 0 nc)) = b := by rw [eX1_street_walkers, eX1_street_oldStarts, eX1_street_fewestMoved, eX1_street_mostIncome, eX1_street_street]
    refine ⟨by rw [e1]; exact hb, by rw [e1]; exact Same.rfl' b, fun u u0 u1 => ?_, fun i _ _ => by rw [eX1_walkers_walkers], fun u u0 u1 => ?_, ?_, ?_, ?_⟩
    · rw [e1, cif_neg (fun ⟨i, i0, i1, _⟩ => by omega)]
    · rw [eX1_oldStarts_walkers, eX1_oldStarts_oldStarts]
      unfold cpyZ
      rw [if_pos (by omega)]
      exact congrArg _ (by omega)
    · rw [eX1_found_walkers, eX1_found_oldStarts, eX1_found_fewestMoved, eX1_found_mostIncome, eX1_found_street]; exact h2
    · rw [eX1_mostIncome_walkers, eX1_mostIncome_oldStarts, eX1_mostIncome_fewestMoved, eX1_mostIncome_mostIncome]
    · rw [eX1_fewestMoved_walkers, eX1_fewestMoved_oldStarts, eX1_fewestMoved_fewestMoved])
  rw [k1, oB_some]
  refine ⟨y', o', rfl, ?_, k3, k4, k5.mono (fun c hc => ⟨hc, fun i i0 i1 => by omega, fun u u0 _ _ => .inr u0⟩)⟩
  rw [k2.1, eX1_street_walkers, eX1_street_oldStarts, eX1_street_fewestMoved, eX1_street_mostIncome, eX1_street_street]
  exact hb.w
