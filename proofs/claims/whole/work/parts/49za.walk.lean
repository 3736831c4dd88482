/-! The class's search: those who walk are seated. -/
def ClF (b : BX2) (y : BX1) : Option BX2 → Prop
  | none => pX1_mostIncome y = -1 ∧ pX1_fewestMoved y = 0
  | some c => pX1_mostIncome y = mIncome c ∧ pX1_fewestMoved y = mvd b c ∧ pX1_found y = c ∧ V2 c ∧ Same c b
def Yf (y y' : BX1) : Prop := pX1_street y' = pX1_street y ∧ pX1_oldStarts y' = pX1_oldStarts y ∧ pX1_walkers y' = pX1_walkers y ∧ pX1_hopes y' = pX1_hopes y
theorem Yf.rfl' (y : BX1) : Yf y y := ⟨rfl, rfl, rfl, rfl⟩
theorem Yf.trans {x y z : BX1} (h : Yf x y) (k : Yf y z) : Yf x z := ⟨k.1.trans h.1, k.2.1.trans h.2.1, k.2.2.1.trans h.2.2.1, k.2.2.2.trans h.2.2.2⟩
theorem ClF_street {b : BX2} {y : BX1} {o : Option BX2} (h : ClF b y o) (c : BX2) : ClF b (sX1_street y c) o := by
  cases o with
  | none => exact ⟨by rw [eX1_mostIncome_street]; exact h.1, by rw [eX1_fewestMoved_street]; exact h.2⟩
  | some d => exact ⟨by rw [eX1_mostIncome_street]; exact h.1, by rw [eX1_fewestMoved_street]; exact h.2.1, by rw [eX1_found_street]; exact h.2.2.1, h.2.2.2⟩
theorem s_consider {n : Nat} (hn : 100 ≤ n) {b : BX2} (hb : S2 b) {y : BX1} {o : Option BX2} (hF : ClF b y o) (hW : W2 (pX1_found y)) {c : BX2} (hc : pX1_street y = c) (hv : V2 c) (hs : Same c b) : ∃ y', g_X1_consider n y (mvd b c) (mIncome c) = some y' ∧ Yf y y' ∧ W2 (pX1_found y') ∧ ClF b y' (updo b o c) := by
  have hi := mIncome_b hv.w
  have take : ∃ y', g_X1_consider_46 n (mvd b c) (mIncome c) y = some y' ∧ Yf y y' ∧ W2 (pX1_found y') ∧ ClF b y' (some c) := by
    unfold g_X1_consider_46
    rw [hc, s_X2_copyFrom hn hW.s hv.s, oB_some]
    refine ⟨_, rfl, ⟨?_, ?_, ?_, ?_⟩, ?_, ?_, ?_, ?_, hv, hs⟩
    · rw [eX1_street_fewestMoved, eX1_street_mostIncome, eX1_street_found]
    · rw [eX1_oldStarts_fewestMoved, eX1_oldStarts_mostIncome, eX1_oldStarts_found]
    · rw [eX1_walkers_fewestMoved, eX1_walkers_mostIncome, eX1_walkers_found]
    · rw [eX1_hopes_fewestMoved, eX1_hopes_mostIncome, eX1_hopes_found]
    · rw [eX1_found_fewestMoved, eX1_found_mostIncome, eX1_found_found]; exact hv.w
    · rw [eX1_mostIncome_fewestMoved, eX1_mostIncome_mostIncome]
    · rw [eX1_fewestMoved_fewestMoved]
    · rw [eX1_found_fewestMoved, eX1_found_mostIncome, eX1_found_found]
  unfold g_X1_consider
  cases o with
  | none =>
    rw [hF.1, if_pos (by omega)]
    exact take
  | some d =>
    have hF' := hF
    obtain ⟨f1, f2, f3, f4, f5⟩ := hF'
    have hk := key_lt hb f4.w hv.w f5 hs
    have hkb := kyc_before hb hv.w f4.w hs f5
    have tk : key b d < key b c → ∃ y', g_X1_consider_46 n (mvd b c) (mIncome c) y = some y' ∧ Yf y y' ∧ W2 (pX1_found y') ∧ ClF b y' (updo b (some d) c) := by
      intro h
      show ∃ y', g_X1_consider_46 n (mvd b c) (mIncome c) y = some y' ∧ Yf y y' ∧ W2 (pX1_found y') ∧ ClF b y' (cif (key b d < key b c) (some c) (some d))
      rw [cif_pos h]; exact take
    have st : ¬ key b d < key b c → ∃ y', some y = some y' ∧ Yf y y' ∧ W2 (pX1_found y') ∧ ClF b y' (updo b (some d) c) := by
      intro h
      refine ⟨y, rfl, Yf.rfl' y, hW, ?_⟩
      show ClF b y (cif (key b d < key b c) (some c) (some d))
      rw [cif_neg h]; exact hF
    rw [f1, f2, f3, hc]
    by_cases h1 : mIncome d < mIncome c
    · rw [if_pos h1]; exact tk (hk.2 (.inl h1))
    · rw [if_neg h1]
      by_cases h2 : mIncome c = mIncome d
      · rw [if_pos h2]
        by_cases h3 : mvd b c < mvd b d
        · rw [if_pos h3]; exact tk (hk.2 (.inr ⟨h2.symm, .inl h3⟩))
        · rw [if_neg h3]
          by_cases h4 : mvd b c = mvd b d
          · rw [if_pos h4, s_X2_comesBefore hn hv.s, oB_some, hs.1]
            by_cases h5 : mBefore (pX2_standing c) (pX2_standing d) 0 (pX2_pitches b)
            · rw [zB_pos h5, if_neg (by omega)]
              exact tk (hk.2 (.inr ⟨h2.symm, .inr ⟨h4, hkb.1 h5⟩⟩))
            · rw [zB_neg h5, if_pos rfl]
              refine st (fun h => h5 (hkb.2 ?_))
              have := hk.1 h
              omega
          · rw [if_neg h4]
            exact st (fun h => by have := hk.1 h; omega)
      · rw [if_neg h2]
        exact st (fun h => by have := hk.1 h; omega)
def Ex (b c0 : BX2) (w : Int → Int) (nx mv : Int) (c : BX2) : Prop := V2 c ∧ Same c b ∧ (∀ u, 0 ≤ u → u < 8 → (∀ i, nx ≤ i → i ≤ mv → w i ≠ u) → pX2_starts c u = pX2_starts c0 u) ∧ (∀ i, nx ≤ i → i ≤ mv → pX2_starts c (w i) ≠ -1 ∧ pX2_starts c (w i) ≠ pX2_starts b (w i))
def Wk (b : BX2) (w : Int → Int) (mv : Int) : Prop := (0 ≤ mv ∧ mv ≤ 2) ∧ (∀ i, 0 ≤ i → i ≤ mv → 0 ≤ w i ∧ w i < pX2_traders b) ∧ (∀ i j, 0 ≤ i → i < j → j ≤ mv → w i ≠ w j)
def Hp (b : BX2) (w H : Int → Int) (mv : Int) (GA : BX2 → Prop) : Prop := H (mv + 1) = 0 ∧ (∀ i, 0 ≤ i → i ≤ mv + 1 → 0 ≤ H i ∧ H i ≤ 9000) ∧ ∀ c i, GA c → 0 ≤ i → i ≤ mv → pX2_starts c (w i) ≠ -1 ∧ mRent b (w i) (pX2_starts c (w i)) ≤ H i - H (i + 1)
theorem hope_inc {b c0 c : BX2} {w H : Int → Int} {nx mv : Int} {GA : BX2 → Prop} (hw : Wk b w mv) (hH : Hp b w H mv GA) (hg : GA c) (hE : Ex b c0 w nx mv c) (hs : Same c0 b) (n0 : 0 ≤ nx) (n1 : nx ≤ mv + 1) (hun : ∀ i, nx ≤ i → i ≤ mv → pX2_starts c0 (w i) = -1) (hT : pX2_traders b ≤ 8) : mIncome c ≤ mIncome c0 + H nx := by
  have h1 := hope_sum hw.2.1 hw.2.2 hH.1 (fun i i0 i1 => hH.2.2 c i hg i0 i1) (mv + 1 - nx).toNat nx n0 (by omega)
  have e1 : mIncome c = zr (fun t => if pX2_starts c t = -1 then 0 else mRent b t (pX2_starts c t)) 0 (pX2_traders b) := by
    unfold mIncome
    rw [hE.2.1.2.2.2.2.1]
    exact zr_congr (fun t _ _ => by show (if pX2_starts c t = -1 then 0 else mRent c t (pX2_starts c t)) = _; rw [hE.2.1.rent])
  have e2 : mIncome c0 = zr (cutF b c w nx mv) 0 (pX2_traders b) := by
    unfold mIncome
    rw [hs.2.2.2.2.1]
    refine zr_congr (fun t t0 t1 => ?_)
    show (if pX2_starts c0 t = -1 then 0 else mRent c0 t (pX2_starts c0 t)) = _
    rw [hs.rent]
    unfold cutF
    by_cases h : ∃ i : Int, nx ≤ i ∧ i ≤ mv ∧ w i = t
    · rw [cif_pos h]
      obtain ⟨i, i1, i2, i3⟩ := h
      have := hun i i1 i2
      rw [i3] at this
      rw [if_pos this]
    · rw [cif_neg h, hE.2.2.1 t t0 (by omega) (fun i i1 i2 i3 => h ⟨i, i1, i2, i3⟩)]
  omega
def SW (b : BX2) (w H : Int → Int) (mv nx : Int) (y : BX1) (o : Option BX2) : Prop := V2 (pX1_street y) ∧ Same (pX1_street y) b ∧ (∀ i, nx ≤ i → i ≤ mv → pX2_starts (pX1_street y) (w i) = -1) ∧ (∀ i, 0 ≤ i → i ≤ mv → pX1_walkers y i = w i) ∧ (∀ u, 0 ≤ u → u < 8 → pX1_oldStarts y u = pX2_starts b u) ∧ W2 (pX1_found y) ∧ ClF b y o ∧ pX1_hopes y = H
def SWp (b : BX2) (w H : Int → Int) (mv : Int) (G GA : BX2 → Prop) (n d : Nat) : Prop := ∀ (nx : Int) (y : BX1) (o : Option BX2), 0 ≤ nx → nx ≤ mv + 1 → mv + 1 - nx < d → SW b w H mv nx y o → (∀ c, Ex b (pX1_street y) w nx mv c → GA c) → ∃ y' o', g_X1_seatWalkers n d y nx mv (mIncome (pX1_street y)) = some y' ∧ Yf y y' ∧ W2 (pX1_found y') ∧ ClF b y' o' ∧ Rs b G (Ex b (pX1_street y) w nx mv) o o'
theorem s_sw45 (n : Nat) (hn : 1000 ≤ n) {b : BX2} (hb : V2 b) {w H : Int → Int} {mv : Int} {G GA : BX2 → Prop} (hw : Wk b w mv) {d : Nat} (hrec : SWp b w H mv G GA n d) {nx : Int} (n0 : 0 ≤ nx) (n1 : nx ≤ mv) (hd : mv - nx < d) {c0 : BX2} (hGA : ∀ c, Ex b c0 w nx mv c → GA c) :
    ∀ (fu : Nat) (p : Int) (y : BX1) (o : Option BX2), 0 ≤ p → p ≤ pX2_pitches b → pX2_pitches b - p < fu → pX1_street y = c0 → SW b w H mv nx y o → ∃ y' o', g_X1_seatWalkers_45 n (g_X1_seatWalkers n d) fu nx mv (mIncome c0) (w nx) p y = some y' ∧ Yf y y' ∧ W2 (pX1_found y') ∧ ClF b y' o' ∧ Rs b G (fun c => Ex b c0 w nx mv c ∧ p ≤ pX2_starts c (w nx)) o o' := by
  have hT := hb.s.tra
  have hP := hb.s.pit
  have hwn := hw.2.1 nx n0 n1
  have hmv := hw.1
  intro fu
  induction fu with
  | zero => intro p y o p0 p1 h; omega
  | succ fu ih =>
    intro p y o p0 p1 hf hy hS
    have hS' := hS
    obtain ⟨s1, s2, s3, s4, s5, s6, s7, s8⟩ := hS'
    rw [g_X1_seatWalkers_45.eq_2]
    rw [hy] at s1 s2 s3
    have eT := s2.2.2.2.2.1
    have eP := s2.1
    by_cases hc : pX2_pitches b ≤ p
    · rw [hy, eP, if_pos hc]
      refine ⟨y, o, rfl, Yf.rfl' y, s6, s7, Rs_nil o (fun c hx => ?_)⟩
      have h1 := hx.1.2.2.2 nx (Int.le_refl _) n1
      have h2 := hx.1.1.2.2.2.1 (w nx) hwn.1 (by rw [hx.1.2.1.2.2.2.2.1]; exact hwn.2) h1.1
      have h3 := mInRow_lt h2.1
      have h4 := hx.1.2.1.1
      have h5 := hx.2
      omega
    · have hsk : ∀ (y1 : BX1) (o1 : Option BX2) (S : BX2 → Prop), Yf y y1 → W2 (pX1_found y1) → ClF b y1 o1 → Rs b G S o o1 → (∀ c, Ex b c0 w nx mv c → pX2_starts c (w nx) = p → S c) → ∃ y' o', g_X1_seatWalkers_113 n (g_X1_seatWalkers n d) (g_X1_seatWalkers_45 n (g_X1_seatWalkers n d) fu) nx mv (mIncome c0) (w nx) p y1 = some y' ∧ Yf y y' ∧ W2 (pX1_found y') ∧ ClF b y' o' ∧ Rs b G (fun c => Ex b c0 w nx mv c ∧ p ≤ pX2_starts c (w nx)) o o' := by
        intro y1 o1 S k1 k2 k3 k4 k5
        unfold g_X1_seatWalkers_113
        rw [oR_ok (by omega) (by omega)]
        obtain ⟨y', o', i1, i2, i3, i4, i5⟩ := ih (p + 1) y1 o1 (by omega) (by omega) (by omega) (by rw [k1.1]; exact hy) ⟨by rw [k1.1, hy]; exact s1, by rw [k1.1, hy]; exact s2, by rw [k1.1, hy]; exact s3, by rw [k1.2.2.1]; exact s4, by rw [k1.2.1]; exact s5, k2, k3, by rw [k1.2.2.2]; exact s8⟩
        refine ⟨y', o', i1, k1.trans i2, i3, i4, (k4.trans i5).mono (fun c hx => ?_)⟩
        by_cases he : pX2_starts c (w nx) = p
        · exact .inl (k5 c hx.1 he)
        · exact .inr ⟨hx.1, by have := hx.2; omega⟩
      rw [hy, eP, if_neg hc, qA_ok hwn.1 (by omega) (by omega), s5 (w nx) hwn.1 (by omega)]
      by_cases ho : p = pX2_starts b (w nx)
      · rw [if_pos ho]
        exact hsk y o (fun _ => False) (Yf.rfl' y) s6 s7 (Rs_nil o (fun _ h => h)) (fun c hx he => (hx.2.2.2 nx (Int.le_refl _) n1).2 (by rw [he]; exact ho))
      · rw [if_neg ho, s_X2_seatIfPossible (by omega) s1.w hwn.1 (by omega) p0 (by omega)]
        have hun : pX2_starts c0 (w nx) = -1 := s3 nx (Int.le_refl _) n1
        by_cases hh : mHind c0 (w nx) p = 0
        · have hv1 := V2_seat s1 hwn.1 (by omega) hh
          have hms := (mSeat_same c0 (w nx) p)
          have hmr := mRent_b s1.s hwn.1 (by omega) p0
          have hmi := mIncome_b s1.w
          have hin : mIncome (mSeat c0 (w nx) p) = mIncome c0 + mRent c0 (w nx) p := mIncome_seat hwn.1 (by omega) hun (by omega)
          have hst1 : pX1_street (sX1_street y (mSeat c0 (w nx) p)) = mSeat c0 (w nx) p := eX1_street_street _ _
          rw [if_pos hh, oB2_some, if_neg (by omega), s_X2_blockRent (by omega) hv1.s hwn.1 (by rw [hms.2.2.2.2.1]; omega) p0 (by omega), oB_some, hms.rent, oR_ok (by omega) (by omega), oR_ok (by omega) (by omega), ← hin]
          have hEx1 : ∀ c, Ex b c0 w nx mv c → pX2_starts c (w nx) = p → Ex b (mSeat c0 (w nx) p) w (nx + 1) mv c := by
            intro c hx he
            refine ⟨hx.1, hx.2.1, fun u u0 u1 hu => ?_, fun i i0 i1 => hx.2.2.2 i (by omega) i1⟩
            show _ = updZ (pX2_starts c0) (w nx) p u
            rw [updZ_app]
            by_cases hu2 : u = w nx
            · rw [if_pos hu2, hu2]; exact he
            · rw [if_neg hu2]
              refine hx.2.2.1 u u0 u1 (fun i i0 i1 => ?_)
              by_cases hi : i = nx
              · rw [hi]; exact fun e => hu2 e.symm
              · exact hu i (by omega) i1
          have hEx2 : ∀ c, Ex b (mSeat c0 (w nx) p) w (nx + 1) mv c → Ex b c0 w nx mv c := by
            intro c hx
            have hnx : pX2_starts c (w nx) = p := by
              have := hx.2.2.1 (w nx) hwn.1 (by omega) (fun i i0 i1 => fun e => hw.2.2 nx i n0 (by omega) i1 e.symm)
              rw [this]
              show updZ (pX2_starts c0) (w nx) p (w nx) = p
              exact updZ_at _ _ _
            refine ⟨hx.1, hx.2.1, fun u u0 u1 hu => ?_, fun i i0 i1 => ?_⟩
            · have := hx.2.2.1 u u0 u1 (fun i i0 i1 => hu i (by omega) i1)
              rw [this]
              show updZ (pX2_starts c0) (w nx) p u = _
              rw [updZ_ne (fun e => hu nx (Int.le_refl _) n1 e.symm)]
            · by_cases hi : i = nx
              · rw [hi, hnx]; exact ⟨by omega, ho⟩
              · exact hx.2.2.2 i (by omega) i1
          obtain ⟨y2, o2, j1, j2, j3, j4, j5⟩ := hrec (nx + 1) (sX1_street y (mSeat c0 (w nx) p)) o (by omega) (by omega) (by omega) (by
            refine ⟨by rw [hst1]; exact hv1, by rw [hst1]; exact hms.trans s2, fun i i0 i1 => ?_, by rw [eX1_walkers_street]; exact s4, by rw [eX1_oldStarts_street]; exact s5, by rw [eX1_found_street]; exact s6, ClF_street s7 _, by rw [eX1_hopes_street]; exact s8⟩
            rw [hst1]
            show updZ (pX2_starts c0) (w nx) p (w i) = -1
            rw [updZ_ne (fun e => hw.2.2 nx i n0 (by omega) i1 e.symm)]
            exact s3 i (by omega) i1) (by rw [hst1]; exact fun c hx => hGA c (hEx2 c hx))
          rw [hst1] at j1 j5
          have hst2 : pX1_street y2 = mSeat c0 (w nx) p := by rw [j2.1, hst1]
          rw [j1, oB_some, hst2, s_X2_unseat (by omega) hv1.w hwn.1 (by omega), oB_some, seat_un s1.w hwn.1 (by omega) hun hv1.w]
          refine hsk (sX1_street y2 c0) o2 _ ⟨?_, ?_, ?_, ?_⟩ ?_ (ClF_street j4 c0) j5 hEx1
          · rw [eX1_street_street]; exact hy.symm
          · rw [eX1_oldStarts_street, j2.2.1, eX1_oldStarts_street]
          · rw [eX1_walkers_street, j2.2.2.1, eX1_walkers_street]
          · rw [eX1_hopes_street, j2.2.2.2, eX1_hopes_street]
          · rw [eX1_found_street]; exact j3
        · rw [if_neg hh, oB2_some, if_pos rfl, show sX1_street y c0 = y by rw [← hy]; exact iX1_street y]
          refine hsk y o (fun _ => False) (Yf.rfl' y) s6 s7 (Rs_nil o (fun _ h => h)) (fun c hx he => hh ?_)
          refine sub_hind s1 hx.1 (hx.2.1.trans s2.symm) hwn.1 (by omega) hun (by omega) he (fun u u0 u1 => ?_)
          by_cases hu : ∃ i : Int, nx ≤ i ∧ i ≤ mv ∧ w i = u
          · obtain ⟨i, i0, i1, i2⟩ := hu
            left; rw [← i2]; exact s3 i i0 i1
          · right; exact hx.2.2.1 u u0 u1 (fun i i0 i1 i2 => hu ⟨i, i0, i1, i2⟩)
theorem s_seatWalkers (n : Nat) (hn : 1000 ≤ n) {b : BX2} (hb : V2 b) {w H : Int → Int} {mv : Int} {G GA : BX2 → Prop} (hw : Wk b w mv) (hH : Hp b w H mv GA) (hGG : ∀ c, GA c → mvd b c = mv ∧ G c) : ∀ d : Nat, SWp b w H mv G GA n d := by
  have hT := hb.s.tra
  have hP := hb.s.pit
  intro d
  induction d with
  | zero => intro nx y o n0 n1 h; omega
  | succ d ih =>
    intro nx y o n0 n1 hd hS hGA
    have hS' := hS
    obtain ⟨s1, s2, s3, s4, s5, s6, s7, s8⟩ := hS'
    have hmi := mIncome_b s1.w
    have hHb := hH.2.1 nx n0 n1
    have hmv := hw.1
    have hinc : ∀ c, Ex b (pX1_street y) w nx mv c → mIncome c ≤ mIncome (pX1_street y) + H nx := fun c hx => hope_inc hw hH (hGA c hx) hx s2 n0 n1 s3 hT.2
    have hstop : (∃ e, o = some e ∧ ∀ c, Ex b (pX1_street y) w nx mv c → key b c ≤ key b e) → ∃ y' o', some y = some y' ∧ Yf y y' ∧ W2 (pX1_found y') ∧ ClF b y' o' ∧ Rs b G (Ex b (pX1_street y) w nx mv) o o' := by
      rintro ⟨e, e1, e2⟩
      exact ⟨y, o, rfl, Yf.rfl' y, s6, s7, Rs_less e1 e2⟩
    have hgo : ∃ y' o', (if mv < nx then g_X1_seatWalkers_27 n (g_X1_seatWalkers n d) mv (mIncome (pX1_street y)) y else if nx ≤ 2 then qA nx 3 (oL (pX1_walkers y nx) (fun y_54 => g_X1_seatWalkers_45 n (g_X1_seatWalkers n d) n nx mv (mIncome (pX1_street y)) y_54 0 y)) else g_X1_seatWalkers_27 n (g_X1_seatWalkers n d) mv (mIncome (pX1_street y)) y) = some y' ∧ Yf y y' ∧ W2 (pX1_found y') ∧ ClF b y' o' ∧ Rs b G (Ex b (pX1_street y) w nx mv) o o' := by
      by_cases h1 : mv < nx
      · have hE : Ex b (pX1_street y) w nx mv (pX1_street y) := ⟨s1, s2, fun u _ _ _ => rfl, fun i i0 i1 => by omega⟩
        have hg := hGG _ (hGA _ hE)
        obtain ⟨y', k1, k2, k3, k4⟩ := s_consider (n := n) (by omega) hb.s s7 s6 rfl s1 s2
        rw [if_pos h1]
        unfold g_X1_seatWalkers_27
        rw [← hg.1, k1, oB_some, hg.1]
        refine ⟨y', _, rfl, k2, k3, k4, (Rs_upd o hg.2).mono (fun c hx => ?_)⟩
        exact W2_eq hx.1.w s1.w (hx.2.1.trans s2.symm) (fun t t0 t1 => hx.2.2.1 t t0 t1 (fun i i0 i1 => by omega))
      · rw [if_neg h1, if_pos (by omega), qA_ok n0 (by omega) (by omega), oL_def, s4 nx n0 (by omega)]
        obtain ⟨y', o', k1, k2, k3, k4, k5⟩ := s_sw45 n hn hb hw ih n0 (by omega) (by omega) (c0 := pX1_street y) hGA n 0 y o (by omega) (by omega) (by omega) rfl hS
        refine ⟨y', o', k1, k2, k3, k4, k5.mono (fun c hx => ⟨hx, ?_⟩)⟩
        have hwn := hw.2.1 nx n0 (by omega)
        have h2 := hx.2.2.2 nx (Int.le_refl _) (by omega)
        rcases hx.1.w.st (w nx) hwn.1 (by omega) with h | h
        · exact absurd h h2.1
        · exact h.2.1
    rw [g_X1_seatWalkers.eq_2, qA_ok n0 (by omega) (by omega), s8, oR_ok (by omega) (by omega)]
    unfold g_X1_isHopeless g_X1_isHopeless_24
    cases o with
    | none =>
      rw [s7.1, if_neg (by omega), if_neg (by omega), oB_some, if_pos rfl]
      exact hgo
    | some e =>
      have hF' := s7
      obtain ⟨f1, f2, f3, f4, f5⟩ := hF'
      have hkl : ∀ c, Ex b (pX1_street y) w nx mv c → (mIncome c < mIncome e ∨ (mIncome c = mIncome e ∧ mvd b e < mv)) → key b c ≤ key b e := by
        intro c hx hh
        have h1 := key_lt hb.s hx.1.w f4.w hx.2.1 f5
        have h2 := (hGG c (hGA c hx)).1
        have h3 := h1.2 (by omega)
        omega
      rw [f1, f2]
      by_cases h1 : mIncome (pX1_street y) + H nx < mIncome e
      · rw [if_pos h1, oB_some, if_neg (by omega)]
        exact hstop ⟨e, rfl, fun c hx => hkl c hx (.inl (by have := hinc c hx; omega))⟩
      · rw [if_neg h1]
        by_cases h2 : mIncome (pX1_street y) + H nx = mIncome e
        · rw [if_pos h2]
          by_cases h3 : mv ≤ mvd b e
          · rw [if_pos h3, oB_some, if_pos rfl]; exact hgo
          · rw [if_neg h3, oB_some, if_neg (by omega)]
            exact hstop ⟨e, rfl, fun c hx => hkl c hx (by have := hinc c hx; omega)⟩
        · rw [if_neg h2, oB_some, if_pos rfl]; exact hgo
