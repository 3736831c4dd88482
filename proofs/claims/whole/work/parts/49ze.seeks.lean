/-! The reference tries all places of those who move. -/
def ExR (b : BX2) (st m : Int → Int) (k K : Int) (c : BX2) : Prop := V2 c ∧ Same c b ∧ (∀ u, 0 ≤ u → u < 8 → (∀ i, k ≤ i → i < K → m i ≠ u) → pX2_starts c u = st u) ∧ (∀ i, k ≤ i → i < K → pX2_starts c (m i) ≠ -1)
def Mk (b : BX2) (m : Int → Int) (K : Int) : Prop := (1 ≤ K ∧ K ≤ 3) ∧ (∀ i, 0 ≤ i → i < K → 0 ≤ m i ∧ m i < pX2_traders b) ∧ (∀ i j, 0 ≤ i → i < j → j < K → m i ≠ m j)
def Fj (r r' : BX6) : Prop := Fr6 r r' ∧ pX6_stands r' = pX6_stands r ∧ pX6_moving r' = pX6_moving r ∧ pX6_movingMany r' = pX6_movingMany r
theorem Fj.rfl' (r : BX6) : Fj r r := ⟨Fr6.rfl' r, rfl, rfl, rfl⟩
theorem Fj.trans {r s t : BX6} (h : Fj r s) (k : Fj s t) : Fj r t := ⟨h.1.trans k.1, k.2.1.trans h.2.1, k.2.2.1.trans h.2.2.1, k.2.2.2.trans h.2.2.2⟩
def SkI (b : BX2) (st m : Int → Int) (k K : Int) (r : BX6) (o : Option BX2) : Prop := Rl b (pX6_a r) ∧ LayOf b st (pX6_stands r) ∧ (∀ t, 0 ≤ t → t < 8 → st t = -1 ∨ (t < pX2_traders b ∧ mInRow b t (st t) ∧ mRent b t (st t) ≤ pX2_limits b t)) ∧ (∀ i, k ≤ i → i < K → st (m i) = -1) ∧ (∀ u, 0 ≤ u → u < 8 → (∀ i, k ≤ i → i < K → m i ≠ u) → pX6_tried r u = st u) ∧ (∀ i, 0 ≤ i → i < K → pX6_moving r i = m i) ∧ pX6_movingMany r = K ∧ RfF b r o
def SkIp (b : BX2) (m : Int → Int) (K : Int) (G : BX2 → Prop) (n d : Nat) : Prop := ∀ (k : Int) (st : Int → Int) (r : BX6) (o : Option BX2), 0 ≤ k → k ≤ K → K - k < d → SkI b st m k K r o → (∀ c, ExR b st m k K c → G c) → ∃ r' o', g_X6_seeks n d r k = some r' ∧ Fj r r' ∧ (∀ u, 0 ≤ u → u < 8 → (∀ i, k ≤ i → i < K → m i ≠ u) → pX6_tried r' u = st u) ∧ RfF b r' o' ∧ Rs b G (ExR b st m k K) o o'
theorem RfF_tr {b : BX2} {r : BX6} {o : Option BX2} (h : RfF b r o) (v : Int → Int) : RfF b (sX6_tried r v) o := by
  cases o with
  | none => show pX6_foundIncome (sX6_tried r v) = -1; rw [eX6_foundIncome_tried]; exact h
  | some c => exact ⟨by rw [eX6_foundIncome_tried]; exact h.1, by rw [eX6_foundMoves_tried]; exact h.2.1, by rw [eX6_found_tried]; exact h.2.2.1, by rw [eX6_foundOn_tried]; exact h.2.2.2.1, h.2.2.2.2⟩
theorem RfF_sd {b : BX2} {r : BX6} {o : Option BX2} (h : RfF b r o) (v : Int → Int) : RfF b (sX6_stands r v) o := by
  cases o with
  | none => show pX6_foundIncome (sX6_stands r v) = -1; rw [eX6_foundIncome_stands]; exact h
  | some c => exact ⟨by rw [eX6_foundIncome_stands]; exact h.1, by rw [eX6_foundMoves_stands]; exact h.2.1, by rw [eX6_found_stands]; exact h.2.2.1, by rw [eX6_foundOn_stands]; exact h.2.2.2.1, h.2.2.2.2⟩
theorem lay_back {v : Int → Int} {s e w : Int} (h : ∀ p, s ≤ p → p < e → v p = -1) : mLay (mLay v s e w) s e (-1) = v := by
  funext p
  unfold mLay
  by_cases hp : s ≤ p ∧ p < e
  · rw [if_pos hp, h p hp.1 hp.2]
  · rw [if_neg hp, if_neg hp]
theorem s_sk22 (n : Nat) (hn : 1000 ≤ n) {b : BX2} (hb : V2 b) {m : Int → Int} {K : Int} (hM : Mk b m K) {G : BX2 → Prop} {d : Nat} (hrec : SkIp b m K G n d) {k : Int} (k0 : 0 ≤ k) (k1 : k < K) (hd : K - k - 1 < d) {st : Int → Int} (hG : ∀ c, ExR b st m k K c → G c) :
    ∀ (fu : Nat) (s : Int) (r : BX6) (o : Option BX2), 0 ≤ s → s ≤ pX2_pitches b → pX2_pitches b - s < fu → SkI b st m k K r o → ∃ r' o', g_X6_seeks_22 n (g_X6_seeks n d) fu k (m k) s r = some r' ∧ Fj r r' ∧ (∀ u, 0 ≤ u → u < 8 → (∀ i, k ≤ i → i < K → m i ≠ u) → pX6_tried r' u = st u) ∧ RfF b r' o' ∧ Rs b G (fun c => ExR b st m k K c ∧ s ≤ pX2_starts c (m k)) o o' := by
  have hT := hb.s.tra
  have hP := hb.s.pit
  have hmk := hM.2.1 k k0 k1
  have hK := hM.1
  intro fu
  induction fu with
  | zero => intro s r o s0 s1 h; omega
  | succ fu ih =>
    intro s r o s0 s1 hf hS
    have hS' := hS
    obtain ⟨R, hL, hst, hun, htr, hmo, hmm, hF⟩ := hS'
    rw [g_X6_seeks_22.eq_2, qA_ok (by omega) (by omega) (by omega), R.pit]
    by_cases hc : pX2_pitches b ≤ s
    · rw [if_pos hc]
      refine ⟨r, o, rfl, Fj.rfl' r, htr, hF, Rs_nil o (fun c hx => ?_)⟩
      have h1 := hx.1.2.2.2 k (Int.le_refl _) k1
      have h2 := hx.1.1.2.2.2.1 (m k) hmk.1 (by rw [hx.1.2.1.2.2.2.2.1]; exact hmk.2) h1
      have h3 := mInRow_lt h2.1
      have h4 := hx.1.2.1.1
      have h5 := hx.2
      omega
    · have hsk : ∀ (r1 : BX6) (o1 : Option BX2) (S : BX2 → Prop), Fj r r1 → (∀ u, 0 ≤ u → u < 8 → (∀ i, k ≤ i → i < K → m i ≠ u) → pX6_tried r1 u = st u) → RfF b r1 o1 → Rs b G S o o1 → (∀ c, ExR b st m k K c → pX2_starts c (m k) = s → S c) → ∃ r' o', g_X6_seeks_72 n (g_X6_seeks n d) (g_X6_seeks_22 n (g_X6_seeks n d) fu) k (m k) s r1 = some r' ∧ Fj r r' ∧ (∀ u, 0 ≤ u → u < 8 → (∀ i, k ≤ i → i < K → m i ≠ u) → pX6_tried r' u = st u) ∧ RfF b r' o' ∧ Rs b G (fun c => ExR b st m k K c ∧ s ≤ pX2_starts c (m k)) o o' := by
        intro r1 o1 S q1 q2 q3 q4 q5
        unfold g_X6_seeks_72
        rw [oR_ok (by omega) (by omega)]
        obtain ⟨r', o', i1, i2, i3, i4, i5⟩ := ih (s + 1) r1 o1 (by omega) (by omega) (by omega) ⟨by rw [q1.1.1]; exact R, by rw [q1.2.1]; exact hL, hst, hun, q2, by rw [q1.2.2.1]; exact hmo, by rw [q1.2.2.2]; exact hmm, q3⟩
        refine ⟨r', o', i1, q1.trans i2, i3, i4, (q4.trans i5).mono (fun c hx => ?_)⟩
        by_cases he : pX2_starts c (m k) = s
        · exact .inl (q5 c hx.1 he)
        · exact .inr ⟨hx.1, by have := hx.2; omega⟩
      rw [if_neg hc, s_X6_fits (by omega) hb.s R hmk.1 hmk.2 s0 (by omega), oB_some]
      by_cases hfit : mFits b (pX6_stands r) (m k) s
      · have hl := mInRow_lt hfit.1
        have hunk := hun k (Int.le_refl _) k1
        have hsd : sX6_stands r (mLay (pX6_stands r) s (s + pX2_fronts b (m k)) (m k)) = sX6_stands r (mLay (pX6_stands r) s (s + pX2_fronts b (m k)) (m k)) := rfl
        rw [zB_pos hfit, if_neg (by omega), s_X6_lays (by omega) hb.s R _ hmk.1 hmk.2 s0 hl.2.2, oB_some, qA_ok hmk.1 (by omega) (by omega), oL_def, oR_ok (by omega) (by omega), eX6_tried_stands]
        have hEx1 : ∀ c, ExR b st m k K c → pX2_starts c (m k) = s → ExR b (updZ st (m k) s) m (k + 1) K c := by
          intro c hx he
          refine ⟨hx.1, hx.2.1, fun u u0 u1 hu => ?_, fun i i0 i1 => hx.2.2.2 i (by omega) i1⟩
          rw [updZ_app]
          by_cases hu2 : u = m k
          · rw [if_pos hu2, hu2]; exact he
          · rw [if_neg hu2]
            refine hx.2.2.1 u u0 u1 (fun i i0 i1 => ?_)
            by_cases hi : i = k
            · rw [hi]; exact fun e => hu2 e.symm
            · exact hu i (by omega) i1
        have hEx2 : ∀ c, ExR b (updZ st (m k) s) m (k + 1) K c → ExR b st m k K c := by
          intro c hx
          have hnx : pX2_starts c (m k) = s := by
            rw [hx.2.2.1 (m k) hmk.1 (by omega) (fun i i0 i1 => fun e => hM.2.2 k i k0 (by omega) i1 e.symm), updZ_at]
          refine ⟨hx.1, hx.2.1, fun u u0 u1 hu => ?_, fun i i0 i1 => ?_⟩
          · rw [hx.2.2.1 u u0 u1 (fun i i0 i1 => hu i (by omega) i1), updZ_ne (fun e => hu k (Int.le_refl _) k1 e.symm)]
          · by_cases hi : i = k
            · rw [hi, hnx]; omega
            · exact hx.2.2.2 i (by omega) i1
        obtain ⟨r2, o2, j1, j2, j3, j4, j5⟩ := hrec (k + 1) (updZ st (m k) s) (sX6_tried (sX6_stands r (mLay (pX6_stands r) s (s + pX2_fronts b (m k)) (m k))) (updZ (pX6_tried r) (m k) s)) o (by omega) (by omega) (by omega) (by
          refine ⟨by rw [eX6_a_tried, eX6_a_stands]; exact R, ?_, fun t t0 t1 => ?_, fun i i0 i1 => ?_, fun u u0 u1 hu => ?_, by rw [eX6_moving_tried, eX6_moving_stands]; exact hmo, by rw [eX6_movingMany_tried, eX6_movingMany_stands]; exact hmm, RfF_tr (RfF_sd hF _) _⟩
          · rw [eX6_stands_tried, eX6_stands_stands]
            exact lay_add hL hmk.1 hmk.2 hunk s0 hfit.2.2
          · rw [updZ_app]
            by_cases ht : t = m k
            · rw [if_pos ht, ht]; exact .inr ⟨hmk.2, hfit.1, hfit.2.1⟩
            · rw [if_neg ht]; exact hst t t0 t1
          · rw [updZ_ne (fun e => hM.2.2 k i k0 (by omega) i1 e.symm)]
            exact hun i (by omega) i1
          · rw [eX6_tried_tried, updZ_app, updZ_app]
            by_cases hu2 : u = m k
            · rw [if_pos hu2, if_pos hu2]
            · rw [if_neg hu2, if_neg hu2]
              refine htr u u0 u1 (fun i i0 i1 => ?_)
              by_cases hi : i = k
              · rw [hi]; exact fun e => hu2 e.symm
              · exact hu i (by omega) i1) (fun c hx => hG c (hEx2 c hx))
        have hst2 : pX6_stands r2 = mLay (pX6_stands r) s (s + pX2_fronts b (m k)) (m k) := by rw [j2.2.1, eX6_stands_tried, eX6_stands_stands]
        have ha2 : pX6_a r2 = pX6_a r := by rw [j2.1.1, eX6_a_tried, eX6_a_stands]
        rw [j1, oB_some, s_X6_lays (by omega) hb.s (by rw [ha2]; exact R) _ hmk.1 hmk.2 s0 hl.2.2, oB_some, hst2, lay_back hfit.2.2]
        refine hsk (sX6_stands r2 (pX6_stands r)) o2 _ ⟨?_, ?_, ?_, ?_⟩ (fun u u0 u1 hu => ?_) (RfF_sd j4 _) j5 hEx1
        · exact ((Fr6.stands r _).trans (Fr6.tried _ _)).trans (j2.1.trans (Fr6.stands r2 _))
        · rw [eX6_stands_stands]
        · rw [eX6_moving_stands, j2.2.2.1, eX6_moving_tried, eX6_moving_stands]
        · rw [eX6_movingMany_stands, j2.2.2.2, eX6_movingMany_tried, eX6_movingMany_stands]
        · rw [eX6_tried_stands, j3 u u0 u1 (fun i i0 i1 => hu i (by omega) i1), updZ_ne (fun e => hu k (Int.le_refl _) k1 e.symm)]
      · rw [zB_neg hfit, if_pos rfl]
        refine hsk r o (fun _ => False) (Fj.rfl' r) htr hF (Rs_nil o (fun _ h => h)) (fun c hx he => hfit ?_)
        have h1 := hx.2.2.2 k (Int.le_refl _) k1
        have eT := hx.2.1.2.2.2.2.1
        have eF := hx.2.1.2.2.2.2.2.2.1
        obtain ⟨h2, h3⟩ := hx.1.2.2.2.1 (m k) hmk.1 (by rw [eT]; exact hmk.2) h1
        rw [he, hx.2.1.inRow] at h2
        rw [he, hx.2.1.rent, hx.2.1.2.2.2.2.2.2.2.1] at h3
        have hl := mInRow_lt h2
        refine ⟨h2, h3, fun p p0 p1 => Classical.byContradiction (fun hne => ?_)⟩
        have h4 := hx.1.w.lie (m k) p hmk.1 (by rw [eT]; exact hmk.2) h1 (by rw [he]; exact p0) (by rw [he, eF]; exact p1)
        rcases hL.1 p (by omega) (by omega) with h5 | ⟨v0, v1, v2, v3, v4⟩
        · exact hne h5
        · have hnm : ∀ i, k ≤ i → i < K → m i ≠ pX6_stands r p := fun i i0 i1 e => v2 (by rw [← e]; exact hun i i0 i1)
          have h6 := hx.2.2.1 _ v0 (by omega) hnm
          have h7 := hx.1.w.lie (pX6_stands r p) p v0 (by rw [eT]; exact v1) (by rw [h6]; exact v2) (by rw [h6]; exact v3) (by rw [h6, eF]; exact v4)
          exact hnm k (Int.le_refl _) k1 (by rw [← h4, h7])
theorem s_seeks (n : Nat) (hn : 1000 ≤ n) {b : BX2} (hb : V2 b) {m : Int → Int} {K : Int} (hM : Mk b m K) {G : BX2 → Prop} : ∀ d : Nat, SkIp b m K G n d := by
  have hT := hb.s.tra
  have hP := hb.s.pit
  intro d
  induction d with
  | zero => intro k st r o k0 k1 h; omega
  | succ d ih =>
    intro k st r o k0 k1 hd hS hG
    have hS' := hS
    obtain ⟨R, hL, hst, hun, htr, hmo, hmm, hF⟩ := hS'
    rw [g_X6_seeks.eq_2, hmm]
    by_cases hk : k = K
    · rw [if_pos hk]
      obtain ⟨r', o', q1, q2, q3, q4⟩ := s_compares hn hb R hL (fun t t0 t1 => htr t t0 t1 (fun i i0 i1 => by omega)) hst hF (G := G) (fun c c1 c2 c3 => hG c ⟨c1, c2, fun u u0 u1 _ => c3 u u0 u1, fun i i0 i1 => by omega⟩)
      rw [q1, oB_some]
      refine ⟨r', o', rfl, ⟨q2.1, q2.2.1, q2.2.2.1, q2.2.2.2.1⟩, fun u u0 u1 hu => ?_, q3, q4.mono (fun c hx => ⟨hx.1, hx.2.1, fun t t0 t1 => hx.2.2.1 t t0 t1 (fun i i0 i1 => by omega)⟩)⟩
      rw [q2.2.2.2.2]; exact htr u u0 u1 hu
    · have hmk := hM.2.1 k k0 (by omega)
      have hK := hM.1
      rw [if_neg hk, qA_ok k0 (by omega) (by omega), oL_def, hmo k k0 (by omega)]
      obtain ⟨r', o', q1, q2, q3, q4, q5⟩ := s_sk22 n hn hb hM ih k0 (by omega) (by omega) hG n 0 r o (by omega) (by omega) (by omega) hS
      refine ⟨r', o', q1, q2, q3, q4, q5.mono (fun c hx => ⟨hx, ?_⟩)⟩
      have h2 := hx.2.2.2 k (Int.le_refl _) (by omega)
      rcases hx.1.w.st (m k) hmk.1 (by omega) with h | h
      · exact absurd h h2
      · exact h.2.1
