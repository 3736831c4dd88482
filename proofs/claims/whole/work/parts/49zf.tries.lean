/-! The reference: all choices of those who move. -/
def mvs (m : Int → Int) (K u : Int) : Prop := ∃ i : Int, 0 ≤ i ∧ i < K ∧ m i = u
noncomputable def stU (b : BX2) (m : Int → Int) (K x u : Int) : Int := cif (u < x ∧ ¬ mvs m K u) (pX2_starts b u) (-1)
def TM (b : BX2) (m : Int → Int) (K : Int) (c : BX2) : Prop := V2 c ∧ Same c b ∧ (∀ u, 0 ≤ u → u < 8 → ¬ mvs m K u → pX2_starts c u = pX2_starts b u) ∧ (∀ i, 0 ≤ i → i < K → pX2_starts c (m i) ≠ -1)
theorem s_tm48 (n : Nat) (k23 : Int → BX6 → Option BX6) {r : BX6} {m : Int → Int} {K t : Int} (hK : 0 ≤ K ∧ K ≤ 3) (t0 : 0 ≤ t) (t1 : t < 8) (hm : ∀ i, 0 ≤ i → i < K → pX6_moving r i = m i) (hk : pX6_movingMany r = K) :
    ∀ (fu : Nat) (x f : Int), 0 ≤ x → x ≤ K → K - x < fu → f = zB (mvs m x t) → g_X6_triesMoving_48 n k23 fu t f x r = (if pX6_tried r t = -1 then g_X6_triesMoving_108 n k23 t r else (if zB (mvs m K t) = 0 then oB (g_X6_lays n r t (pX6_tried r t) t) (fun b_5 => g_X6_triesMoving_108 n k23 t b_5) else g_X6_triesMoving_108 n k23 t r)) := by
  intro fu
  induction fu with
  | zero => intro x f _ _ h; omega
  | succ fu ih =>
    intro x f x0 x1 hf hff
    rw [g_X6_triesMoving_48.eq_2, hk]
    by_cases hc : K ≤ x
    · rw [if_pos hc, qA_ok t0 (by omega) (by omega), qA_ok t0 (by omega) (by omega), hff, show x = K by omega]
    · unfold g_X6_triesMoving_70 g_X6_triesMoving_75
      have step : ∀ g, g = zB (mvs m (x + 1) t) → oR (x + 1) (g_X6_triesMoving_48 n k23 fu t g (x + 1) r) = (if pX6_tried r t = -1 then g_X6_triesMoving_108 n k23 t r else (if zB (mvs m K t) = 0 then oB (g_X6_lays n r t (pX6_tried r t) t) (fun b_5 => g_X6_triesMoving_108 n k23 t b_5) else g_X6_triesMoving_108 n k23 t r)) := by
        intro g hg
        rw [oR_ok (by omega) (by omega)]
        exact ih (x + 1) g (by omega) (by omega) (by omega) hg
      have hmx := hm x x0 (by omega)
      rw [if_neg hc, hff]
      by_cases h1 : mvs m x t
      · rw [zB_pos h1, if_neg (by omega)]
        refine step 1 ?_
        obtain ⟨i, i0, i1, i2⟩ := h1
        rw [zB_pos ⟨i, i0, by omega, i2⟩]
      · rw [zB_neg h1, if_pos rfl, qA_ok x0 (by omega) (by omega), hmx]
        by_cases h2 : m x = t
        · rw [if_pos h2]
          refine step 1 ?_
          rw [zB_pos ⟨x, x0, by omega, h2⟩]
        · rw [if_neg h2]
          refine step 0 ?_
          rw [zB_neg]
          rintro ⟨i, i0, i1, i2⟩
          by_cases hi : i = x
          · rw [hi] at i2; exact h2 i2
          · exact h1 ⟨i, i0, by omega, i2⟩
theorem s_tm23 (n : Nat) (hn : 1000 ≤ n) {b : BX2} (hb : V2 b) {m : Int → Int} {K : Int} (hM : Mk b m K) {G : BX2 → Prop} (hG : ∀ c, TM b m K c → G c) :
    ∀ (fu : Nat) (x : Int) (r : BX6) (o : Option BX2), 0 ≤ x → x ≤ 8 → 8 - x < fu → Rl b (pX6_a r) → LayOf b (stU b m K x) (pX6_stands r) → (∀ u, 0 ≤ u → u < x → pX6_tried r u = pX2_starts b u) → (∀ i, 0 ≤ i → i < K → pX6_moving r i = m i) → pX6_movingMany r = K → RfF b r o →
    ∃ r' o', g_X6_triesMoving_23 n fu x r = some r' ∧ Fr6 r r' ∧ pX6_moving r' = pX6_moving r ∧ pX6_movingMany r' = pX6_movingMany r ∧ RfF b r' o' ∧ Rs b G (TM b m K) o o' := by
  have hT := hb.s.tra
  have hP := hb.s.pit
  have hK := hM.1
  have hin : ∀ t, 0 ≤ t → t < 8 → pX2_starts b t = -1 ∨ (t < pX2_traders b ∧ mInRow b t (pX2_starts b t) ∧ mRent b t (pX2_starts b t) ≤ pX2_limits b t) := by
    intro t t0 t1
    rcases hb.w.st t t0 t1 with h | h
    · exact .inl h
    · have := hb.2.2.2.1 t t0 h.1 (by omega)
      exact .inr ⟨h.1, this⟩
  intro fu
  induction fu with
  | zero => intro x r o _ _ h; omega
  | succ fu ih =>
    intro x r o x0 x1 hf R hL htr hmo hmm hF
    rw [g_X6_triesMoving_23.eq_2]
    by_cases hc : 8 ≤ x
    · have hx8 : x = 8 := by omega
      rw [hx8] at hL htr
      have hTE : ∀ c, ExR b (stU b m K 8) m 0 K c ↔ TM b m K c := by
        intro c
        constructor
        · intro h
          refine ⟨h.1, h.2.1, fun u u0 u1 hu => ?_, h.2.2.2⟩
          rw [h.2.2.1 u u0 u1 (fun i i0 i1 e => hu ⟨i, i0, i1, e⟩)]
          unfold stU; rw [cif_pos ⟨u1, hu⟩]
        · intro h
          refine ⟨h.1, h.2.1, fun u u0 u1 hu => ?_, h.2.2.2⟩
          have hnm : ¬ mvs m K u := fun ⟨i, i0, i1, e⟩ => hu i i0 i1 e
          rw [h.2.2.1 u u0 u1 hnm]
          unfold stU; rw [cif_pos ⟨u1, hnm⟩]
      obtain ⟨r', o', q1, q2, q3, q4, q5⟩ := s_seeks n hn hb hM (G := G) 5 0 (stU b m K 8) r o (by omega) (by omega) (by omega) ⟨R, hL, fun t t0 t1 => by
        unfold stU
        by_cases h : t < 8 ∧ ¬ mvs m K t
        · rw [cif_pos h]; exact hin t t0 t1
        · rw [cif_neg h]; exact .inl rfl, fun i i0 i1 => by unfold stU; rw [cif_neg (fun h => h.2 ⟨i, i0, i1, rfl⟩)], fun u u0 u1 hu => by
        unfold stU
        rw [cif_pos ⟨u1, fun ⟨i, i0, i1, e⟩ => hu i i0 i1 e⟩]; exact htr u u0 u1, hmo, hmm, hF⟩ (fun c hx => hG c ((hTE c).1 hx))
      rw [if_pos hc, q1, oB_some]
      exact ⟨r', o', rfl, q2.1, q2.2.2.1, q2.2.2.2, q4, q5.mono (fun c hx => (hTE c).2 hx)⟩
    · have hst := R.st x0 (by omega)
      have e1 : pX6_tried (sX6_tried r (updZ (pX6_tried r) x (pX2_starts b x))) x = pX2_starts b x := by rw [eX6_tried_tried, updZ_at]
      have htr1 : ∀ u, 0 ≤ u → u < x + 1 → updZ (pX6_tried r) x (pX2_starts b x) u = pX2_starts b u := by
        intro u u0 u1
        rw [updZ_app]
        by_cases hu : u = x
        · rw [if_pos hu, hu]
        · rw [if_neg hu]; exact htr u u0 (by omega)
      have h48 := s_tm48 n (g_X6_triesMoving_23 n fu) (r := sX6_tried r (updZ (pX6_tried r) x (pX2_starts b x))) (m := m) (K := K) (t := x) (by omega) x0 (by omega) (by rw [eX6_moving_tried]; exact hmo) (by rw [eX6_movingMany_tried]; exact hmm) n 0 0 (by omega) (by omega) (by omega) (zB_neg (fun ⟨i, i0, i1, _⟩ => by omega)).symm
      rw [e1] at h48
      have hgo : ∀ v, LayOf b (stU b m K (x + 1)) v → ∀ r1, r1 = sX6_stands (sX6_tried r (updZ (pX6_tried r) x (pX2_starts b x))) v → ∃ r' o', g_X6_triesMoving_108 n (g_X6_triesMoving_23 n fu) x r1 = some r' ∧ Fr6 r r' ∧ pX6_moving r' = pX6_moving r ∧ pX6_movingMany r' = pX6_movingMany r ∧ RfF b r' o' ∧ Rs b G (TM b m K) o o' := by
        intro v hv r1 hr1
        unfold g_X6_triesMoving_108
        rw [oR_ok (by omega) (by omega)]
        obtain ⟨r', o', q1, q2, q3, q4, q5, q6⟩ := ih (x + 1) r1 o (by omega) (by omega) (by omega) (by rw [hr1, eX6_a_stands, eX6_a_tried]; exact R) (by rw [hr1, eX6_stands_stands]; exact hv) (by rw [hr1, eX6_tried_stands, eX6_tried_tried]; exact htr1) (by rw [hr1, eX6_moving_stands, eX6_moving_tried]; exact hmo) (by rw [hr1, eX6_movingMany_stands, eX6_movingMany_tried]; exact hmm) (by rw [hr1]; exact RfF_sd (RfF_tr hF _) _)
        refine ⟨r', o', q1, ?_, ?_, ?_, q5, q6⟩
        · rw [hr1] at q2; exact ((Fr6.tried r _).trans (Fr6.stands _ _)).trans q2
        · rw [q3, hr1, eX6_moving_stands, eX6_moving_tried]
        · rw [q4, hr1, eX6_movingMany_stands, eX6_movingMany_tried]
      have hsame : (pX2_starts b x = -1 ∨ mvs m K x) → LayOf b (stU b m K (x + 1)) (pX6_stands r) := by
        intro h
        have e : stU b m K (x + 1) = stU b m K x := by
          funext u
          unfold stU
          by_cases hu : u = x
          · rw [cif_neg (P := u < x ∧ ¬ mvs m K u) (by omega)]
            rcases h with h | h
            · by_cases h2 : u < x + 1 ∧ ¬ mvs m K u
              · rw [cif_pos h2, hu, h]
              · rw [cif_neg h2]
            · rw [cif_neg (fun h2 => h2.2 (by rw [hu]; exact h))]
          · exact cif_congr ⟨fun h2 => ⟨by omega, h2.2⟩, fun h2 => ⟨by omega, h2.2⟩⟩
        rw [e]; exact hL
      have hid : sX6_stands (sX6_tried r (updZ (pX6_tried r) x (pX2_starts b x))) (pX6_stands r) = sX6_tried r (updZ (pX6_tried r) x (pX2_starts b x)) := by
        have := iX6_stands (sX6_tried r (updZ (pX6_tried r) x (pX2_starts b x)))
        rw [eX6_stands_tried] at this
        exact this
      rw [if_neg hc, qA_ok (by omega) (by omega) (by omega), qA_ok x0 (by omega) (by omega), oL_def, hst, h48]
      by_cases h1 : pX2_starts b x = -1
      · rw [if_pos h1]
        exact hgo _ (hsame (.inl h1)) _ hid.symm
      · rw [if_neg h1]
        by_cases h2 : mvs m K x
        · rw [zB_pos h2, if_neg (by omega)]
          exact hgo _ (hsame (.inr h2)) _ hid.symm
        · rcases hin x x0 (by omega) with h | ⟨k1, k2, k3⟩
          · exact absurd h h1
          have hl := mInRow_lt k2
          rw [zB_neg h2, if_pos rfl, s_X6_lays (by omega) hb.s (by rw [eX6_a_tried]; exact R) _ x0 k1 hl.1 hl.2.2, oB_some, eX6_stands_tried]
          refine hgo _ ?_ _ rfl
          have hfree : ∀ p, pX2_starts b x ≤ p → p < pX2_starts b x + pX2_fronts b x → pX6_stands r p = -1 := by
            intro p p0 p1
            refine Classical.byContradiction (fun hne => ?_)
            have q1 := hb.w.lie x p x0 k1 h1 p0 p1
            rcases hL.1 p (by omega) (by omega) with h5 | ⟨v0, v1, v2, v3, v4⟩
            · exact hne h5
            · have hcond : pX6_stands r p < x ∧ ¬ mvs m K (pX6_stands r p) := Classical.byContradiction (fun hn => v2 (cif_neg hn))
              have hval : stU b m K x (pX6_stands r p) = pX2_starts b (pX6_stands r p) := cif_pos hcond
              rw [hval] at v2 v3 v4
              have q2 := hb.w.lie (pX6_stands r p) p v0 v1 v2 v3 v4
              omega
          have hxs : stU b m K x x = -1 := cif_neg (by omega)
          have h3 := lay_add hL x0 k1 hxs hl.1 hfree
          have e : updZ (stU b m K x) x (pX2_starts b x) = stU b m K (x + 1) := by
            funext u
            rw [updZ_app]
            by_cases hu : u = x
            · rw [if_pos hu]
              unfold stU
              rw [cif_pos ⟨by omega, by rw [hu]; exact h2⟩, hu]
            · rw [if_neg hu]
              exact cif_congr ⟨fun h2 => ⟨by omega, h2.2⟩, fun h2 => ⟨by omega, h2.2⟩⟩
          rw [e] at h3
          exact h3
theorem s_tm2 (n : Nat) (r : BX6) : ∀ (fu : Nat) (x : Int) (v : Int → Int), 0 ≤ x → x ≤ 24 → 24 - x < fu → (∀ p, 0 ≤ p → p < x → v p = -1) → ∃ v', g_X6_triesMoving_2 n fu x (sX6_stands r v) = g_X6_triesMoving_23 n n 0 (sX6_stands r v') ∧ ∀ p, 0 ≤ p → p < 24 → v' p = -1 := by
  intro fu
  induction fu with
  | zero => intro x v _ _ h; omega
  | succ fu ih =>
    intro x v x0 x1 hf hv
    rw [g_X6_triesMoving_2.eq_2]
    by_cases hc : 24 ≤ x
    · rw [if_pos hc]; exact ⟨v, rfl, fun p p0 p1 => hv p p0 (by omega)⟩
    · rw [if_neg hc, qA_ok x0 (by omega) (by omega), oL_def, oR_ok (by omega) (by omega), uX6_stands, eX6_stands_stands]
      refine ih (x + 1) _ (by omega) (by omega) (by omega) (fun p p0 p1 => ?_)
      rw [updZ_app]
      by_cases hp : p = x
      · rw [if_pos hp]
      · rw [if_neg hp]; exact hv p p0 (by omega)
theorem s_tries {n : Nat} (hn : 1000 ≤ n) {b : BX2} (hb : V2 b) {m : Int → Int} {K : Int} (hM : Mk b m K) {G : BX2 → Prop} (hG : ∀ c, TM b m K c → G c) {r : BX6} {o : Option BX2} (R : Rl b (pX6_a r)) (hmo : ∀ i, 0 ≤ i → i < K → pX6_moving r i = m i) (hmm : pX6_movingMany r = K) (hF : RfF b r o) :
    ∃ r' o', g_X6_triesMoving n r = some r' ∧ Fr6 r r' ∧ pX6_moving r' = pX6_moving r ∧ RfF b r' o' ∧ Rs b G (TM b m K) o o' := by
  unfold g_X6_triesMoving
  obtain ⟨v, h1, h2⟩ := s_tm2 n r n 0 (pX6_stands r) (by omega) (by omega) (by omega) (fun p p0 p1 => by omega)
  rw [iX6_stands] at h1
  obtain ⟨r', o', q1, q2, q3, q4, q5, q6⟩ := s_tm23 n hn hb hM hG n 0 (sX6_stands r v) o (by omega) (by omega) (by omega) (by rw [eX6_a_stands]; exact R) (by
    rw [eX6_stands_stands]
    exact lay_none b (fun t t0 t1 => cif_neg (by omega)) h2) (fun u u0 u1 => by omega) (by rw [eX6_moving_stands]; exact hmo) (by rw [eX6_movingMany_stands]; exact hmm) (RfF_sd hF _)
  rw [h1, q1]
  exact ⟨r', o', rfl, (Fr6.stands r _).trans q2, by rw [q3, eX6_moving_stands], q5, q6⟩
def MvB (b : BX2) (nc mo : Int) (m : Int → Int) (K : Int) : Prop := Mk b m K ∧ m 0 = nc ∧ pX2_starts b nc = -1 ∧ (∀ i, 1 ≤ i → i < K → pX2_starts b (m i) ≠ -1) ∧ K ≤ mo + 1
theorem TM_Cd {b c : BX2} {nc mo K : Int} {m : Int → Int} (hM : MvB b nc mo m K) (h : TM b m K c) : Cd b nc mo c := by
  obtain ⟨h1, h2, h3, h4, h5⟩ := hM
  have hK := h1.1
  refine ⟨h.1, h.2.1, ?_, fun u u0 u1 hu => ?_, ?_⟩
  · have := h.2.2.2 0 (by omega) (by omega)
    rw [h2] at this; exact this
  · by_cases hm : mvs m K u
    · obtain ⟨i, i0, i1, i2⟩ := hm
      have hi : i ≠ 0 := fun e => hu (by rw [← i2, e, h2])
      have q1 := h.2.2.2 i i0 i1
      have q2 := h4 i (by omega) i1
      rw [i2] at q1 q2
      exact ⟨fun x => absurd x q1, fun x => absurd x q2⟩
    · rw [h.2.2.1 u u0 u1 hm]
  · have := mvd_le (b := b) (c := c) (w := m) (m := (K - 1).toNat) (fun i i0 i1 => h1.2.1 i (by omega) (by omega)) (fun i j i0 i1 i2 => h1.2.2 i j (by omega) i1 (by omega)) (fun u u0 u1 hu => by
      have hT := h.1.s.tra
      have eT := h.2.1.2.2.2.2.1
      refine Classical.byContradiction (fun hn => hu.2 (h.2.2.1 u u0 (by omega) (fun ⟨i, i0, i1, i2⟩ => hn ⟨i, ?_, by omega, i2⟩)))
      by_cases hi : i = 0
      · rw [hi, h2] at i2
        rw [← i2] at hu
        exact absurd h3 hu.1
      · omega)
    omega
theorem Cd_TM {b c : BX2} {nc mo K : Int} {m : Int → Int} (hb : V2 b) (hM : MvB b nc mo m K) (h : Cd b nc mo c) (hall : ∀ u, 0 ≤ u → u < pX2_traders b → Mv b c u → ∃ i : Int, 1 ≤ i ∧ i < K ∧ m i = u) : TM b m K c := by
  obtain ⟨h1, h2, h3, h4, h5⟩ := hM
  have hT := hb.s.tra
  refine ⟨h.1, h.2.1, fun u u0 u1 hu => ?_, fun i i0 i1 => ?_⟩
  · have hun : u ≠ nc := fun e => hu ⟨0, by omega, by have := h1.1; omega, by rw [h2, e]⟩
    by_cases hb1 : pX2_starts b u = -1
    · rw [hb1]; exact (h.2.2.2.1 u u0 u1 hun).2 hb1
    · refine Classical.byContradiction (fun hne => ?_)
      have hut : u < pX2_traders b := by
        rcases hb.w.st u u0 u1 with h | h
        · exact absurd h hb1
        · exact h.1
      obtain ⟨i, i0, i1, i2⟩ := hall u u0 hut ⟨hb1, hne⟩
      exact hu ⟨i, by omega, i1, i2⟩
  · by_cases hi : i = 0
    · rw [hi, h2]; exact h.2.2.1
    · have q := h4 i (by omega) i1
      have hr := h1.2.1 i i0 i1
      exact fun e => q ((h.2.2.2.1 (m i) hr.1 (by omega) (fun e2 => q (by rw [e2]; exact h3))).1 e)
