/-! addTrader, setRent, undo. -/
theorem V2_enrol {b : BX2} (h : V2 b) {tr fr li ne : Int} (ht : pX2_traders b < 8) (h1 : 0 ≤ tr ∧ tr ≤ 7) (h2 : 1 ≤ fr ∧ fr ≤ 3) (h3 : 1 ≤ li ∧ li ≤ 9999) (h4 : ne = 0 ∨ ne = 1) : V2 (mEnrol b tr fr li ne) := by
  obtain ⟨hw, hy, hm, hv, hk, hcl⟩ := h
  have ht0 := hw.s.tra
  have hp := hw.s.pit
  refine ⟨W2_enrol hw ht h1 h2 h3 h4, hy, hm, ?_, hk, ?_⟩
  · intro t t0 t1 hst
    have t1 : t < pX2_traders b + 1 := t1
    have hst : pX2_starts b t ≠ -1 := hst
    have hlt : t < pX2_traders b := by
      cases hw.st t t0 (by omega) with
      | inl h => exact absurd h hst
      | inr h => exact h.1
    have h5 := hv t t0 hlt hst
    unfold mInRow mShare mRent at h5 ⊢
    show (0 ≤ pX2_starts b t ∧ pX2_starts b t ≤ pX2_starts b t + updZ (pX2_fronts b) (pX2_traders b) fr t - 1 ∧ pX2_starts b t + updZ (pX2_fronts b) (pX2_traders b) fr t - 1 < pX2_pitches b ∧ pX2_rows b (pX2_starts b t) = pX2_rows b (pX2_starts b t + updZ (pX2_fronts b) (pX2_traders b) fr t - 1)) ∧ zr (pX2_rents b) (pX2_starts b t) (min (pX2_starts b t + updZ (pX2_fronts b) (pX2_traders b) fr t) (pX2_pitches b)) ≤ updZ (pX2_limits b) (pX2_traders b) li t
    rw [updZ_ne (by omega), updZ_ne (by omega)]
    exact h5
  · intro p p0 p1 hr a1 a2 a3
    have p1 : p + 1 < pX2_pitches b := p1
    have hr : pX2_rows b p = pX2_rows b (p + 1) := hr
    have a1 : pX2_standing b p ≠ -1 := a1
    have a2 : pX2_standing b (p + 1) ≠ -1 := a2
    have a3 : pX2_standing b p ≠ pX2_standing b (p + 1) := a3
    have o1 := hw.std p p0 (by omega)
    have o2 := hw.std (p + 1) (by omega) (by omega)
    have h5 := hcl p p0 p1 hr a1 a2 a3
    unfold mClash at h5 ⊢
    show ¬ (pX2_standing b (p + 1) ≠ -1 ∧ zbit (pX2_clashes b (updZ (pX2_trades b) (pX2_traders b) tr (pX2_standing b p))) (updZ (pX2_trades b) (pX2_traders b) tr (pX2_standing b (p + 1))))
    rw [updZ_ne (by omega), updZ_ne (by omega)]
    exact h5
theorem op_addTrader {n : Nat} (hn : 1000 ≤ n) {x : BX5} {m : BX6} (I : Inv x m) (tr fr li ne : Int) (hne : ne = 0 ∨ ne = 1) : ∃ cd v x' w m', g_X5_addTrader n x tr fr li ne = some (cd, v, x') ∧ g_X6_addTrader n m tr fr li ne = some (w, m') ∧ ok2 2 3 cd v w (pX6_thrown m') ∧ Inv x' m' := by
  have ht := I.s.tra
  have hp := I.s.pit
  unfold g_X5_addTrader g_X5_addTrader_27 g_X6_addTrader g_X6_addTrader_37 g_X6_addTrader_58
  rw [g_noTrade, oB_some, g_out, oB_some, g_out, oB_some, s_X6_isIn, oB_some, s_X6_isIn, oB_some, s_X6_isIn, oB_some]
  by_cases h1 : 0 ≤ tr ∧ tr < 8
  · rw [zB_neg (fun h => h h1), if_pos rfl, zB_pos (by omega : 0 ≤ tr ∧ tr ≤ 7)]
    by_cases h2 : 1 ≤ fr ∧ fr ≤ 3
    · rw [zB_neg (fun h => h h2), if_pos rfl, zB_pos h2]
      by_cases h3 : 1 ≤ li ∧ li ≤ 9999
      · rw [zB_neg (fun h => h h3), if_pos rfl, zB_pos h3]
        by_cases h4 : pX2_traders (pX5_market x) < 8
        · have hk : g_X6_keeps n (sX6_thrown m 0) = some (kKeep (sX6_thrown m 0)) := s_X6_keeps hn _ (by rw [eX6_keptMany_thrown]; exact I.many.1) (by rw [eX6_keptMany_thrown]; exact I.many.2)
          have hv := V2_enrol I.v h4 (by omega : 0 ≤ tr ∧ tr ≤ 7) h2 h3 hne
          have e74 : pX2_traders (mEnrol (pX5_market x) tr fr li ne) = pX2_traders (pX5_market x) + 1 := rfl
          rw [if_pos h4, s_X0_remember (by omega) I.h.1 I.s, oB_some, s_X2_enrol I.s hne h4, oB_some, e74, oR_ok (by omega) (by omega)]
          rw [if_neg (by omega), if_neg (by omega), if_neg (by omega), qA_ok (by omega) (by omega) (by omega), I.r.tra, if_neg (by omega), if_pos (by omega), hk, oB_some, qA_ok (by omega) (by omega) (by omega), oL_def, (kKeep_t m 0).2.2.1, I.r.tra, qA_ok (by omega) (by omega) (by omega), oL_def, qA_ok (by omega) (by omega) (by omega), oL_def, qA_ok (by omega) (by omega) (by omega), oL_def]
          have fin : ∀ c : Int, c = ne → oR (99 + pX2_traders (pX5_market x)) (g_X6_addTrader_135 n (99 + pX2_traders (pX5_market x)) c (pX2_traders (pX5_market x)) (sX6_a (kKeep (sX6_thrown m 0)) (updZ (updZ (updZ (pX6_a m) (75 + pX2_traders (pX5_market x)) tr) (83 + pX2_traders (pX5_market x)) fr) (91 + pX2_traders (pX5_market x)) li))) = some (pX2_traders (pX5_market x), sX6_a (kKeep (sX6_thrown m 0)) (updZ (updZ (updZ (updZ (updZ (pX6_a m) (75 + pX2_traders (pX5_market x)) tr) (83 + pX2_traders (pX5_market x)) fr) (91 + pX2_traders (pX5_market x)) li) (99 + pX2_traders (pX5_market x)) ne) 74 (pX2_traders (pX5_market x) + 1))) := by
            intro c hc
            subst hc
            unfold g_X6_addTrader_135
            rw [oR_ok (by omega) (by omega), qA_ok (by omega) (by omega) (by omega), oL_def, qA_ok (by omega) (by omega) (by omega), qA_ok (by omega) (by omega) (by omega), eX6_a_a, updZ_ne (by omega), updZ_ne (by omega), updZ_ne (by omega), updZ_ne (by omega), I.r.tra, oR_ok (by omega) (by omega), oL_def, uX6_a]
          have hR : Rl (mEnrol (pX5_market x) tr fr li ne) (updZ (updZ (updZ (updZ (updZ (pX6_a m) (75 + pX2_traders (pX5_market x)) tr) (83 + pX2_traders (pX5_market x)) fr) (91 + pX2_traders (pX5_market x)) li) (99 + pX2_traders (pX5_market x)) ne) 74 (pX2_traders (pX5_market x) + 1)) := by
            obtain ⟨r1, r2, r3, r4, r5, r6, r7⟩ := I.r
            refine ⟨?_, ?_, ?_, ?_, ?_, ?_, ?_⟩
            · rw [updZ_ne (by omega), updZ_ne (by omega), updZ_ne (by omega), updZ_ne (by omega), updZ_ne (by omega)]; exact r1
            · rw [updZ_at]; rfl
            · rw [updZ_ne (by omega), updZ_ne (by omega), updZ_ne (by omega), updZ_ne (by omega), updZ_ne (by omega)]; exact r3
            · intro p p0 p1
              have p1 : p < pX2_pitches (pX5_market x) := p1
              have hz : ∀ k, k < 74 → updZ (updZ (updZ (updZ (updZ (pX6_a m) (75 + pX2_traders (pX5_market x)) tr) (83 + pX2_traders (pX5_market x)) fr) (91 + pX2_traders (pX5_market x)) li) (99 + pX2_traders (pX5_market x)) ne) 74 (pX2_traders (pX5_market x) + 1) k = pX6_a m k := fun k hk => by
                rw [updZ_ne (by omega), updZ_ne (by omega), updZ_ne (by omega), updZ_ne (by omega), updZ_ne (by omega)]
              rw [hz _ (by omega), hz _ (by omega), hz _ (by omega)]
              exact r4 p p0 p1
            · intro t t0 t1
              have t1 : t < pX2_traders (pX5_market x) + 1 := t1
              show _ = updZ (pX2_trades (pX5_market x)) (pX2_traders (pX5_market x)) tr t ∧ _ = updZ (pX2_fronts (pX5_market x)) (pX2_traders (pX5_market x)) fr t ∧ _ = updZ (pX2_limits (pX5_market x)) (pX2_traders (pX5_market x)) li t ∧ _ = updZ (pX2_needy (pX5_market x)) (pX2_traders (pX5_market x)) ne t
              by_cases he : t = pX2_traders (pX5_market x)
              · subst he
                rw [updZ_at, updZ_at, updZ_at, updZ_at]
                refine ⟨?_, ?_, ?_, ?_⟩
                · rw [updZ_ne (by omega), updZ_ne (by omega), updZ_ne (by omega), updZ_ne (by omega), updZ_at]
                · rw [updZ_ne (by omega), updZ_ne (by omega), updZ_ne (by omega), updZ_at]
                · rw [updZ_ne (by omega), updZ_ne (by omega), updZ_at]
                · rw [updZ_ne (by omega), updZ_at]
              · have hz : ∀ k, k ≠ 74 → k ≠ 75 + pX2_traders (pX5_market x) → k ≠ 83 + pX2_traders (pX5_market x) → k ≠ 91 + pX2_traders (pX5_market x) → k ≠ 99 + pX2_traders (pX5_market x) → updZ (updZ (updZ (updZ (updZ (pX6_a m) (75 + pX2_traders (pX5_market x)) tr) (83 + pX2_traders (pX5_market x)) fr) (91 + pX2_traders (pX5_market x)) li) (99 + pX2_traders (pX5_market x)) ne) 74 (pX2_traders (pX5_market x) + 1) k = pX6_a m k := fun k h1 h2 h3 h4 h5 => by
                  rw [updZ_ne h1, updZ_ne h5, updZ_ne h4, updZ_ne h3, updZ_ne h2]
                rw [hz _ (by omega) (by omega) (by omega) (by omega) (by omega), hz _ (by omega) (by omega) (by omega) (by omega) (by omega), hz _ (by omega) (by omega) (by omega) (by omega) (by omega), hz _ (by omega) (by omega) (by omega) (by omega) (by omega), updZ_ne he, updZ_ne he, updZ_ne he, updZ_ne he]
                exact r5 t t0 (by omega)
            · intro t t0 t1
              rw [updZ_ne (by omega), updZ_ne (by omega), updZ_ne (by omega), updZ_ne (by omega), updZ_ne (by omega)]; exact r6 t t0 t1
            · intro i j i0 i1 j0 j1
              rw [updZ_ne (by omega), updZ_ne (by omega), updZ_ne (by omega), updZ_ne (by omega), updZ_ne (by omega)]; exact r7 i j i0 i1 j0 j1
          have hv2 : pX2_traders (pX5_market x) + 1 - 1 = pX2_traders (pX5_market x) := by omega
          rcases hne with h0 | h0
          · rw [if_pos h0, fin 0 h0.symm]
            exact ⟨_, _, _, _, _, rfl, rfl, .inl ⟨rfl, th_a _ _, hv2⟩, Inv_mv0 I ⟨hv, hR⟩⟩
          · rw [if_neg (by omega), fin 1 h0.symm]
            exact ⟨_, _, _, _, _, rfl, rfl, .inl ⟨rfl, th_a _ _, hv2⟩, Inv_mv0 I ⟨hv, hR⟩⟩
        · rw [if_neg h4, if_neg (by omega), if_neg (by omega), if_neg (by omega), qA_ok (by omega) (by omega) (by omega), I.r.tra, if_pos (by omega), if_neg (by omega)]
          exact ⟨_, _, _, _, _, rfl, rfl, .inr (.inr ⟨rfl, eX6_thrown_thrown _ _⟩), Inv_t I 2⟩
      · rw [zB_pos h3, if_neg (by omega), if_neg (by omega), if_neg (by omega), zB_neg h3, if_pos rfl, if_neg (by omega)]
        exact ⟨_, _, _, _, _, rfl, rfl, .inr (.inl ⟨rfl, eX6_thrown_thrown _ _⟩), Inv_t I 1⟩
    · rw [zB_pos h2, if_neg (by omega), if_neg (by omega), zB_neg h2, if_pos rfl, if_neg (by omega)]
      exact ⟨_, _, _, _, _, rfl, rfl, .inr (.inl ⟨rfl, eX6_thrown_thrown _ _⟩), Inv_t I 1⟩
  · rw [zB_pos h1, if_neg (by omega), zB_neg (by omega), if_pos rfl, if_neg (by omega)]
    exact ⟨_, _, _, _, _, rfl, rfl, .inr (.inl ⟨rfl, eX6_thrown_thrown _ _⟩), Inv_t I 1⟩
/-! setRent -/
theorem W2_rents {b : BX2} (h : W2 b) {p v : Int} (p0 : 0 ≤ p) (p1 : p < pX2_pitches b) (v0 : 1 ≤ v) (v1 : v ≤ 999) : W2 (sX2_rents b (updZ (pX2_rents b) p v)) := by
  obtain ⟨hs, hq⟩ := h
  have hp := hs.pit
  obtain ⟨a1, a2, a3, a4, a5, a6, a7, a8, b1, b2, b3, b4, b5, b6, b7, b8, b9, b10⟩ := hs
  refine ⟨⟨a1, a2, a3, ?_, a5, a6, a7, a8, b1, nz_upd b2 p0 (by omega), b3, b4, b5, b6, b7, b8, b9, b10⟩, Q2_of hq rfl rfl (fun _ _ _ => rfl) rfl rfl rfl (fun _ _ _ => rfl)⟩
  intro q q0 q1
  show 1 ≤ updZ (pX2_rents b) p v q ∧ updZ (pX2_rents b) p v q ≤ 999
  rw [updZ_app]; split
  · exact ⟨v0, v1⟩
  · exact a4 q q0 q1
theorem Rl_rents {b : BX2} {a : Int → Int} (R : Rl b a) (hb : S2 b) {p : Int} (v : Int) (p0 : 0 ≤ p) (p1 : p < pX2_pitches b) : Rl (sX2_rents b (updZ (pX2_rents b) p v)) (updZ a (2 + p) v) := by
  have ht := hb.tra
  have hp := hb.pit
  obtain ⟨r1, r2, r3, r4, r5, r6, r7⟩ := R
  refine ⟨?_, ?_, ?_, ?_, ?_, ?_, ?_⟩
  · rw [updZ_ne (by omega)]; exact r1
  · rw [updZ_ne (by omega)]; exact r2
  · rw [updZ_ne (by omega)]; exact r3
  · intro q q0 q1
    have q1 : q < pX2_pitches b := q1
    rw [updZ_ne (j := 26 + q) (by omega), updZ_ne (j := 50 + q) (by omega)]
    refine ⟨?_, (r4 q q0 q1).2⟩
    show updZ a (2 + p) v (2 + q) = updZ (pX2_rents b) p v q
    by_cases h : q = p
    · rw [h, updZ_at, updZ_at]
    · rw [updZ_ne (by omega), updZ_ne h]; exact (r4 q q0 q1).1
  · intro t t0 t1; have t1 : t < pX2_traders b := t1; rw [updZ_ne (by omega), updZ_ne (by omega), updZ_ne (by omega), updZ_ne (by omega)]; exact r5 t t0 t1
  · intro t t0 t1; rw [updZ_ne (by omega)]; exact r6 t t0 t1
  · intro i j i0 i1 j0 j1; rw [updZ_ne (by omega)]; exact r7 i j i0 i1 j0 j1
/-! the block of another trader keeps its rent -/
theorem mRent_rents {b : BX2} {p v t s : Int} (h : ¬ (s ≤ p ∧ p < s + pX2_fronts b t)) : mRent (sX2_rents b (updZ (pX2_rents b) p v)) t s = mRent b t s := by
  show zr (updZ (pX2_rents b) p v) s (min (s + pX2_fronts b t) (pX2_pitches b)) = zr (pX2_rents b) s (min (s + pX2_fronts b t) (pX2_pitches b))
  apply zr_congr
  intro i i0 i1
  rw [updZ_ne]
  omega
theorem V2_rents {b : BX2} (h : V2 b) {p v : Int} (p0 : 0 ≤ p) (p1 : p < pX2_pitches b) (v0 : 1 ≤ v) (v1 : v ≤ 999) (hr : pX2_standing b p = -1 ∨ mRent (sX2_rents b (updZ (pX2_rents b) p v)) (pX2_standing b p) (pX2_starts b (pX2_standing b p)) ≤ pX2_limits b (pX2_standing b p)) : V2 (sX2_rents b (updZ (pX2_rents b) p v)) := by
  obtain ⟨hw, hy, hm, hv, hk, hcl⟩ := h
  refine ⟨W2_rents hw p0 p1 v0 v1, hy, hm, ?_, hk, hcl⟩
  intro t t0 t1 ht
  have t1 : t < pX2_traders b := t1
  have ht : pX2_starts b t ≠ -1 := ht
  obtain ⟨c1, c2⟩ := hv t t0 t1 ht
  refine ⟨c1, ?_⟩
  show mRent (sX2_rents b (updZ (pX2_rents b) p v)) t (pX2_starts b t) ≤ pX2_limits b t
  by_cases hin : pX2_starts b t ≤ p ∧ p < pX2_starts b t + pX2_fronts b t
  · have e := hw.lie t p t0 t1 ht hin.1 hin.2
    rw [e] at hr
    rcases hr with h | h
    · omega
    · exact h
  · rw [mRent_rents hin]; exact c2
theorem op_setRent {n : Nat} (hn : 1000 ≤ n) {x : BX5} {m : BX6} (I : Inv x m) (p v : Int) : ∃ cd r x' w m', g_X5_setRent n x p v = some (cd, r, x') ∧ g_X6_setRent n m p v = some (w, m') ∧ ok2 1 2 cd r w (pX6_thrown m') ∧ Inv x' m' := by
  have ht := I.s.tra
  have hp := I.s.pit
  unfold g_X5_setRent g_X6_setRent g_X6_setRent_30
  rw [g_reqP, oB_some, g_out, oB_some, s_X6_isPitch I.s I.r, oB_some, s_X6_isIn, oB_some]
  by_cases h1 : 0 ≤ p ∧ p < pX2_pitches (pX5_market x)
  · rw [if_pos h1, if_pos rfl, zB_pos h1]
    by_cases h2 : 1 ≤ v ∧ v ≤ 999
    · have hk : g_X6_keeps n (sX6_thrown m 0) = some (kKeep (sX6_thrown m 0)) := s_X6_keeps hn _ (by rw [eX6_keptMany_thrown]; exact I.many.1) (by rw [eX6_keptMany_thrown]; exact I.many.2)
      have hw := W2_rents I.w h1.1 h1.2 h2.1 h2.2
      have hR := Rl_rents I.r I.s v h1.1 h1.2
      have hR' : Rl (sX2_rents (pX5_market x) (updZ (pX2_rents (pX5_market x)) p v)) (pX6_a (sX6_a (kKeep (sX6_thrown m 0)) (updZ (pX6_a m) (2 + p) v))) := by rw [eX6_a_a]; exact hR
      have eon : pX2_standing (sX2_rents (pX5_market x) (updZ (pX2_rents (pX5_market x)) p v)) = pX2_standing (pX5_market x) := eX2_standing_rents _ _
      rw [zB_neg (fun h => h h2), if_pos rfl, zB_pos h2, s_X0_remember (by omega) I.h.1 I.s, oB_some, qA_ok (by omega) (by omega) (by omega), oL_def, qA_ok (by omega) (by omega) (by omega), oL_def]
      rw [hk, oB_some, qA_ok (e := 2 + p) (by omega) (by omega) (by omega), oL_def, (kKeep_t m 0).2.2.1, s_X6_on (by omega) hw hR' h1.1 (by omega), oB_some, eon]
      by_cases h3 : pX2_standing (pX5_market x) p = -1
      · rw [if_pos h3, if_neg (by omega), if_neg (by omega), if_pos (by omega), if_pos h3]
        exact ⟨_, _, _, _, _, rfl, rfl, .inl ⟨rfl, th_a _ _, rfl⟩, Inv_mv0 I ⟨V2_rents I.v h1.1 h1.2 h2.1 h2.2 (.inl h3), hR⟩⟩
      · have o := I.w.std p h1.1 (by omega)
        have o2 : 0 ≤ pX2_starts (pX5_market x) (pX2_standing (pX5_market x) p) ∧ pX2_starts (pX5_market x) (pX2_standing (pX5_market x) p) + pX2_fronts (pX5_market x) (pX2_standing (pX5_market x) p) ≤ pX2_pitches (pX5_market x) := by
          cases I.w.on p h1.1 (by omega) with
          | inl h => exact absurd h h3
          | inr h =>
            cases I.w.st _ h.1 (by omega) with
            | inl k => exact absurd k h.2.2.1
            | inr k => exact k.2
        have o3 := I.s.fr (t := pX2_standing (pX5_market x) p) (by omega) (by omega)
        rw [if_neg h3, qA_ok (by omega) (by omega) (by omega), s_X2_affords (by omega) hw.s (by omega) (by show _ < pX2_traders (pX5_market x); omega) o2.1 (by omega), oB_some]
        rw [if_neg (c := (1 : Int) = 0) (by omega), if_neg (c := (1 : Int) = 0) (by omega), if_pos (c := (0 : Int) ≤ 0) (by omega), if_neg h3, qA_ok (e := 107 + pX2_standing (pX5_market x) p) (by omega) (by omega) (by omega)]
        have est : updZ (pX6_a m) (2 + p) v (107 + pX2_standing (pX5_market x) p) = pX2_starts (pX5_market x) (pX2_standing (pX5_market x) p) := by
          rw [updZ_ne (by omega)]; exact I.r.st (by omega) (by omega)
        have eli : updZ (pX6_a m) (2 + p) v (91 + pX2_standing (pX5_market x) p) = pX2_limits (pX5_market x) (pX2_standing (pX5_market x) p) := by
          rw [updZ_ne (by omega)]; exact I.r.lim (by omega) (by omega)
        rw [est, s_X6_rentOf (by omega) hw.s hR' (by omega) (by show _ < pX2_traders (pX5_market x); omega) o2.1 o2.2, oB_some, qA_ok (e := 91 + pX2_standing (pX5_market x) p) (by omega) (by omega) (by omega), eli]
        have el : pX2_limits (sX2_rents (pX5_market x) (updZ (pX2_rents (pX5_market x)) p v)) = pX2_limits (pX5_market x) := eX2_limits_rents _ _
        rw [el]
        by_cases h4 : mRent (sX2_rents (pX5_market x) (updZ (pX2_rents (pX5_market x)) p v)) (pX2_standing (pX5_market x) p) (pX2_starts (pX5_market x) (pX2_standing (pX5_market x) p)) ≤ pX2_limits (pX5_market x) (pX2_standing (pX5_market x) p)
        · rw [zB_pos h4, if_neg (by omega), if_neg (by omega)]
          exact ⟨_, _, _, _, _, rfl, rfl, .inl ⟨rfl, th_a _ _, rfl⟩, Inv_mv0 I ⟨V2_rents I.v h1.1 h1.2 h2.1 h2.2 (.inr h4), hR⟩⟩
        · rw [zB_neg h4, if_pos rfl, s_X2_unseat (by omega) hw (by omega) (by omega), oB_some, if_pos (by omega), qA_ok (by omega) (by omega) (by omega), oL_def]
          refine ⟨_, _, _, _, _, rfl, rfl, .inl ⟨rfl, th_a _ _, rfl⟩, Inv_mv0 I ⟨?_, Rl_unseat hR hw.s (by omega) (by omega)⟩⟩
          obtain ⟨_, hy, hm, hv, hkk, hcl⟩ := I.v
          have hU := V2_unseat I.v (t := pX2_standing (pX5_market x) p) (by omega) (by omega)
          have hW := W2_unseat hw (t := pX2_standing (pX5_market x) p) (by omega) (by omega)
          have hs := mUnseat_same (sX2_rents (pX5_market x) (updZ (pX2_rents (pX5_market x)) p v)) (pX2_standing (pX5_market x) p)
          have hb := mUnseat_busy hw (t := pX2_standing (pX5_market x) p) (by omega) (by omega)
          have hbq : pX2_coversBusy (sX2_rents (pX5_market x) (updZ (pX2_rents (pX5_market x)) p v)) = pX2_coversBusy (pX5_market x) := eX2_coversBusy_rents _ _
          have hon := mUnseat_on hw (t := pX2_standing (pX5_market x) p) (by omega) (by omega)
          rw [eon] at hon
          refine ⟨hW, hs.sy.2 hy, ?_, ?_, ?_, ?_⟩
          · rw [hs.1, hs.2.1]; exact hm
          · intro t t0 t1 htt
            rw [hs.2.2.2.2.1] at t1
            have t1 : t < pX2_traders (pX5_market x) := t1
            rw [mUnseat_st (.inr trivial)] at htt ⊢
            have hst : pX2_starts (sX2_rents (pX5_market x) (updZ (pX2_rents (pX5_market x)) p v)) = pX2_starts (pX5_market x) := eX2_starts_rents _ _
            rw [hst] at htt ⊢
            have hne : t ≠ pX2_standing (pX5_market x) p := by intro he; rw [he, updZ_at] at htt; exact htt rfl
            rw [updZ_ne hne] at htt ⊢
            rw [hs.inRow, hs.rent, hs.2.2.2.2.2.2.2.1, el]
            obtain ⟨c1, c2⟩ := hv t t0 t1 htt
            refine ⟨c1, ?_⟩
            rw [mRent_rents]
            · exact c2
            · intro hin
              exact hne (I.w.lie t p t0 t1 htt hin.1 hin.2).symm
          · rw [hs.2.2.2.2.2.2.2.2.2.2]
            have : pX2_covers (sX2_rents (pX5_market x) (updZ (pX2_rents (pX5_market x)) p v)) = pX2_covers (pX5_market x) := eX2_covers_rents _ _
            omega
          · intro q q0 q1 hr a1 a2 a3
            rw [hs.1] at q1
            rw [hs.2.1] at hr
            rw [hs.clash]
            rcases hon q with e | e
            · rcases hon (q + 1) with f | f
              · rw [e] at a1 a3 ⊢
                rw [f] at a2 a3 ⊢
                exact hcl q q0 q1 hr a1 a2 a3
              · exact absurd f a2
            · exact absurd e a1
    · rw [zB_pos h2, if_neg (by omega), if_neg (by omega), zB_neg h2, if_pos rfl, if_neg (by omega)]
      exact ⟨_, _, _, _, _, rfl, rfl, .inr (.inr ⟨rfl, eX6_thrown_thrown _ _⟩), Inv_t I 2⟩
  · rw [if_neg h1, if_neg (by omega), zB_neg h1, if_pos rfl, if_neg (by omega)]
    exact ⟨_, _, _, _, _, rfl, rfl, .inr (.inl ⟨rfl, eX6_thrown_thrown _ _⟩), Inv_t I 1⟩
theorem op_undo {n : Nat} (hn : 1000 ≤ n) {x : BX5} {m : BX6} (I : Inv x m) : ∃ cd v x' w m', g_X5_undo n x = some (cd, v, x') ∧ g_X6_undo n m = some (w, m') ∧ ok1 3 cd v w (pX6_thrown m') ∧ Inv x' m' := by
  have hc := I.h.2.1
  have hS := I.h.1
  unfold g_X5_undo
  rw [s_X6_undo hn m I.many.1 I.many.2, hc]
  by_cases h0 : pX0_count (pX5_history x) = 0
  · rw [if_pos h0, if_pos h0]
    exact ⟨_, _, _, _, _, rfl, rfl, .inr ⟨rfl, eX6_thrown_thrown _ _⟩, Inv_t I 1⟩
  · have hpos : 0 < pX0_count (pX5_history x) := by have := hS.2.2; omega
    rw [if_neg h0, if_neg h0, s_X0_takeBack (by omega) hS I.s hpos, oB2_some]
    obtain ⟨M, H⟩ := HR_back I.h hpos
    refine ⟨_, _, _, _, _, rfl, rfl, .inl ⟨rfl, ?_, rfl⟩, ?_⟩
    · rw [eX6_thrown_a, eX6_thrown_thrown]
    · refine ⟨?_, ?_, ?_, ?_, ?_, ?_, ?_⟩
      · rw [eX5_market_planned, eX5_market_history, eX5_market_market, eX6_a_a]
        refine MR_congr M (fun i i0 i1 => ?_)
        unfold kTake
        rw [if_pos ⟨i0, i1⟩, hc]
      · rw [eX5_history_planned, eX5_history_history, eX6_kept_a, eX6_kept_thrown, eX6_kept_keptMany, eX6_keptMany_a, eX6_keptMany_thrown, eX6_keptMany_keptMany, ← hc]
        exact H
      · rw [eX5_draft_planned, eX5_draft_history, eX5_draft_market]; exact I.2.2.1
      · unfold TX
        rw [eX5_text_planned, eX5_text_history, eX5_text_market, eX5_textLength_planned, eX5_textLength_history, eX5_textLength_market, eX6_buffer_a, eX6_buffer_thrown, eX6_buffer_keptMany, eX6_buffered_a, eX6_buffered_thrown, eX6_buffered_keptMany]
        exact I.2.2.2.1
      · rw [eX5_errorAt_planned, eX5_errorAt_history, eX5_errorAt_market, eX6_errorAt_a, eX6_errorAt_thrown, eX6_errorAt_keptMany]; exact I.2.2.2.2.1
      · refine PX_0 I.2.2.2.2.2.1 ?_ ?_ ?_
        · rw [eX5_planner_planned, eX5_planner_history, eX5_planner_market]
        · rw [eX5_trialPlanner_planned, eX5_trialPlanner_history, eX5_trialPlanner_market]
        · rw [eX5_planned_planned]
      · refine IX_same I.2.2.2.2.2.2 ?_
        rw [eX5_insertion_planned, eX5_insertion_history, eX5_insertion_market]
