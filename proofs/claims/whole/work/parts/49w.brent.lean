/-! The reference's best rent, and both alike. -/
noncomputable def Iv (b : BX2) (x u : Int) : Int := opt (bv b x u) 0 0 0 (pX2_covers b) / 16
def KI (b : BX2) (x : Int) (e : Int → Int) (m told v : Int) : Prop := (∀ u, 1 ≤ u → u < v → e u ≠ 0 → (Iv b x u ≤ m ∧ (Iv b x u = m → told ≤ u))) ∧ (-1 ≤ m ∧ m ≤ 100000) ∧ (m = -1 ∨ (1 ≤ told ∧ told < v ∧ e told ≠ 0 ∧ m = Iv b x told))
theorem upd_upd (a : Int → Int) (k c d : Int) : updZ (updZ a k c) k d = updZ a k d := by
  funext i; rw [updZ_app, updZ_app, updZ_app]; split <;> rfl
theorem upd_id (a : Int → Int) (k : Int) : updZ a k (a k) = a := by
  funext i; rw [updZ_app]; split
  · rename_i h; rw [h]
  · rfl
def FB (x : Int) (r r' : BX6) : Prop := (∃ c, pX6_a r' = updZ (pX6_a r) (2 + x) c) ∧ pX6_isEdge r' = pX6_isEdge r ∧ pX6_kept r' = pX6_kept r ∧ pX6_keptMany r' = pX6_keptMany r ∧ pX6_buffer r' = pX6_buffer r ∧ pX6_buffered r' = pX6_buffered r ∧ pX6_errorAt r' = pX6_errorAt r ∧ pX6_thrown r' = pX6_thrown r
theorem s_br48 (n : Nat) (hn : 2000 ≤ n) {b : BX2} {r0 : BX6} (hb : W2 b) (R : Rl b (pX6_a r0)) {x : Int} (x0 : 0 ≤ x) (x1 : x < pX2_pitches b) :
    ∀ (fu : Nat) (v m told : Int) (r : BX6), 1 ≤ v → v ≤ 1000 → 1000 - v < fu → FB x r0 r → KI b x (pX6_isEdge r0) m told v → ∃ m' told' r', g_X6_bestRent_48 n fu x (pX6_a r0 (2 + x)) m told v r = some (told', r') ∧ Fr6 r0 r' ∧ KI b x (pX6_isEdge r0) m' told' 1000 := by
  have hP := hb.s.pit
  have hcv := hb.s.cov
  intro fu
  induction fu with
  | zero => intro v m told r h0 h1 h2; omega
  | succ fu ih =>
    intro v m told r v0 v1 h2 F K
    obtain ⟨⟨c, f1⟩, f2, f3, f4, f5, f6, f7, f8⟩ := F
    rw [g_X6_bestRent_48.eq_2]
    unfold g_X6_bestRent_109
    by_cases hc : 1000 ≤ v
    · rw [if_pos hc, qA_ok (by omega) (by omega) (by omega), oL_def, f1, upd_upd, upd_id]
      refine ⟨m, told, _, rfl, ?_, ?_⟩
      · exact ⟨eX6_a_a _ _, by rw [eX6_kept_a, f3], by rw [eX6_keptMany_a, f4], by rw [eX6_buffer_a, f5], by rw [eX6_buffered_a, f6], by rw [eX6_errorAt_a, f7], by rw [eX6_thrown_a, f8]⟩
      · rw [show (1000 : Int) = v by omega]; exact K
    · obtain ⟨k1, k2, k3⟩ := K
      rw [if_neg hc, qA_ok (by omega) (by omega) (by omega), f2]
      by_cases he : pX6_isEdge r0 v = 0
      · rw [if_pos he, oR_ok (by omega) (by omega)]
        refine ih (v + 1) m told r (by omega) (by omega) (by omega) ⟨⟨c, f1⟩, f2, f3, f4, f5, f6, f7, f8⟩ ⟨fun u u0 u1 hu => ?_, k2, ?_⟩
        · by_cases e : u = v
          · rw [e] at hu; exact absurd he hu
          · exact k1 u u0 (by omega) hu
        · rcases k3 with k3 | ⟨k3, k4, k5⟩
          · exact .inl k3
          · exact .inr ⟨k3, by omega, k5⟩
      · have Rv : Rl (bv b x v) (updZ (pX6_a r0) (2 + x) v) := Rl_rents R hb.s v x0 x1
        have hv : S2 (bv b x v) := (W2_rents hb x0 x1 v0 (by omega)).s
        obtain ⟨r', p1, p2, p3, p4⟩ := s8_plans (n := n) (by omega) hv (r := sX6_a r (updZ (pX6_a r0) (2 + x) v)) (by rw [eX6_a_a]; exact Rv) (c := pX2_covers b) hcv.1 (by omega)
        have p1 : g_X6_plans n (sX6_a r (updZ (pX6_a r0) (2 + x) v)) (pX2_covers b) = some (Iv b x v, r') := p1
        have e179 : updZ (pX6_a r0) (2 + x) v 179 = pX2_covers b := Rv.cov
        have hI : 0 ≤ Iv b x v ∧ Iv b x v ≤ 100000 := by
          have := opt_r hv (p := 0) 0 0 (pX2_covers b) (by omega)
          unfold Iv; omega
        have F' : FB x r0 r' := by
          obtain ⟨g1, g2, g3, g4, g5, g6, g7, g8⟩ := p2
          refine ⟨⟨v, by rw [g1, eX6_a_a]⟩, by rw [g2, eX6_isEdge_a, f2], by rw [g3, eX6_kept_a, f3], by rw [g4, eX6_keptMany_a, f4], by rw [g5, eX6_buffer_a, f5], by rw [g6, eX6_buffered_a, f6], by rw [g7, eX6_errorAt_a, f7], by rw [g8, eX6_thrown_a, f8]⟩
        rw [if_neg he, qA_ok (by omega) (by omega) (by omega), oL_def, f1, upd_upd, qA_ok (by omega) (by omega) (by omega), e179, p1, oB2_some]
        by_cases hlt : m < Iv b x v
        · rw [if_pos hlt, oR_ok (by omega) (by omega)]
          refine ih (v + 1) _ v r' (by omega) (by omega) (by omega) F' ⟨fun u u0 u1 hu => ?_, by omega, .inr ⟨v0, by omega, he, rfl⟩⟩
          by_cases e : u = v
          · rw [e]; exact ⟨Int.le_refl _, fun _ => Int.le_refl _⟩
          · have := k1 u u0 (by omega) hu
            omega
        · rw [if_neg hlt, oR_ok (by omega) (by omega)]
          refine ih (v + 1) m told r' (by omega) (by omega) (by omega) F' ⟨fun u u0 u1 hu => ?_, k2, ?_⟩
          · by_cases e : u = v
            · rw [e]; exact ⟨by omega, fun _ => by omega⟩
            · exact k1 u u0 (by omega) hu
          · rcases k3 with k3 | ⟨k3, k4, k5⟩
            · exact .inl k3
            · exact .inr ⟨k3, by omega, k5⟩
theorem rent_eq {b : BX2} (hb : W2 b) (hy : Sy b) {x F m a m' told : Int} {e : Int → Int} (x0 : 0 ≤ x) (x1 : x < pX2_pitches b) (hF : IsW b x 0 (x + 1) 0 (-1) (pX2_covers b) F) (D : DI b x F m a (pX2_traders b) (-100)) (hW : ∀ t s, OkC b x t s → ∃ W, WOf b t s W) (he : ∀ v, 0 ≤ v → v < 1000 → (e v ≠ 0 ↔ (v = 1 ∨ ∃ t s, EdgeC b x t s ∧ v = cap b x t s))) (K : KI b x e m' told 1000) : a = told := by
  obtain ⟨d1, d2, d3, d4, d5, d6⟩ := D
  obtain ⟨k1, k2, k3⟩ := K
  have hrx := hb.s.rent x x0 x1
  have h1 : ∀ v, 1 ≤ v → v ≤ 999 → F / 16 ≤ Iv b x v := by
    intro v v0 v1
    have := optv_F hb hy x0 x1 v0 v1 hF
    unfold Iv; omega
  have h2 : ∀ v t s W, 1 ≤ v → v ≤ 999 → OkC b x t s → WOf b t s W → v ≤ cap b x t s → W / 16 + oth b x t s + v ≤ Iv b x v := by
    intro v t s W v0 v1 hO hWo hvc
    have hl := mInRow_lt hO.2.1
    have hr := bv_rent_in (b := b) (x := x) (v := v) (t := t) (s := s) hO.2.2.1.1 hO.2.2.1.2 hl.2.2
    have ec : cap b x t s = min (pX2_limits b t - (mRent b t s - pX2_rents b x)) 999 := rfl
    have eo : oth b x t s = mRent b t s - pX2_rents b x := rfl
    have := optv_W hb hy x0 x1 v0 v1 hO.1.1 hO.1.2 hO.2.1 hO.2.2.1.1 hO.2.2.1.2 (by omega) hWo
    unfold Iv; omega
  have h3 : ∀ v, 1 ≤ v → v ≤ 999 → Iv b x v ≤ F / 16 ∨ ∃ t s W, OkC b x t s ∧ WOf b t s W ∧ v ≤ cap b x t s ∧ Iv b x v ≤ W / 16 + oth b x t s + v := by
    intro v v0 v1
    rcases optv_le hb hy x0 x1 v0 v1 hF with h | ⟨t, s, q1, q2, q3, q4, q5, q6⟩
    · left; unfold Iv; omega
    · right
      have hl := mInRow_lt q2
      have hr := bv_rent_in (b := b) (x := x) (v := v) (t := t) (s := s) q3.1 q3.2 hl.2.2
      have ec : cap b x t s = min (pX2_limits b t - (mRent b t s - pX2_rents b x)) 999 := rfl
      have eo : oth b x t s = mRent b t s - pX2_rents b x := rfl
      have hO : OkC b x t s := ⟨q1, q2, q3, q5, by omega⟩
      obtain ⟨W, hWo⟩ := hW t s hO
      have h16 := IsW_16 hb.s hWo
      have h6 := q6 W hWo
      refine ⟨t, s, W, hO, hWo, by omega, ?_⟩
      unfold Iv; omega
  have hall : ∀ t s W, OkC b x t s → WOf b t s W → (W / 16 + oth b x t s + cap b x t s ≤ m ∧ (W / 16 + oth b x t s + cap b x t s = m → a ≤ cap b x t s)) := fun t s W q1 q2 => d6 t s W q1 q2 (.inl q1.1.2)
  have e1 : e 1 ≠ 0 := (he 1 (by omega) (by omega)).2 (.inl rfl)
  have hm' : m' ≠ -1 := by
    have q1 := (k1 1 (by omega) (by omega) e1).1
    have q2 := (opt_r (W2_rents hb x0 x1 (v := 1) (by omega) (by omega)).s (p := 0) 0 0 (pX2_covers b) (by omega)).1
    have q2 : 0 ≤ opt (bv b x 1) 0 0 0 (pX2_covers b) := q2
    unfold Iv at q1; omega
  rcases k3 with k3 | ⟨t0, t1, t2, t3⟩
  · exact absurd k3 hm'
  have hcap : ∀ t s, cap b x t s ≤ 999 := fun t s => by unfold cap; omega
  have ha : e a ≠ 0 ∧ m ≤ Iv b x a := by
    rcases d5 with d5 | ⟨t, s, W, q1, q2, q3, q4⟩
    · have := d4 d5.symm
      rw [this]
      exact ⟨e1, by rw [d5]; exact h1 1 (by omega) (by omega)⟩
    · refine ⟨(he a (by omega) (by omega)).2 (.inr ⟨t, s, ⟨q1.1, q1.2.1, q1.2.2.1, q1.2.2.2.2⟩, q3⟩), ?_⟩
      have := h2 a t s W (by omega) (by omega) q1 q2 (by omega)
      omega
  have hka := k1 a (by omega) (by omega) ha.1
  have hN : m' ≤ m := by
    rcases h3 told t0 (by omega) with h | ⟨t, s, W, q1, q2, q3, q4⟩
    · omega
    · have := (hall t s W q1 q2).1
      omega
  have hle1 : told ≤ a := hka.2 (by omega)
  have hle2 : a ≤ told := by
    rcases h3 told t0 (by omega) with h | ⟨t, s, W, q1, q2, q3, q4⟩
    · have := d4 (by omega)
      omega
    · have h5 := hall t s W q1 q2
      have h6 := h5.2 (by omega)
      omega
  omega
