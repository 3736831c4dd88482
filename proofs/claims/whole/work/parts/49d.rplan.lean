/-! The reference's plans, whole. -/
theorem s_X6_plans_43 (n : Nat) (k24 : Int → Int → Int → Int → BX6 → Option (Int × BX6)) (k33 : Int → Int → Int → Int → Int → BX6 → Option (Int × BX6)) {c P S u h : Int} (hc5 : c ≤ 5) (hP : 0 ≤ P ∧ P ≤ 24) (hu : 0 ≤ u ∧ u < 256) (hh : 0 ≤ h ∧ h ≤ 8) :
    ∀ (fu : Nat) (l : Int) (r : BX6), 0 ≤ l → l ≤ c + 1 → 0 < fu → c + 1 - l < fu → ∃ r', g_X6_plans_43 n k24 k33 fu c P S u h l r = k33 c P S u (h + 1) r' ∧ Rb r r' ∧ (∀ l', l ≤ l' → l' ≤ c → pX6_best r' (rix P u h l') = 0) ∧ (∀ i, i < rix P u h l → pX6_best r' i = pX6_best r i) := by
  intro fu
  induction fu with
  | zero => intro l r _ _ h0; omega
  | succ fu ih =>
    intro l r l0 l1 _ hf
    rw [g_X6_plans_43.eq_2]
    by_cases hc : c < l
    · rw [if_pos hc, oR_ok (by omega) (by omega)]
      exact ⟨r, rfl, Rb.rfl' r, fun l' a b => by omega, fun i _ => rfl⟩
    · unfold g_X6_at
      rw [if_neg hc, oR_ok (by omega) (by omega), oB_some, qA_ok (by omega) (by omega) (by omega), oL_def, oR_ok (by omega) (by omega)]
      have hR : Rb r (sX6_best r (updZ (pX6_best r) (((P * 256 + u) * 9 + h) * 6 + l) 0)) := ⟨_, rfl⟩
      obtain ⟨r', g1, g2, g3, g4⟩ := ih (l + 1) (sX6_best r (updZ (pX6_best r) (((P * 256 + u) * 9 + h) * 6 + l) 0)) (by omega) (by omega) (by omega) (by omega)
      refine ⟨r', g1, hR.trans g2, ?_, ?_⟩
      · intro l' a b
        by_cases he : l' = l
        · rw [he, g4 _ (by unfold rix; omega), eX6_best_best]; exact updZ_at _ _ _
        · exact g3 l' (by omega) b
      · intro i hi
        rw [g4 i (by unfold rix at hi ⊢; omega), eX6_best_best, updZ_ne (by unfold rix at hi; omega)]
theorem s_X6_plans_33 (n : Nat) (hn : 100 ≤ n) (k24 : Int → Int → Int → Int → BX6 → Option (Int × BX6)) {c P S u : Int} (c0 : 0 ≤ c) (hc5 : c ≤ 5) (hP : 0 ≤ P ∧ P ≤ 24) (hu : 0 ≤ u ∧ u < 256) :
    ∀ (fu : Nat) (h : Int) (r : BX6), 0 ≤ h → h ≤ 9 → 0 < fu → 9 - h < fu → ∃ r', g_X6_plans_33 n k24 fu c P S u h r = k24 c P S (u + 1) r' ∧ Rb r r' ∧ (∀ h' l', h ≤ h' → h' ≤ 8 → 0 ≤ l' → l' ≤ c → pX6_best r' (rix P u h' l') = 0) ∧ (∀ i, i < rix P u h 0 → pX6_best r' i = pX6_best r i) := by
  intro fu
  induction fu with
  | zero => intro h r _ _ h0; omega
  | succ fu ih =>
    intro h r h0 h1 _ hf
    rw [g_X6_plans_33.eq_2]
    by_cases hc : 8 < h
    · rw [if_pos hc, oR_ok (by omega) (by omega)]
      exact ⟨r, rfl, Rb.rfl' r, fun h' l' a b => by omega, fun i _ => rfl⟩
    · rw [if_neg hc]
      obtain ⟨r1, g1, g2, g3, g4⟩ := s_X6_plans_43 n k24 (g_X6_plans_33 n k24 fu) (S := S) hc5 hP hu ⟨h0, by omega⟩ n 0 r (by omega) (by omega) (by omega) (by omega)
      obtain ⟨r', j1, j2, j3, j4⟩ := ih (h + 1) r1 (by omega) (by omega) (by omega) (by omega)
      refine ⟨r', by rw [g1, j1], g2.trans j2, ?_, ?_⟩
      · intro h' l' a b d e
        by_cases he : h' = h
        · rw [he, j4 _ (by unfold rix; omega)]; exact g3 l' d e
        · exact j3 h' l' (by omega) b d e
      · intro i hi
        rw [j4 i (by unfold rix at hi ⊢; omega), g4 i hi]
theorem s_X6_plans_24 (n : Nat) (hn : 100 ≤ n) {c P S : Int} (c0 : 0 ≤ c) (hc5 : c ≤ 5) (hP : 0 ≤ P ∧ P ≤ 24) (hS : S ≤ 256) :
    ∀ (fu : Nat) (u : Int) (r : BX6), 0 ≤ u → u ≤ S → 0 < fu → S - u < fu → ∃ r', g_X6_plans_24 n fu c P S u r = g_X6_plans_88 n n c S (P - 1) r' ∧ Rb r r' ∧ (∀ u' h l, u ≤ u' → u' < S → 0 ≤ h → h ≤ 8 → 0 ≤ l → l ≤ c → pX6_best r' (rix P u' h l) = 0) ∧ (∀ i, i < rix P u 0 0 → pX6_best r' i = pX6_best r i) := by
  intro fu
  induction fu with
  | zero => intro u r _ _ h0; omega
  | succ fu ih =>
    intro u r u0 u1 _ hf
    rw [g_X6_plans_24.eq_2]
    by_cases hc : S ≤ u
    · rw [if_pos hc, oR_ok (by omega) (by omega), oL_def]
      exact ⟨r, rfl, Rb.rfl' r, fun u' h l a b => by omega, fun i _ => rfl⟩
    · rw [if_neg hc]
      obtain ⟨r1, g1, g2, g3, g4⟩ := s_X6_plans_33 n hn (g_X6_plans_24 n fu) (S := S) c0 hc5 hP (u := u) ⟨u0, by omega⟩ n 0 r (by omega) (by omega) (by omega) (by omega)
      obtain ⟨r', j1, j2, j3, j4⟩ := ih (u + 1) r1 (by omega) (by omega) (by omega) (by omega)
      refine ⟨r', by rw [g1, j1], g2.trans j2, ?_, ?_⟩
      · intro u' h l a b d e f g
        by_cases he : u' = u
        · rw [he, j4 _ (by unfold rix; omega)]; exact g3 h l d e f g
        · exact j3 u' h l (by omega) b d e f g
      · intro i hi
        rw [j4 i (by unfold rix at hi ⊢; omega), g4 i hi]
theorem s_X6_plans {n : Nat} (hn : 1000 ≤ n) {b : BX2} {r : BX6} (hb : S2 b) (R : Rl b (pX6_a r)) {c : Int} (c0 : 0 ≤ c) (hc5 : c ≤ 5) :
    ∃ r', g_X6_plans n r c = some (opt b 0 0 0 c / 16, r') ∧ Fr6 r r' ∧ (∀ p', 0 ≤ p' → p' ≤ pX2_pitches b → BestOK b c r' p') ∧ (∀ t p, 0 ≤ t → t < pX2_traders b → 0 ≤ p → p < pX2_pitches b → Lk b r' t p) := by
  have ht := hb.tra
  have hp := hb.pit
  have sb := sets_b hb
  unfold g_X6_plans
  obtain ⟨r1, g1, g2, g3⟩ := s_X6_laysBlocks (n := n) (by omega) hb R
  have R1 : Rl b (pX6_a r1) := by rw [g2.1]; exact R
  rw [g1, oB_some, qA_ok (by omega) (by omega) (by omega), oL_def, qA_ok (by omega) (by omega) (by omega), oL_def, R1.pit, R1.tra]
  obtain ⟨r2, h1, h2, h3, _⟩ := s_X6_plans_24 n (by omega) (c := c) (P := pX2_pitches b) (S := zShl 1 (pX2_traders b)) c0 hc5 hp sb.2 n 0 r1 (by omega) (by omega) (by omega) (by omega)
  rw [h1]
  obtain ⟨r3, j1, j2, j3⟩ := s_X6_plans_88 n hn hb c0 hc5 n (pX2_pitches b - 1) r2 (by rw [h2.eqs.1]; exact R1) (fun t p t0 t1 p0 p1 => h2.lk (g3 t p t0 t1 p0 p1)) (fun p' a b' => by
    have : p' = pX2_pitches b := by omega
    subst this
    intro u h l d1 d2 k e1 e2
    have hbd := hOK_b hb k
    rw [h3 u h l d1 d2 hbd.1 hbd.2 e1 e2, opt_end (Int.le_refl _)]) (by omega) (by omega) (by omega)
  exact ⟨r3, j1, (g2.trans h2.fr).trans j2.fr, j3, fun t p t0 t1 p0 p1 => j2.lk (h2.lk (g3 t p t0 t1 p0 p1))⟩
/-! more covers than all need make no difference -/
noncomputable def leftN (b : BX2) (u : Int) : Int := zr (fun t => cif (zbit u t) 0 (sNeed b t)) 0 (pX2_traders b)
theorem leftN_or {b : BX2} (hb : S2 b) {u t : Int} (t0 : 0 ≤ t) (t1 : t < pX2_traders b) (h : ¬ zbit u t) : leftN b (zOr u (zShl 1 t)) = leftN b u - sNeed b t := by
  have ht := hb.tra
  unfold leftN
  have e : zr (fun i => cif (zbit (zOr u (zShl 1 t)) i) 0 (sNeed b i)) 0 (pX2_traders b) = zr (updZ (fun i => cif (zbit u i) 0 (sNeed b i)) t 0) 0 (pX2_traders b) := by
    apply zr_congr
    intro i i0 i1
    rw [updZ_app]
    show cif (zbit (zOr u (zShl 1 t)) i) 0 (sNeed b i) = _
    by_cases he : i = t
    · rw [if_pos he, cif_pos ((zbit_or t0 (by omega) i0 (by omega)).2 (.inr he))]
    · rw [if_neg he]
      refine cif_congr ?_
      rw [zbit_or t0 (by omega) i0 (by omega)]
      exact ⟨fun x => x.resolve_right he, .inl⟩
  rw [e, zr_upd t0 t1, cif_neg h]
  omega
theorem sNeed_ge {b : BX2} {t p : Int} (p0 : 0 ≤ p) (p1 : p < pX2_pitches b) (h : mPos b t p) : mFor b t p ≤ sNeed b t := by
  unfold sNeed
  have := zmx_ge' (fun p => cif (mPos b t p) (mFor b t p) 0) 0 (pX2_pitches b).toNat p p0 (by omega)
  simp only [cif_pos h] at this
  exact this
theorem leftN_nn {b : BX2} (hb : S2 b) (u : Int) : 0 ≤ leftN b u := by
  unfold leftN
  apply zr_nonneg
  intro i i0 i1
  have := sNeed_b hb i0 i1
  by_cases h : zbit u i
  · rw [cif_pos h]; omega
  · rw [cif_neg h]; omega
theorem opt_sat {b : BX2} (hb : S2 b) : ∀ (d : Nat) (p u z l m : Int), 0 ≤ p → pX2_pitches b - p ≤ d → leftN b u ≤ l → leftN b u ≤ m → opt b p u z l = opt b p u z m := by
  have ht := hb.tra
  intro d
  induction d with
  | zero => intro p u z l m p0 h _ _; rw [opt_end (by omega), opt_end (by omega)]
  | succ d ih =>
    intro p u z l m p0 h hl hm
    by_cases hc : pX2_pitches b ≤ p
    · rw [opt_end hc, opt_end hc]
    · rw [opt_step hb (p := p) (by omega) u z l, opt_step hb (p := p) (by omega) u z m]
      refine zmx_congr (ih (p + 1) u 0 l m (by omega) (by omega) hl hm) _ (fun t t0 t1 => ?_)
      have hf := hb.fr t0 (by omega)
      have hmf := mFor_b b t p (by omega)
      unfold cand
      by_cases hk : ¬ zbit u t ∧ mPos b t p ∧ ¬ zbit z t
      · have hsn := sNeed_ge p0 (by omega) hk.2.1
        have hor := leftN_or hb t0 (by omega) hk.1
        have hnn := leftN_nn hb (zOr u (zShl 1 t))
        rw [cif_pos ⟨hk.1, hk.2.1, hk.2.2, by omega⟩, cif_pos ⟨hk.1, hk.2.1, hk.2.2, by omega⟩, ih (p + pX2_fronts b t) (zOr u (zShl 1 t)) (mBehind b t p) (l - mFor b t p) (m - mFor b t p) (by omega) (by omega) (by omega) (by omega)]
      · rw [cif_neg (fun x => hk ⟨x.1, x.2.1, x.2.2.1⟩), cif_neg (fun x => hk ⟨x.1, x.2.1, x.2.2.1⟩)]
