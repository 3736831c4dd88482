/-! optimise: the two loops in lockstep. -/
theorem lock_end {n : Nat} (hn : 100 ≤ n) {q : BX3} {r0 : BX6} {fu fv : Nat} {p u k lv h l e : Int} {c : BX2} {a : Int → Int} (fu0 : 0 < fu) (fv0 : 0 < fv) (hp : pX2_pitches (pX3_street q) ≤ p) (O : OI (pX3_street q) q c a p u k lv h l) :
    ∃ c' a', g_X3_seatBest_23 n fu u k lv e p q c = some c' ∧ g_X6_optimise_63 n fv u h l p (sX6_a r0 a) = some (mPlaced c', sX6_a r0 a') ∧ V2 c' ∧ Rl c' a' ∧ Same c' (pX3_street q) := by
  obtain ⟨v, r, sm, _⟩ := O
  cases fu with
  | zero => omega
  | succ fu =>
    cases fv with
    | zero => omega
    | succ fv =>
      refine ⟨c, a, ?_, ?_, v, r, sm⟩
      · rw [g_X3_seatBest_23.eq_2, if_pos hp]
      · rw [g_X6_optimise_63.eq_2, qA_ok (by omega) (by omega) (by omega), eX6_a_a, r.pit, sm.1, if_pos hp, s_X6_placed hn v.w (by rw [eX6_a_a]; exact r), oB_some]
theorem opt_lock (n : Nat) (hn : 1000 ≤ n) {q : BX3} (hP : Pq q) {cv : Int} (cv5 : cv ≤ 5) {r0 : BX6} (hB : ∀ p', 0 ≤ p' → p' ≤ pX2_pitches (pX3_street q) → BestOK (pX3_street q) cv r0 p') (hL : ∀ t p, 0 ≤ t → t < pX2_traders (pX3_street q) → 0 ≤ p → p < pX2_pitches (pX3_street q) → Lk (pX3_street q) r0 t p) :
    ∀ (d : Nat) (fu fv : Nat) (p u k lv h l e : Int) (c : BX2) (a : Int → Int), 0 ≤ p → pX2_pitches (pX3_street q) - p ≤ d → 0 < fu → 0 < fv → pX2_pitches (pX3_street q) - p < fu → pX2_pitches (pX3_street q) - p < fv → e ≤ p → l ≤ cv → OI (pX3_street q) q c a p u k lv h l →
    ∃ c' a', g_X3_seatBest_23 n fu u k lv e p q c = some c' ∧ g_X6_optimise_63 n fv u h l p (sX6_a r0 a) = some (mPlaced c', sX6_a r0 a') ∧ V2 c' ∧ Rl c' a' ∧ Same c' (pX3_street q) := by
  have hA := hP.aq
  have hs := hA.1.1
  have hT := hs.tra
  have hPi := hs.pit
  have hK := hA.1.2.2.1
  have hLv := hA.1.2.2.2.1
  intro d
  induction d with
  | zero => intro fu fv p u k lv h l e c a p0 hd fu0 fv0 _ _ _ _ O; exact lock_end (by omega) fu0 fv0 (by omega) O
  | succ d ih =>
    intro fu fv p u k lv h l e c a p0 hd fu0 fv0 hfu hfv he hlc O
    by_cases hp : pX2_pitches (pX3_street q) ≤ p
    · exact lock_end (by omega) fu0 fv0 hp O
    · have O' := O
      obtain ⟨v, r, sm, hu, hk', hlv', hh, hbar, l0, hlr, hcov, hz, hst, hnb⟩ := O'
      cases fu with
      | zero => omega
      | succ fu =>
      cases fv with
      | zero => omega
      | succ fv =>
      have eT := sm.2.2.2.2.1
      have eP := sm.1
      have hch : chF (pX3_street q) p u (barH (pX3_street q) h) lv (pX2_traders (pX3_street q)).toNat = chF (pX3_street q) p u (barH (pX3_street q) h) l (pX2_traders (pX3_street q)).toNat := by
        rcases hlr with e | ⟨e1, e2⟩
        · rw [e]
        · exact chF_sat hs p0 (by omega) e1 e2 _ (by omega)
      have hhc : hOK c u h := by unfold hOK at hh ⊢; rw [eT]; exact hh
      have h77 : g_X6_optimise_77 n (g_X6_optimise_63 n fv) n u h l p 0 (sX6_a r0 a) = _ :=
        s_X6_optimise_77 n (g_X6_optimise_63 n fv) (b := c) (r := sX6_a r0 a) v.s (by rw [eX6_a_a]; exact r) (c := cv) cv5 p0 (by omega) (by rw [eT]; exact hu) hhc l0 hlc (fun t t0 t1 => sm.symm.lkE (Lk_a (hL t p t0 (by omega) p0 (by omega)) a)) (fun p' a1 a2 => sm.symm.bestE (Best_a (hB p' (by omega) (by omega)) a)) n 0 (by omega) (by omega) (by omega) rfl
      have hbe : barH c h = barH (pX3_street q) h := by unfold barH; rw [sm.foe]
      rw [sm.chE, hbe, eT] at h77
      rw [g_X3_seatBest_23.eq_2, if_neg hp, if_pos he, s_X3_firstChoice (by omega) hP p0 (by omega) (by rw [hP.2.1]; exact hu) hk' hlv', oB_some, hbar, hch, g_X6_optimise_63.eq_2, qA_ok (by omega) (by omega) (by omega), eX6_a_a, r.pit, eP, if_neg hp, h77]
      have hr1 := chF_r (pX3_street q) p u (barH (pX3_street q) h) l (pX2_traders (pX3_street q)).toNat
      have hr2 := chF_r (pX3_street q) p u (barH (pX3_street q) h) lv (pX2_traders (pX3_street q)).toNat
      rw [hch] at hr2
      generalize chF (pX3_street q) p u (barH (pX3_street q) h) l (pX2_traders (pX3_street q)).toNat = t at hr1 hr2
      by_cases hc : t = -1
      · rw [if_pos hc, if_pos hc]
        unfold g_X3_seatBest_128 g_X6_optimise_122
        rw [oR_ok (by omega) (by omega), qA_ok (by omega) (by omega) (by omega), eX6_a_a, r.tra, eT, if_pos rfl, oR_ok (by omega) (by omega)]
        exact ih fu fv (p + 1) u 0 lv 8 l e c a (by omega) (by omega) (by omega) (by omega) (by omega) (by omega) (by omega) hlc (OI_none O (by omega) hK.1 hA.2.2.2.1)
      · rcases hr1 with hr1 | ⟨t0, t1, hc1⟩
        · exact absurd hr1 hc
        rcases hr2 with hr2 | ⟨_, _, hc2⟩
        · exact absurd hr2 hc
        have t1 : t < pX2_traders (pX3_street q) := by omega
        have hk1 : ¬ zbit u t ∧ mPos (pX3_street q) t p ∧ ¬ zbit (barH (pX3_street q) h) t ∧ mFor (pX3_street q) t p ≤ l := by
          have ho := (opt_r hs (p := p) u (barH (pX3_street q) h) l p0).1
          rw [← hc1] at ho
          refine Classical.byContradiction (fun x => ?_)
          unfold cand at ho
          rw [cif_neg x] at ho
          omega
        have hk2 : ¬ zbit u t ∧ mPos (pX3_street q) t p ∧ ¬ zbit (barH (pX3_street q) h) t ∧ mFor (pX3_street q) t p ≤ lv := by
          have ho := (opt_r hs (p := p) u (barH (pX3_street q) h) lv p0).1
          rw [← hc2] at ho
          refine Classical.byContradiction (fun x => ?_)
          unfold cand at ho
          rw [cif_neg x] at ho
          omega
        obtain ⟨e0, O2⟩ := OI_some hP rfl O p0 (by omega) t0 t1 hk1 hk2.2.2.2
        have hf := hs.fr t0 t1
        have hil := mInRow_lt hk1.2.1.1
        have hmf := mFor_b (pX3_street q) t p (by omega)
        obtain ⟨b1, b2, b3⟩ := hA.2.2.1 t p t0 t1 p0 (by omega)
        have eF : pX2_fronts c = pX2_fronts (pX3_street q) := sm.2.2.2.2.2.2.1
        have R2 : Rl (mSeat c t p) (updZ a (107 + t) p) := Rl_seat r v.s p t0 (by omega)
        have hfr : (updZ a (107 + t) p) (83 + t) = pX2_fronts (pX3_street q) t := by rw [updZ_ne (by omega), r.fr t0 (by omega), eF]
        have hsr := s_X6_isSameRow (b := mSeat c t p) (r := sX6_a r0 (updZ a (107 + t) p)) (O2.1.s) (by rw [eX6_a_a]; exact R2) (t := t) (p := p) t0 (by show t < pX2_traders c; omega) (((mSeat_same c t p).trans sm).pos t p |>.2 hk1.2.1)
        have eF2 : pX2_fronts (mSeat c t p) = pX2_fronts (pX3_street q) := eF
        rw [eF2] at hsr
        have hshE : mShare (mSeat c t p) (p + pX2_fronts (pX3_street q) t - 1) (p + pX2_fronts (pX3_street q) t) ↔ mShare (pX3_street q) (p + pX2_fronts (pX3_street q) t - 1) (p + pX2_fronts (pX3_street q) t) := ((mSeat_same c t p).trans sm).share _ _
        rw [zB_congr hshE] at hsr
        rw [if_neg hc, if_neg hc, oR_ok (by omega) (by omega), oL_def, s_X2_seat (by omega) v.w t0 (by omega) p0 (by omega), oB_some, oL_def, qA_ok (by omega) (by omega) (by omega), b2, oR_ok (by omega) (by omega), oL_def, qA_ok (by omega) (by omega) (by omega), oL_def, qA_ok (by omega) (by omega) (by omega), oR_ok (by omega) (by omega), oL_def]
        unfold g_X3_seatBest_128 g_X6_optimise_122 g_X6_optimise_206
        have hskip := seat_skip n (q := q) (u := zOr u (zShl 1 t)) (k := pX3_kindsBehind q (t * 24 + p)) (l := lv - mFor (pX3_street q) t p) (e := p + pX2_fronts (pX3_street q) t) (by omega) (by omega) (mSeat c t p) (pX2_fronts (pX3_street q) t - 1).toNat (fu - (pX2_fronts (pX3_street q) t - 1).toNat) (p + 1) (by omega) (by omega)
        rw [show fu - (pX2_fronts (pX3_street q) t - 1).toNat + (pX2_fronts (pX3_street q) t - 1).toNat = fu by omega] at hskip
        have hbare := s_X6_bare (n := n) (by omega) (b := c) (r := sX6_a r0 a) v.s (by rw [eX6_a_a]; exact r) t0 (by omega) p0 (by rw [eF]; omega)
        rw [sm.for] at hbare
        rw [oR_ok (by omega) (by omega), hskip, qA_ok (by omega) (by omega) (by omega), eX6_a_a, r.tra, eT, if_neg (by omega), hbare, oB_some, oR_ok (by omega) (by omega), oL_def, oL_def, qA_ok (by omega) (by omega) (by omega), oL_def, qA_ok (by omega) (by omega) (by omega), hfr, oR_ok (by omega) (by omega), oL_def, uX6_a, hsr, oB_some]
        have hI := ih (fu - (pX2_fronts (pX3_street q) t - 1).toNat) fv (p + pX2_fronts (pX3_street q) t) (zOr u (zShl 1 t)) (pX3_kindsBehind q (t * 24 + p)) (lv - mFor (pX3_street q) t p) _ (l - mFor (pX3_street q) t p) (p + pX2_fronts (pX3_street q) t) (mSeat c t p) (updZ a (107 + t) p) (by omega) (by omega) (by omega) (by omega) (by omega) (by omega) (by omega) (by omega) O2
        by_cases hsh : mShare (pX3_street q) (p + pX2_fronts (pX3_street q) t - 1) (p + pX2_fronts (pX3_street q) t)
        · rw [cif_pos hsh] at hI
          rw [zB_pos hsh, if_neg (by omega)]
          exact hI
        · rw [cif_neg hsh] at hI
          rw [zB_neg hsh, if_pos rfl]
          exact hI
