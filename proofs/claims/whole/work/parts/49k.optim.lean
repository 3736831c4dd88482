/-! optimise: both build the same placement, pitch by pitch. -/
theorem Same.candE {a b : BX2} (h : Same a b) (p u z l t : Int) : cand a p u z l t = cand b p u z l t := by
  unfold cand
  rw [h.optE, h.rent, h.behind, h.for, h.2.2.2.2.2.2.1]
  exact cif_congr (by rw [h.pos])
theorem Same.chE {a b : BX2} (h : Same a b) (p u z l : Int) : ∀ k : Nat, chF a p u z l k = chF b p u z l k := by
  intro k
  induction k with
  | zero => rfl
  | succ k ih => rw [chF.eq_2, chF.eq_2, ih, h.candE, h.optE]
theorem Same.sNeedE {a b : BX2} (h : Same a b) (t : Int) : sNeed a t = sNeed b t := by
  unfold sNeed
  rw [h.1]
  refine zmx_congr rfl _ (fun p _ _ => ?_)
  rw [h.for]
  exact cif_congr (h.pos t p)
theorem Same.leftE {a b : BX2} (h : Same a b) (u : Int) : leftN a u = leftN b u := by
  unfold leftN
  rw [h.2.2.2.2.1]
  exact zr_congr (fun t _ _ => by simp only [h.sNeedE])
theorem Same.lkE {a b : BX2} (h : Same a b) {r : BX6} {t p : Int} (k : Lk a r t p) : Lk b r t p := by
  refine ⟨?_, fun x => ⟨?_, ?_⟩⟩
  · rw [k.1, h.rent]; exact cif_congr (h.pos t p)
  · rw [(k.2 ((h.pos t p).2 x)).1, h.for]
  · rw [(k.2 ((h.pos t p).2 x)).2, h.2.2.2.2.2.2.1]; exact cif_congr (h.share _ _)
theorem Same.bestE {a b : BX2} (h : Same a b) {r : BX6} {c p : Int} (k : BestOK a c r p) : BestOK b c r p := by
  intro u g l u0 u1 hg l0 l1
  rw [← h.2.2.2.2.1] at u1
  have h2 : hOK a u g := by unfold hOK at hg ⊢; rw [h.2.2.2.2.1]; exact hg
  rw [k u g l u0 u1 h2 l0 l1, h.optE]
  unfold barH; rw [h.foe]
theorem Lk_a {b : BX2} {r : BX6} {t p : Int} (h : Lk b r t p) (v : Int → Int) : Lk b (sX6_a r v) t p := by
  unfold Lk at h ⊢
  rw [eX6_rentBy_a, eX6_bareBy_a, eX6_aheadBy_a]; exact h
theorem Best_a {b : BX2} {r : BX6} {c p : Int} (h : BestOK b c r p) (v : Int → Int) : BestOK b c (sX6_a r v) p := by
  intro u g l u0 u1 hg l0 l1
  rw [eX6_best_a]; exact h u g l u0 u1 hg l0 l1
theorem seat_skip (n : Nat) {q : BX3} {u k l e : Int} (he : e ≤ pX2_pitches (pX3_street q)) (hp : pX2_pitches (pX3_street q) ≤ 24) (c : BX2) : ∀ (d : Nat) (fu : Nat) (p : Int), 0 ≤ p → e - p = d → g_X3_seatBest_23 n (fu + d) u k l e p q c = g_X3_seatBest_23 n fu u k l e e q c := by
  intro d
  induction d with
  | zero => intro fu p p0 h; rw [show p = e by omega]; rfl
  | succ d ih =>
    intro fu p p0 h
    rw [show fu + (d + 1) = (fu + d) + 1 by omega, g_X3_seatBest_23.eq_2, if_neg (by omega), if_neg (by omega)]
    unfold g_X3_seatBest_128
    rw [oR_ok (by omega) (by omega)]
    exact ih fu (p + 1) (by omega) (by omega)
def OI (s : BX2) (q : BX3) (c : BX2) (a : Int → Int) (p u k lv h l : Int) : Prop :=
  V2 c ∧ Rl c a ∧ Same c s ∧ (0 ≤ u ∧ u < zShl 1 (pX2_traders s)) ∧ (0 ≤ k ∧ k < pX3_kinds q) ∧ (0 ≤ lv ∧ lv < pX3_levels q) ∧ hOK s u h ∧ pX3_barred q k = barH s h ∧ 0 ≤ l ∧
  (lv = l ∨ (leftN s u ≤ lv ∧ leftN s u ≤ l)) ∧ pX2_coversBusy c + l = pX2_covers s ∧
  (∀ t, 0 ≤ t → t < pX2_traders s → (zbit u t ↔ pX2_starts c t ≠ -1)) ∧
  (∀ x, p ≤ x → x < 24 → pX2_standing c x = -1) ∧
  (mShare s (p - 1) p → pX2_standing c (p - 1) ≠ -1 → h = pX2_standing c (p - 1))
theorem OI_none {s c : BX2} {q : BX3} {a : Int → Int} {p u k lv h l : Int} (O : OI s q c a p u k lv h l) (p1 : p < 24) (hk : 1 ≤ pX3_kinds q) (hb : pX3_barred q 0 = 0) : OI s q c a (p + 1) u 0 lv 8 l := by
  obtain ⟨v, r, sm, hu, hk', hlv, hh, hbar, l0, hl, hcov, hz, hst, hnb⟩ := O
  refine ⟨v, r, sm, hu, ⟨by omega, by omega⟩, hlv, .inl rfl, ?_, l0, hl, hcov, hz, fun x x0 x1 => hst x (by omega) x1, ?_⟩
  · rw [hb]; unfold barH; rw [if_pos rfl]
  · intro _ h2
    rw [show p + 1 - 1 = p by omega, hst p (by omega) p1] at h2
    exact absurd rfl h2
theorem OI_some {s c : BX2} {q : BX3} {a : Int → Int} {p u k lv h l t : Int} (hP : Pq q) (hq : pX3_street q = s) (O : OI s q c a p u k lv h l) (p0 : 0 ≤ p) (p1 : p < pX2_pitches s) (t0 : 0 ≤ t) (t1 : t < pX2_traders s) (hl : ¬ zbit u t ∧ mPos s t p ∧ ¬ zbit (barH s h) t ∧ mFor s t p ≤ l) (hlv : mFor s t p ≤ lv) :
    mHind c t p = 0 ∧ OI s q (mSeat c t p) (updZ a (107 + t) p) (p + pX2_fronts s t) (zOr u (zShl 1 t)) (pX3_kindsBehind q (t * 24 + p)) (lv - mFor s t p) (cif (mShare s (p + pX2_fronts s t - 1) (p + pX2_fronts s t)) t 8) (l - mFor s t p) := by
  obtain ⟨v, r, sm, hu, hk', hlv', hh, hbar, l0, hlr, hcov, hz, hst, hnb⟩ := O
  have hA := hP.aq
  have hs : S2 s := by rw [← hq]; exact hA.1.1
  have eF : pX2_fronts c t = pX2_fronts s t := congrFun sm.2.2.2.2.2.2.1 t
  have eT := sm.2.2.2.2.1
  have eP := sm.1
  have hT := hs.tra
  have hPi := hs.pit
  have hf := hs.fr t0 t1
  have hmf := mFor_b s t p (by omega)
  have hil := mInRow_lt hl.2.1.1
  have hy : Sy s := sm.sy.1 v.2.1
  have e0 : mHind c t p = 0 := by
    rw [mHind_0]
    refine ⟨?_, (sm.inRow t p).2 hl.2.1.1, ?_, ?_, ?_, ?_⟩
    · exact Classical.byContradiction (fun x => hl.1 ((hz t t0 t1).2 x))
    · intro x x0 x1
      exact hst x x0 (by omega)
    · rw [sm.rent, sm.2.2.2.2.2.2.2.1]; exact hl.2.1.2
    · rw [sm.for, sm.2.2.2.2.2.2.2.2.2.2]; omega
    · intro hx
      rcases hx with ⟨x1, x2⟩ | ⟨x1, x2⟩
      · have hne := x2.1
        have x1' := (sm.share _ _).1 x1
        have hh' := hnb x1' hne
        have hon := v.w.std (p - 1) (by have := x1'.1; omega) (by omega)
        rcases hh with h8 | ⟨a1, a2, a3⟩
        · omega
        · apply hl.2.2.1
          unfold barH
          rw [if_neg (by omega), foeV_bit hs h t0 t1]
          refine ⟨?_, ?_⟩
          · intro e; apply hl.1; rw [e]; exact a3
          · rw [← hh'] at x2
            exact (mClash_sy hs hy a1 a2 t0 t1).2 ((sm.clash t h).1 x2)
      · rw [eF] at x1 x2
        have x1' := (sm.share _ _).1 x1
        unfold mShare at x1'
        exact x2.1 (hst _ (by omega) (by omega))
  obtain ⟨b1, b2, b3⟩ := hA.2.2.1 t p t0 (by rw [hq]; exact t1) p0 (by rw [hq]; exact p1)
  obtain ⟨kk1, kk2⟩ := hA.2.2.2.2 t t0 (by rw [hq]; exact t1)
  have hK := hA.1.2.2.1
  rw [hq] at b3 kk2
  refine ⟨e0, V2_seat v t0 (by omega) e0, Rl_seat r v.s p t0 (by omega), (mSeat_same c t p).trans sm, or_lt hT hu ⟨t0, t1⟩, ?_, ⟨by omega, by omega⟩, ?_, ?_, by omega, ?_, ?_, ?_, ?_, ?_⟩
  · rw [b3]
    by_cases hsh : mShare s (p + pX2_fronts s t - 1) (p + pX2_fronts s t)
    · rw [cif_pos hsh]; exact kk1
    · rw [cif_neg hsh]; omega
  · by_cases hsh : mShare s (p + pX2_fronts s t - 1) (p + pX2_fronts s t)
    · rw [cif_pos hsh]; exact .inr ⟨t0, t1, (zbit_or t0 (by omega) t0 (by omega)).2 (.inr rfl)⟩
    · rw [cif_neg hsh]; exact .inl rfl
  · rw [b3]
    by_cases hsh : mShare s (p + pX2_fronts s t - 1) (p + pX2_fronts s t)
    · rw [cif_pos hsh, cif_pos hsh, kk2]; unfold barH; rw [if_neg (by omega)]
    · rw [cif_neg hsh, cif_neg hsh, hA.2.2.2.1]; unfold barH; rw [if_pos rfl]
  · rcases hlr with e | ⟨e1, e2⟩
    · left; omega
    · right
      have h1 := leftN_or hs t0 t1 hl.1
      have h2 := sNeed_ge p0 p1 hl.2.1
      omega
  · show pX2_coversBusy c + mFor c t p + (l - mFor s t p) = pX2_covers s
    rw [sm.for]; omega
  · intro x x0 x1
    rw [zbit_or t0 (by omega) x0 (by omega), hz x x0 x1]
    show _ ↔ updZ (pX2_starts c) t p x ≠ -1
    by_cases e : x = t
    · rw [e, updZ_at]
      exact ⟨fun _ => by omega, fun _ => .inr rfl⟩
    · rw [updZ_ne e]
      exact ⟨fun h => h.elim id (fun h => absurd h e), fun h => .inl h⟩
  · intro x x0 x1
    show mLay (pX2_standing c) p (min (p + pX2_fronts c t) (pX2_pitches c)) t x = -1
    unfold mLay
    rw [if_neg (by omega)]
    exact hst x (by omega) x1
  · intro g1 _
    rw [cif_pos g1]
    show t = mLay (pX2_standing c) p (min (p + pX2_fronts c t) (pX2_pitches c)) t (p + pX2_fronts s t - 1)
    unfold mLay
    rw [if_pos (by omega)]
