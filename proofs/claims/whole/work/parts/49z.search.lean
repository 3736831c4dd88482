/-! Searches: what they have found so far; sums over those who move. -/
noncomputable def updo (b : BX2) (o : Option BX2) (c : BX2) : Option BX2 := match o with
  | none => some c
  | some d => cif (key b d < key b c) (some c) (some d)
def Rs (b : BX2) (G S : BX2 → Prop) (o o' : Option BX2) : Prop := (∀ d, o = some d → ∃ e, o' = some e ∧ key b d ≤ key b e) ∧ (o' = o ∨ ∃ e, o' = some e ∧ G e) ∧ (∀ c, S c → ∃ e, o' = some e ∧ key b c ≤ key b e)
theorem Rs_nil {b : BX2} {G S : BX2 → Prop} (o : Option BX2) (h : ∀ c, ¬ S c) : Rs b G S o o := ⟨fun d hd => ⟨d, hd, Int.le_refl _⟩, .inl rfl, fun c hc => absurd hc (h c)⟩
theorem Rs_less {b : BX2} {G S : BX2 → Prop} {o : Option BX2} {d : BX2} (ho : o = some d) (h : ∀ c, S c → key b c ≤ key b d) : Rs b G S o o := ⟨fun e he => ⟨e, he, Int.le_refl _⟩, .inl rfl, fun c hc => ⟨d, ho, h c hc⟩⟩
theorem Rs.trans {b : BX2} {G S S' : BX2 → Prop} {o o1 o2 : Option BX2} (h : Rs b G S o o1) (k : Rs b G S' o1 o2) : Rs b G (fun c => S c ∨ S' c) o o2 := by
  obtain ⟨h1, h2, h3⟩ := h
  obtain ⟨k1, k2, k3⟩ := k
  refine ⟨?_, ?_, ?_⟩
  · intro d hd
    obtain ⟨e, e1, e2⟩ := h1 d hd
    obtain ⟨f, f1, f2⟩ := k1 e e1
    exact ⟨f, f1, by omega⟩
  · rcases k2 with k2 | k2
    · rw [k2]; exact h2
    · exact .inr k2
  · rintro c (hc | hc)
    · obtain ⟨e, e1, e2⟩ := h3 c hc
      obtain ⟨f, f1, f2⟩ := k1 e e1
      exact ⟨f, f1, by omega⟩
    · exact k3 c hc
theorem Rs.mono {b : BX2} {G S S' : BX2 → Prop} {o o' : Option BX2} (h : Rs b G S o o') (hs : ∀ c, S' c → S c) : Rs b G S' o o' := ⟨h.1, h.2.1, fun c hc => h.2.2 c (hs c hc)⟩
theorem Rs_upd {b : BX2} {G : BX2 → Prop} {c : BX2} (o : Option BX2) (hG : G c) : Rs b G (fun d => d = c) o (updo b o c) := by
  cases o with
  | none => exact ⟨fun d hd => (by cases hd), .inr ⟨c, rfl, hG⟩, fun d hd => ⟨c, rfl, by rw [hd]; exact Int.le_refl _⟩⟩
  | some d =>
    unfold updo
    by_cases h : key b d < key b c
    · simp only [cif_pos h]
      exact ⟨fun e he => ⟨c, rfl, by cases he; omega⟩, .inr ⟨c, rfl, hG⟩, fun e he => ⟨c, rfl, by rw [he]; exact Int.le_refl _⟩⟩
    · simp only [cif_neg h]
      exact ⟨fun e he => ⟨e, he, Int.le_refl _⟩, .inl rfl, fun e he => ⟨d, rfl, by rw [he]; omega⟩⟩
def Cd (b : BX2) (nc k : Int) (c : BX2) : Prop := V2 c ∧ Same c b ∧ pX2_starts c nc ≠ -1 ∧ (∀ u, 0 ≤ u → u < 8 → u ≠ nc → (pX2_starts c u = -1 ↔ pX2_starts b u = -1)) ∧ mvd b c ≤ k
def Mv (b c : BX2) (u : Int) : Prop := pX2_starts b u ≠ -1 ∧ pX2_starts c u ≠ pX2_starts b u
/-! both ends of a search find the same -/
theorem Rs_same {b : BX2} (hb : S2 b) {nc k : Int} {o o' : Option BX2} (h : Rs b (Cd b nc k) (Cd b nc k) none o) (h' : Rs b (Cd b nc k) (Cd b nc k) none o') : o = o' := by
  have key1 : ∀ o o' : Option BX2, Rs b (Cd b nc k) (Cd b nc k) none o → Rs b (Cd b nc k) (Cd b nc k) none o' → ∀ e, o = some e → ∃ f, o' = some f ∧ key b e ≤ key b f ∧ Cd b nc k e := by
    intro o o' h h' e he
    rcases h.2.1 with h1 | ⟨f, h1, h2⟩
    · rw [h1] at he; cases he
    · have ef : f = e := Option.some.inj (h1.symm.trans he)
      rw [ef] at h2
      obtain ⟨g, g1, g2⟩ := h'.2.2 e h2
      exact ⟨g, g1, g2, h2⟩
  cases o with
  | none =>
    cases o' with
    | none => rfl
    | some f => obtain ⟨g, g1, _⟩ := key1 _ _ h' h f rfl; cases g1
  | some e =>
    obtain ⟨f, f1, f2, f3⟩ := key1 _ _ h h' e rfl
    obtain ⟨g, g1, g2, g3⟩ := key1 _ _ h' h f f1
    have eg : e = g := Option.some.inj g1
    rw [← eg] at g2
    rw [f1]
    exact congrArg some (key_inj hb f3.1.w g3.1.w f3.2.1 g3.2.1 (by omega))
/-! those who move, counted -/
noncomputable def indw (w : Int → Int) (m : Nat) (t : Int) : Int := zB (∃ i : Int, 1 ≤ i ∧ i ≤ m ∧ w i = t)
theorem zr_ind {w : Int → Int} {T : Int} : ∀ m : Nat, (∀ i : Int, 1 ≤ i → i ≤ m → 0 ≤ w i ∧ w i < T) → (∀ i j : Int, 1 ≤ i → i < j → j ≤ m → w i ≠ w j) → zr (indw w m) 0 T = m := by
  intro m
  induction m with
  | zero =>
    intro _ _
    exact zr_0 (fun t _ _ => zB_neg (fun ⟨i, h1, h2, _⟩ => by omega))
  | succ m ih =>
    intro hr hd
    have hm := hr ((m : Int) + 1) (by omega) (by omega)
    have e1 : zr (indw w (m + 1)) 0 T = zr (updZ (indw w m) (w ((m : Int) + 1)) 1) 0 T := by
      apply zr_congr
      intro t _ _
      rw [updZ_app]
      unfold indw
      by_cases ht : t = w ((m : Int) + 1)
      · rw [if_pos ht, zB_pos ⟨(m : Int) + 1, by omega, by omega, ht.symm⟩]
      · rw [if_neg ht]
        refine zB_congr ⟨fun ⟨i, h1, h2, h3⟩ => ⟨i, h1, ?_, h3⟩, fun ⟨i, h1, h2, h3⟩ => ⟨i, h1, by omega, h3⟩⟩
        by_cases hi : i = (m : Int) + 1
        · rw [hi] at h3; exact absurd h3.symm ht
        · omega
    have e2 : indw w m (w ((m : Int) + 1)) = 0 := zB_neg (fun ⟨i, h1, h2, h3⟩ => hd i ((m : Int) + 1) h1 (by omega) (by omega) h3)
    rw [e1, zr_upd hm.1 hm.2, e2, ih (fun i h1 h2 => hr i h1 (by omega)) (fun i j h1 h2 h3 => hd i j h1 h2 (by omega))]
    omega
theorem mvd_term (b c : BX2) (t : Int) : (if pX2_starts b t = -1 then (0 : Int) else if pX2_starts c t = pX2_starts b t then 0 else 1) = zB (Mv b c t) := by
  by_cases h1 : pX2_starts b t = -1
  · rw [if_pos h1, zB_neg (fun h => h.1 h1)]
  · rw [if_neg h1]
    by_cases h2 : pX2_starts c t = pX2_starts b t
    · rw [if_pos h2, zB_neg (fun h => h.2 h2)]
    · rw [if_neg h2, zB_pos ⟨h1, h2⟩]
theorem mvd_zB (b c : BX2) : mvd b c = zr (fun t => zB (Mv b c t)) 0 (pX2_traders b) := by
  unfold mvd
  exact zr_congr (fun t _ _ => mvd_term b c t)
theorem zB_le {P Q : Prop} (h : P → Q) : zB P ≤ zB Q := by
  by_cases hp : P
  · rw [zB_pos hp, zB_pos (h hp)]; exact Int.le_refl _
  · rw [zB_neg hp]
    rcases zB_01 Q with e | e <;> omega
theorem mvd_ge {b c : BX2} {w : Int → Int} {m : Nat} (hr : ∀ i : Int, 1 ≤ i → i ≤ m → 0 ≤ w i ∧ w i < pX2_traders b) (hd : ∀ i j : Int, 1 ≤ i → i < j → j ≤ m → w i ≠ w j) (h : ∀ i : Int, 1 ≤ i → i ≤ m → Mv b c (w i)) : (m : Int) ≤ mvd b c := by
  rw [mvd_zB, ← zr_ind m hr hd]
  exact zr_mono (fun t _ _ => zB_le (fun ⟨i, h1, h2, h3⟩ => h3 ▸ h i h1 h2))
theorem mvd_le {b c : BX2} {w : Int → Int} {m : Nat} (hr : ∀ i : Int, 1 ≤ i → i ≤ m → 0 ≤ w i ∧ w i < pX2_traders b) (hd : ∀ i j : Int, 1 ≤ i → i < j → j ≤ m → w i ≠ w j) (h : ∀ u, 0 ≤ u → u < pX2_traders b → Mv b c u → ∃ i : Int, 1 ≤ i ∧ i ≤ m ∧ w i = u) : mvd b c ≤ (m : Int) := by
  rw [mvd_zB, ← zr_ind m hr hd]
  exact zr_mono (fun t t0 t1 => zB_le (h t t0 t1))
/-! seating and unseating one trader -/
theorem seat_un {c : BX2} (hc : W2 c) {t s : Int} (t0 : 0 ≤ t) (t1 : t < 8) (e1 : pX2_starts c t = -1) (hw : W2 (mSeat c t s)) : mUnseat (mSeat c t s) t = c := by
  refine W2_eq (W2_unseat hw t0 t1) hc ((mUnseat_same _ _).trans (mSeat_same _ _ _)) (fun u u0 u1 => ?_)
  rw [mUnseat_st (.inr trivial)]
  show updZ (updZ (pX2_starts c) t s) t (-1) u = _
  rw [updZ_app, updZ_app]
  by_cases h : u = t
  · rw [if_pos h, h, e1]
  · rw [if_neg h, if_neg h]
theorem un_hind {c : BX2} (hc : V2 c) {t : Int} (t0 : 0 ≤ t) (t1 : t < pX2_traders c) (e1 : pX2_starts c t ≠ -1) : mHind (mUnseat c t) t (pX2_starts c t) = 0 := by
  have hT := hc.s.tra
  have hs := mUnseat_same c t
  refine sub_hind (V2_unseat hc t0 (by omega)) hc hs.symm t0 (by rw [hs.2.2.2.2.1]; exact t1) (by rw [mUnseat_st (.inr trivial), updZ_at]) e1 rfl (fun u u0 u1 => ?_)
  rw [mUnseat_st (.inr trivial), updZ_app]
  by_cases h : u = t
  · rw [if_pos h]; exact .inl rfl
  · rw [if_neg h]; exact .inr rfl
theorem un_seat {c : BX2} (hc : V2 c) {t : Int} (t0 : 0 ≤ t) (t1 : t < pX2_traders c) (e1 : pX2_starts c t ≠ -1) : mSeat (mUnseat c t) t (pX2_starts c t) = c := by
  have hT := hc.s.tra
  have hs := mUnseat_same c t
  have hw := W2_seat0 (W2_unseat hc.w t0 (by omega)) t0 (by rw [hs.2.2.2.2.1]; exact t1) (un_hind hc t0 t1 e1)
  refine W2_eq hw hc.w ((mSeat_same _ _ _).trans hs) (fun u u0 u1 => ?_)
  show updZ (pX2_starts (mUnseat c t)) t (pX2_starts c t) u = _
  rw [mUnseat_st (.inr trivial), updZ_app, updZ_app]
  by_cases h : u = t
  · rw [if_pos h, h]
  · rw [if_neg h, if_neg h]
theorem mIncome_seat {c : BX2} {t s : Int} (t0 : 0 ≤ t) (t1 : t < pX2_traders c) (e1 : pX2_starts c t = -1) (s0 : s ≠ -1) : mIncome (mSeat c t s) = mIncome c + mRent c t s := by
  have e : mIncome (mSeat c t s) = zr (updZ (fun u => if pX2_starts c u = -1 then 0 else mRent c u (pX2_starts c u)) t (mRent c t s)) 0 (pX2_traders c) := by
    show zr (fun u => if updZ (pX2_starts c) t s u = -1 then 0 else mRent (mSeat c t s) u (updZ (pX2_starts c) t s u)) 0 (pX2_traders c) = _
    apply zr_congr
    intro u u0 u1
    show (if updZ (pX2_starts c) t s u = -1 then 0 else mRent (mSeat c t s) u (updZ (pX2_starts c) t s u)) = _
    rw [(mSeat_same c t s).rent, updZ_app, updZ_app]
    by_cases h : u = t
    · rw [if_pos h, if_pos h, if_neg s0, h]
    · rw [if_neg h, if_neg h]
  rw [e, zr_upd t0 t1]
  simp only [e1, if_true]
  unfold mIncome
  omega
theorem mDear_max {b : BX2} {t lo : Int} : ∀ (k : Nat) (p : Int), 0 ≤ p → p < k → p ≠ lo → mHind b t p = 0 → mDear b t lo k ≠ -1 ∧ mRent b t p ≤ mRent b t (mDear b t lo k) := by
  intro k
  induction k with
  | zero => intro p p0 p1; omega
  | succ k ih =>
    intro p p0 p1 hlo hh
    rw [mDear.eq_2]
    by_cases hc : (k : Int) ≠ lo ∧ mHind b t k = 0 ∧ (mDear b t lo k = -1 ∨ mRent b t (mDear b t lo k) < mRent b t k)
    · rw [cif_pos hc]
      refine ⟨by omega, ?_⟩
      by_cases e : p = k
      · rw [e]; exact Int.le_refl _
      · have := ih p p0 (by omega) hlo hh
        rcases hc.2.2 with h | h
        · exact absurd h this.1
        · omega
    · rw [cif_neg hc]
      by_cases e : p = k
      · rw [e] at hlo hh
        by_cases h1 : mDear b t lo k = -1
        · exact absurd ⟨hlo, hh, .inl h1⟩ hc
        · refine ⟨h1, ?_⟩
          by_cases h2 : mRent b t (mDear b t lo k) < mRent b t k
          · exact absurd ⟨hlo, hh, .inr h2⟩ hc
          · rw [e]; omega
      · exact ih p p0 (by omega) hlo hh
/-! the income of a placement beyond those who stand already -/
noncomputable def cutF (b c : BX2) (w : Int → Int) (nx mv t : Int) : Int := cif (∃ i : Int, nx ≤ i ∧ i ≤ mv ∧ w i = t) 0 (if pX2_starts c t = -1 then 0 else mRent b t (pX2_starts c t))
theorem hope_sum {b c : BX2} {w H : Int → Int} {mv : Int} (hr : ∀ i, 0 ≤ i → i ≤ mv → 0 ≤ w i ∧ w i < pX2_traders b) (hd : ∀ i j, 0 ≤ i → i < j → j ≤ mv → w i ≠ w j) (hH : H (mv + 1) = 0) (h : ∀ i, 0 ≤ i → i ≤ mv → pX2_starts c (w i) ≠ -1 ∧ mRent b (w i) (pX2_starts c (w i)) ≤ H i - H (i + 1)) :
    ∀ (k : Nat) (nx : Int), 0 ≤ nx → nx + k = mv + 1 → zr (fun t => if pX2_starts c t = -1 then 0 else mRent b t (pX2_starts c t)) 0 (pX2_traders b) ≤ zr (cutF b c w nx mv) 0 (pX2_traders b) + H nx := by
  intro k
  induction k with
  | zero =>
    intro nx n0 hk
    rw [show nx = mv + 1 by omega, hH, Int.add_zero]
    refine Int.le_of_eq (zr_congr (fun t _ _ => ?_))
    unfold cutF
    rw [cif_neg (fun ⟨i, h1, h2, _⟩ => by omega)]
  | succ k ih =>
    intro nx n0 hk
    have hi := ih (nx + 1) (by omega) (by omega)
    have hw := hr nx n0 (by omega)
    have h1 := h nx n0 (by omega)
    have e1 : zr (cutF b c w nx mv) 0 (pX2_traders b) = zr (updZ (cutF b c w (nx + 1) mv) (w nx) 0) 0 (pX2_traders b) := by
      apply zr_congr
      intro t _ _
      rw [updZ_app]
      unfold cutF
      by_cases ht : t = w nx
      · rw [if_pos ht, cif_pos ⟨nx, Int.le_refl _, by omega, ht.symm⟩]
      · rw [if_neg ht]
        refine cif_congr ⟨fun ⟨i, j1, j2, j3⟩ => ⟨i, ?_, j2, j3⟩, fun ⟨i, j1, j2, j3⟩ => ⟨i, by omega, j2, j3⟩⟩
        by_cases hi : i = nx
        · rw [hi] at j3; exact absurd j3.symm ht
        · omega
    have e2 : cutF b c w (nx + 1) mv (w nx) = mRent b (w nx) (pX2_starts c (w nx)) := by
      unfold cutF
      rw [cif_neg (fun ⟨i, j1, j2, j3⟩ => hd nx i n0 (by omega) j2 j3.symm), if_neg h1.1]
    rw [e1, zr_upd hw.1 hw.2, e2]
    omega
