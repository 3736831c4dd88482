/-! The optimum with another rent at one pitch. -/
def bv (b : BX2) (x v : Int) : BX2 := sX2_rents b (updZ (pX2_rents b) x v)
theorem bv_rent {b : BX2} {x v t s : Int} (h : ¬ (s ≤ x ∧ x < s + pX2_fronts b t)) : mRent (bv b x v) t s = mRent b t s := mRent_rents h
theorem bv_rent_in {b : BX2} {x v t s : Int} (h0 : s ≤ x) (h1 : x < s + pX2_fronts b t) (h2 : s + pX2_fronts b t ≤ pX2_pitches b) : mRent (bv b x v) t s = mRent b t s - pX2_rents b x + v := by
  show zr (updZ (pX2_rents b) x v) s (min (s + pX2_fronts b t) (pX2_pitches b)) = zr (pX2_rents b) s (min (s + pX2_fronts b t) (pX2_pitches b)) - pX2_rents b x + v
  rw [Int.min_eq_left h2]
  exact zr_upd h0 h1
theorem bv_foeF (b : BX2) (x v t : Int) : ∀ k : Nat, foeF (bv b x v) t k = foeF b t k := by
  intro k
  induction k with
  | zero => rfl
  | succ k ih => rw [foeF.eq_2, foeF.eq_2, ih]; rfl
theorem bv_foe (b : BX2) (x v t : Int) : foeV (bv b x v) t = foeV b t := bv_foeF b x v t _
theorem bv_behind (b : BX2) (x v t s : Int) : mBehind (bv b x v) t s = mBehind b t s := by
  unfold mBehind; rw [bv_foe]; rfl
theorem bv_ahead (b : BX2) (x v t s : Int) : mAhead (bv b x v) t s = mAhead b t s := by
  unfold mAhead; rw [bv_foe]; rfl
theorem bv_pos {b : BX2} {x v t s : Int} (h : ¬ (s ≤ x ∧ x < s + pX2_fronts b t)) : mPos (bv b x v) t s ↔ mPos b t s := by
  unfold mPos; rw [bv_rent h]; exact Iff.rfl
def Off (b : BX2) (x : Int) (L : List (Int × Int)) : Prop := ∀ y, y ∈ L → ¬ (y.2 ≤ x ∧ x < y.2 + pX2_fronts b y.1)
theorem Off.tl {b : BX2} {x : Int} {y : Int × Int} {L : List (Int × Int)} (h : Off b x (y :: L)) : Off b x L := fun z hz => h z (List.mem_cons_of_mem _ hz)
theorem bv_Chn {b : BX2} (x v : Int) : ∀ (L : List (Int × Int)) (p z : Int), Off b x L → (Chn (bv b x v) p z L ↔ Chn b p z L) := by
  intro L
  induction L with
  | nil => intro p z _; exact Iff.rfl
  | cons y L ih =>
    intro p z h
    show (p ≤ y.2 ∧ (0 ≤ y.1 ∧ y.1 < pX2_traders b) ∧ mPos (bv b x v) y.1 y.2 ∧ (y.2 = p → ¬ zbit z y.1) ∧ Chn (bv b x v) (y.2 + pX2_fronts b y.1) (mBehind (bv b x v) y.1 y.2) L) ↔ (p ≤ y.2 ∧ (0 ≤ y.1 ∧ y.1 < pX2_traders b) ∧ mPos b y.1 y.2 ∧ (y.2 = p → ¬ zbit z y.1) ∧ Chn b (y.2 + pX2_fronts b y.1) (mBehind b y.1 y.2) L)
    rw [bv_pos (h y List.mem_cons_self), bv_behind, ih _ _ h.tl]
theorem bv_Rch {b : BX2} (x v : Int) : ∀ (L : List (Int × Int)) (p z : Int), Off b x L → (Rch (bv b x v) p z L ↔ Rch b p z L) := by
  intro L
  induction L with
  | nil => intro p z _; exact Iff.rfl
  | cons y L ih =>
    intro p z h
    show (y.2 + pX2_fronts b y.1 ≤ p ∧ (0 ≤ y.1 ∧ y.1 < pX2_traders b) ∧ mPos (bv b x v) y.1 y.2 ∧ (y.2 + pX2_fronts b y.1 = p → ¬ zbit z y.1) ∧ Rch (bv b x v) y.2 (mAhead (bv b x v) y.1 y.2) L) ↔ (y.2 + pX2_fronts b y.1 ≤ p ∧ (0 ≤ y.1 ∧ y.1 < pX2_traders b) ∧ mPos b y.1 y.2 ∧ (y.2 + pX2_fronts b y.1 = p → ¬ zbit z y.1) ∧ Rch b y.2 (mAhead b y.1 y.2) L)
    rw [bv_pos (h y List.mem_cons_self), bv_ahead, ih _ _ h.tl]
theorem bv_vals {b : BX2} (x v : Int) : ∀ (L : List (Int × Int)), Off b x L → vals (bv b x v) L = vals b L := by
  intro L
  induction L with
  | nil => intro _; rfl
  | cons y L ih =>
    intro h
    show 16 * mRent (bv b x v) y.1 y.2 + 1 + vals (bv b x v) L = 16 * mRent b y.1 y.2 + 1 + vals b L
    rw [bv_rent (h y List.mem_cons_self), ih h.tl]
theorem bv_nds {b : BX2} (x v : Int) : ∀ (L : List (Int × Int)), nds (bv b x v) L = nds b L := by
  intro L
  induction L with
  | nil => rfl
  | cons y L ih =>
    show mFor b y.1 y.2 + nds (bv b x v) L = mFor b y.1 y.2 + nds b L
    rw [ih]
theorem perm_gap (R B : List (Int × Int)) : (R.reverse ++ B).Perm (R ++ B) := List.Perm.append_right B (List.reverse_perm R)
theorem perm_zip (x : Int × Int) (R B : List (Int × Int)) : (R.reverse ++ x :: B).Perm (x :: (R ++ B)) := List.perm_middle.trans ((perm_gap R B).cons x)
theorem Off_R {b : BX2} {x : Int} {R : List (Int × Int)} (h : ∀ y, y ∈ R → y.2 + pX2_fronts b y.1 ≤ x) : Off b x R := fun y hy hc => by have := h y hy; omega
theorem Off_B {b : BX2} {x : Int} {R : List (Int × Int)} (h : ∀ y, y ∈ R → x < y.2) : Off b x R := fun y hy hc => by have := h y hy; omega
theorem Off_app {b : BX2} {x : Int} {R B : List (Int × Int)} (h : Off b x R) (k : Off b x B) : Off b x (R ++ B) := fun y hy => by
  rcases List.mem_append.1 hy with e | e
  · exact h y e
  · exact k y e
theorem optv_F {b : BX2} (hb : W2 b) (hy : Sy b) {x v F : Int} (x0 : 0 ≤ x) (x1 : x < pX2_pitches b) (v0 : 1 ≤ v) (v1 : v ≤ 999) (hF : IsW b x 0 (x + 1) 0 (-1) (pX2_covers b) F) : F ≤ opt (bv b x v) 0 0 0 (pX2_covers b) := by
  have hT := hb.s.tra
  have hv : S2 (bv b x v) := (W2_rents hb x0 x1 v0 v1).s
  obtain ⟨R, B, ⟨k1, k2, k3, k4, k5⟩, k6⟩ := hF.1
  have hRm := Rch_mem hb.s _ _ _ k1
  have hBm := Chn_mem hb.s _ _ _ k2
  have oR1 : Off b x R := Off_R (fun y h => (hRm y h).2.2)
  have oB1 : Off b x B := Off_B (fun y h => by have := (hBm y h).2.2; omega)
  have oRr : Off b x R.reverse := fun y h => oR1 y (List.mem_reverse.1 h)
  have hC := Chn_gap hb.s hy x0 R B k1 k2
  have hp := perm_gap R B
  have hvp := vals_perm b hp
  have hap := vals_app b R B
  have h := opt_ge hv (R.reverse ++ B) 0 0 0 (pX2_covers b) (Int.le_refl _) ⟨(bv_Chn x v _ _ _ (Off_app oRr oB1)).2 hC, fun y hyy => by
      have h1 := (hp.mem_iff).1 hyy
      rcases List.mem_append.1 h1 with h2 | h2
      · have := (hRm y h2).1; exact zbit_0 this.1 (by omega)
      · have := (hBm y h2).1; exact zbit_0 this.1 (by omega), (whos_perm hp).nodup_iff.2 k3, by rw [bv_nds]; omega⟩
  rw [bv_vals x v _ (Off_app oRr oB1)] at h
  omega
theorem optv_W {b : BX2} (hb : W2 b) (hy : Sy b) {x v t s W : Int} (x0 : 0 ≤ x) (x1 : x < pX2_pitches b) (v0 : 1 ≤ v) (v1 : v ≤ 999) (t0 : 0 ≤ t) (t1 : t < pX2_traders b) (hr : mInRow b t s) (s0 : s ≤ x) (s1 : x < s + pX2_fronts b t) (hl : mRent (bv b x v) t s ≤ pX2_limits b t) (hW : IsW b s (mAhead b t s) (s + pX2_fronts b t) (mBehind b t s) t (pX2_covers b - mFor b t s) W) : 16 * mRent (bv b x v) t s + 1 + W ≤ opt (bv b x v) 0 0 0 (pX2_covers b) := by
  have hT := hb.s.tra
  have hv : S2 (bv b x v) := (W2_rents hb x0 x1 v0 v1).s
  obtain ⟨R, B, ⟨k1, k2, k3, k4, k5⟩, k6⟩ := hW.1
  have hRm := Rch_mem hb.s _ _ _ k1
  have hBm := Chn_mem hb.s _ _ _ k2
  have oR1 : Off b x R := Off_R (fun y h => by have := (hRm y h).2.2; omega)
  have oB1 : Off b x B := Off_B (fun y h => by have := (hBm y h).2.2; omega)
  have hZ : Zip (bv b x v) (t, s) R B := by
    refine ⟨⟨t0, t1⟩, ⟨hr, hl⟩, ?_, ?_⟩
    · show Rch (bv b x v) s (mAhead (bv b x v) t s) R
      rw [bv_ahead, bv_Rch x v R _ _ oR1]; exact k1
    · show Chn (bv b x v) (s + pX2_fronts b t) (mBehind (bv b x v) t s) B
      rw [bv_behind, bv_Chn x v B _ _ oB1]; exact k2
  have hC := (Chn_zip' hv hy (t, s) R B).2 hZ
  have hp := perm_zip (t, s) R B
  have hvp := vals_perm (bv b x v) hp
  have hap := vals_app b R B
  have e1 : vals (bv b x v) ((t, s) :: (R ++ B)) = 16 * mRent (bv b x v) t s + 1 + vals b (R ++ B) := by
    show 16 * mRent (bv b x v) t s + 1 + vals (bv b x v) (R ++ B) = _
    rw [bv_vals x v _ (Off_app oR1 oB1)]
  have e2 : nds (bv b x v) ((t, s) :: (R ++ B)) = mFor b t s + nds b (R ++ B) := by
    rw [bv_nds]; rfl
  have h := opt_ge hv (R.reverse ++ (t, s) :: B) 0 0 0 (pX2_covers b) (Int.le_refl _) ⟨hC, fun y hyy => by
      have h1 := (hp.mem_iff).1 hyy
      rcases List.mem_cons.1 h1 with h2 | h2
      · rw [h2]; exact zbit_0 t0 (by omega)
      rcases List.mem_append.1 h2 with h2 | h2
      · have := (hRm y h2).1; exact zbit_0 this.1 (by omega)
      · have := (hBm y h2).1; exact zbit_0 this.1 (by omega), (whos_perm hp).nodup_iff.2 (List.nodup_cons.2 ⟨fun hm => by
        obtain ⟨y, hy1, hy2⟩ := of_whos hm
        exact k4 y hy1 hy2, k3⟩), by omega⟩
  omega
theorem optv_le {b : BX2} (hb : W2 b) (hy : Sy b) {x v F : Int} (x0 : 0 ≤ x) (x1 : x < pX2_pitches b) (v0 : 1 ≤ v) (v1 : v ≤ 999) (hF : IsW b x 0 (x + 1) 0 (-1) (pX2_covers b) F) : opt (bv b x v) 0 0 0 (pX2_covers b) ≤ F ∨
    ∃ t s, (0 ≤ t ∧ t < pX2_traders b) ∧ mInRow b t s ∧ (s ≤ x ∧ x < s + pX2_fronts b t) ∧ mRent (bv b x v) t s ≤ pX2_limits b t ∧ mFor b t s ≤ pX2_covers b ∧ ∀ W, IsW b s (mAhead b t s) (s + pX2_fronts b t) (mBehind b t s) t (pX2_covers b - mFor b t s) W → opt (bv b x v) 0 0 0 (pX2_covers b) ≤ 16 * mRent (bv b x v) t s + 1 + W := by
  have hT := hb.s.tra
  have hP := hb.s.pit
  have hv : S2 (bv b x v) := (W2_rents hb x0 x1 v0 v1).s
  obtain ⟨L, ⟨a1, a2, a3, a4⟩, a5⟩ := opt_at hv 24 0 0 0 (pX2_covers b) (Int.le_refl _) (by show pX2_pitches b - 0 ≤ 24; omega) hb.s.cov.1
  obtain ⟨A, B, c1, c2, c3⟩ := split_at hv x L 0 0 a1
  have c2 : ∀ y, y ∈ A → y.2 + pX2_fronts b y.1 ≤ x := c2
  have oA : Off b x A.reverse := Off_R (fun y h => c2 y (List.mem_reverse.1 h))
  rcases c3 with c3 | ⟨y, B', d1, d2, d3⟩
  · left
    have oB1 : Off b x B := Off_B c3
    rw [c1, ← List.reverse_reverse A] at a1
    have hg := gap_Chn hv hy (p := x) A.reverse B a1 (fun y h => c2 y (List.mem_reverse.1 h)) c3
    have hp := perm_gap A.reverse B
    rw [List.reverse_reverse, ← c1] at hp
    have hvp := vals_perm (bv b x v) hp
    have hap := vals_app b A.reverse B
    rw [bv_vals x v _ (Off_app oA oB1)] at hvp
    rw [bv_nds, bv_nds] at hvp
    rw [bv_nds] at a4
    have h := hF.2 A.reverse B ⟨(bv_Rch x v _ _ _ oA).1 hg.1, (bv_Chn x v _ _ _ oB1).1 hg.2, (whos_perm hp).nodup_iff.1 a3, fun z hz => by
      have h1 := Chn_mem hv _ _ _ hg.2
      have h2 := Rch_mem hv _ _ _ hg.1
      rcases List.mem_append.1 hz with h3 | h3
      · have := (h2 z h3).1; omega
      · have := (h1 z h3).1; omega, by omega⟩
    omega
  · right
    rw [c1, d1] at a1
    have hZ := (Chn_zip hv hy y A B').1 a1
    obtain ⟨z1, z2, z3, z4⟩ := hZ
    have d3 : x < y.2 + pX2_fronts b y.1 := d3
    have z1 : 0 ≤ y.1 ∧ y.1 < pX2_traders b := z1
    have z4 : Chn (bv b x v) (y.2 + pX2_fronts b y.1) (mBehind (bv b x v) y.1 y.2) B' := z4
    have hBm := Chn_mem hv _ _ _ z4
    have hRm := Rch_mem hv _ _ _ z3
    have oB1 : Off b x B' := Off_B (fun w hw => by have := (hBm w hw).2.2; omega)
    have hp := perm_zip y A.reverse B'
    rw [List.reverse_reverse, ← d1, ← c1] at hp
    have hvp := vals_perm (bv b x v) hp
    have hap := vals_app b A.reverse B'
    have e1 : vals (bv b x v) (y :: (A.reverse ++ B')) = 16 * mRent (bv b x v) y.1 y.2 + 1 + vals b (A.reverse ++ B') := by
      show 16 * mRent (bv b x v) y.1 y.2 + 1 + vals (bv b x v) (A.reverse ++ B') = _
      rw [bv_vals x v _ (Off_app oA oB1)]
    have e2 : nds (bv b x v) (y :: (A.reverse ++ B')) = mFor b y.1 y.2 + nds b (A.reverse ++ B') := by
      rw [bv_nds]; rfl
    rw [bv_ahead, bv_Rch x v _ _ _ oA] at z3
    rw [bv_behind, bv_Chn x v _ _ _ oB1] at z4
    have hN : (whos (y :: (A.reverse ++ B'))).Nodup := (whos_perm hp).nodup_iff.1 a3
    have hN' : y.1 ∉ whos (A.reverse ++ B') ∧ (whos (A.reverse ++ B')).Nodup := List.nodup_cons.1 hN
    have hn1 := nds_nn hb.s A.reverse (fun w hw => (hRm w hw).1)
    have hn2 := nds_nn hb.s B' (fun w hw => (hBm w hw).1)
    refine ⟨y.1, y.2, z1, z2.1, ⟨d2, d3⟩, z2.2, by omega, ?_⟩
    intro W hW
    have h := hW.2 A.reverse B' ⟨z3, z4, hN'.2, fun w hw e => hN'.1 (e ▸ mem_whos hw), by omega⟩
    omega
theorem IsW_16 {b : BX2} (hb : S2 b) {st zl en zr t sp W : Int} (h : IsW b st zl en zr t sp W) : (W + 1) / 16 = W / 16 := by
  have hT := hb.tra
  obtain ⟨R, B, ⟨k1, k2, k3, k4, k5⟩, k6⟩ := h.1
  have hRm := Rch_mem hb _ _ _ k1
  have hBm := Chn_mem hb _ _ _ k2
  have h8 := len_8 (L := R ++ B) (fun y hy => by
    rcases List.mem_append.1 hy with h3 | h3
    · have := (hRm y h3).1; omega
    · have := (hBm y h3).1; omega) k3
  rw [List.length_append] at h8
  have e1 := vals_rnts b R
  have e2 := vals_rnts b B
  omega
theorem IsW_uq {b : BX2} {st zl en zr t sp W V : Int} (h : IsW b st zl en zr t sp W) (k : IsW b st zl en zr t sp V) : W = V := by
  obtain ⟨R, B, h1, h2⟩ := h.1
  obtain ⟨R', B', k1, k2⟩ := k.1
  have h3 := h.2 R' B' k1
  have k3 := k.2 R B h1
  omega
