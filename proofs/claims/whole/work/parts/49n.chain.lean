/-! Placements as lists of blocks (trader, start), from the left: the optimum is their greatest value. -/
noncomputable def Chn (b : BX2) : Int → Int → List (Int × Int) → Prop
  | _, _, [] => True
  | p, z, x :: L => p ≤ x.2 ∧ (0 ≤ x.1 ∧ x.1 < pX2_traders b) ∧ mPos b x.1 x.2 ∧ (x.2 = p → ¬ zbit z x.1) ∧ Chn b (x.2 + pX2_fronts b x.1) (mBehind b x.1 x.2) L
def vals (b : BX2) : List (Int × Int) → Int
  | [] => 0
  | x :: L => 16 * mRent b x.1 x.2 + 1 + vals b L
def nds (b : BX2) : List (Int × Int) → Int
  | [] => 0
  | x :: L => mFor b x.1 x.2 + nds b L
def whos (L : List (Int × Int)) : List Int := L.map (fun x => x.1)
theorem mem_whos {L : List (Int × Int)} {x : Int × Int} (h : x ∈ L) : x.1 ∈ whos L := List.mem_map.2 ⟨x, h, rfl⟩
theorem of_whos {L : List (Int × Int)} {t : Int} (h : t ∈ whos L) : ∃ x, x ∈ L ∧ x.1 = t := List.mem_map.1 h
theorem Chn_mem {b : BX2} (hb : S2 b) : ∀ (L : List (Int × Int)) (p z : Int), Chn b p z L → ∀ x, x ∈ L → (0 ≤ x.1 ∧ x.1 < pX2_traders b) ∧ mPos b x.1 x.2 ∧ p ≤ x.2 := by
  intro L
  induction L with
  | nil => intro p z _ x hx; exact absurd hx List.not_mem_nil
  | cons y L ih =>
    intro p z h x hx
    obtain ⟨h1, h2, h3, h4, h5⟩ := h
    rcases List.mem_cons.1 hx with e | e
    · rw [e]; exact ⟨h2, h3, h1⟩
    · have h6 := ih _ _ h5 x e
      have hf := hb.fr h2.1 h2.2
      exact ⟨h6.1, h6.2.1, by omega⟩
theorem nds_nn {b : BX2} (hb : S2 b) : ∀ (L : List (Int × Int)), (∀ x, x ∈ L → 0 ≤ x.1 ∧ x.1 < pX2_traders b) → 0 ≤ nds b L := by
  intro L
  induction L with
  | nil => intro _; exact Int.le_refl _
  | cons y L ih =>
    intro h
    have h1 := h y List.mem_cons_self
    have h2 := ih (fun x hx => h x (List.mem_cons_of_mem _ hx))
    have hf := hb.fr h1.1 h1.2
    have h3 := mFor_b b y.1 y.2 (by omega)
    show 0 ≤ mFor b y.1 y.2 + nds b L
    omega
theorem Chn_wk {b : BX2} : ∀ (L : List (Int × Int)) {p p' z z' : Int}, Chn b p z L → p' < p → Chn b p' z' L := by
  intro L p p' z z' h hp
  cases L with
  | nil => trivial
  | cons x L =>
    obtain ⟨h1, h2, h3, h4, h5⟩ := h
    exact ⟨by omega, h2, h3, fun e => by omega, h5⟩
theorem Chn_st {b : BX2} (hT : pX2_traders b ≤ 8) : ∀ (L : List (Int × Int)) {p p' z : Int}, Chn b p z L → (∀ x, x ∈ L → p' ≤ x.2) → Chn b p' 0 L := by
  intro L p p' z h hp
  cases L with
  | nil => trivial
  | cons x L =>
    obtain ⟨h1, h2, h3, h4, h5⟩ := h
    exact ⟨hp x List.mem_cons_self, h2, h3, fun _ => zbit_0 h2.1 (by omega), h5⟩
theorem opt_free1 {b : BX2} (hb : S2 b) (p u z l : Int) : opt b (p + 1) u 0 l ≤ opt b p u z l := by
  by_cases hp : pX2_pitches b ≤ p
  · rw [opt_end hp, opt_end (by omega)]; exact Int.le_refl _
  · rw [opt_step hb (by omega) u z l]; exact zmx_ge _ _ _
theorem opt_free {b : BX2} (hb : S2 b) (u l : Int) : ∀ (d : Nat) (p z s : Int), s = p + 1 + d → opt b s u 0 l ≤ opt b p u z l := by
  intro d
  induction d with
  | zero => intro p z s h; rw [show s = p + 1 by omega]; exact opt_free1 hb p u z l
  | succ d ih => intro p z s h; exact Int.le_trans (ih (p + 1) 0 s (by omega)) (opt_free1 hb p u z l)
theorem opt_take {b : BX2} (hb : S2 b) {p u z l t : Int} (t0 : 0 ≤ t) (t1 : t < pX2_traders b) (h : ¬ zbit u t ∧ mPos b t p ∧ ¬ zbit z t ∧ mFor b t p ≤ l) : 16 * mRent b t p + 1 + opt b (p + pX2_fronts b t) (zOr u (zShl 1 t)) (mBehind b t p) (l - mFor b t p) ≤ opt b p u z l := by
  have hT := hb.tra
  have hl := mInRow_lt h.2.1.1
  have hc : cand b p u z l t = 16 * mRent b t p + 1 + opt b (p + pX2_fronts b t) (zOr u (zShl 1 t)) (mBehind b t p) (l - mFor b t p) := by unfold cand; rw [cif_pos h]
  have h2 := zmx_ge' (cand b p u z l) (opt b (p + 1) u 0 l) (pX2_traders b).toNat t t0 (by omega)
  rw [hc] at h2
  rw [opt_step hb (by omega) u z l]
  exact h2
def Fs (b : BX2) (p u z l : Int) (L : List (Int × Int)) : Prop := Chn b p z L ∧ (∀ x, x ∈ L → ¬ zbit u x.1) ∧ (whos L).Nodup ∧ nds b L ≤ l
theorem opt_ge {b : BX2} (hb : S2 b) : ∀ (L : List (Int × Int)) (p u z l : Int), 0 ≤ p → Fs b p u z l L → vals b L ≤ opt b p u z l := by
  have hT := hb.tra
  intro L
  induction L with
  | nil => intro p u z l p0 _; exact (opt_r hb u z l p0).1
  | cons x L ih =>
    intro p u z l p0 hF
    obtain ⟨hC, hu, hN, hl⟩ := hF
    have hM := Chn_mem hb _ _ _ hC
    obtain ⟨h1, h2, h3, h4, h5⟩ := hC
    have hN' : x.1 ∉ whos L ∧ (whos L).Nodup := List.nodup_cons.1 hN
    have hl' : mFor b x.1 x.2 + nds b L ≤ l := hl
    have hnn := nds_nn hb L (fun y hy => (hM y (List.mem_cons_of_mem _ hy)).1)
    have hf := hb.fr h2.1 h2.2
    have key : ∀ z', ¬ zbit z' x.1 → vals b (x :: L) ≤ opt b x.2 u z' l := by
      intro z' hz'
      have h6 := opt_take hb h2.1 h2.2 (p := x.2) (u := u) (z := z') (l := l) ⟨hu x List.mem_cons_self, h3, hz', by omega⟩
      have h7 := ih (x.2 + pX2_fronts b x.1) (zOr u (zShl 1 x.1)) (mBehind b x.1 x.2) (l - mFor b x.1 x.2) (by omega) ⟨h5, (fun y hy => by
        have hy1 := (hM y (List.mem_cons_of_mem _ hy)).1
        rw [zbit_or h2.1 (by omega) hy1.1 (by omega)]
        intro hc
        rcases hc with hc | hc
        · exact hu y (List.mem_cons_of_mem _ hy) hc
        · exact hN'.1 (hc ▸ mem_whos hy)), hN'.2, by omega⟩
      show 16 * mRent b x.1 x.2 + 1 + vals b L ≤ _
      omega
    by_cases e : x.2 = p
    · have h8 := key z (h4 e)
      rw [e] at h8
      exact h8
    · exact Int.le_trans (key 0 (zbit_0 h2.1 (by omega))) (opt_free hb u l (x.2 - p - 1).toNat p z x.2 (by omega))
theorem opt_at {b : BX2} (hb : S2 b) : ∀ (d : Nat) (p u z l : Int), 0 ≤ p → pX2_pitches b - p ≤ d → 0 ≤ l → ∃ L, Fs b p u z l L ∧ vals b L = opt b p u z l := by
  have hT := hb.tra
  intro d
  induction d with
  | zero => intro p u z l p0 hd l0; exact ⟨[], ⟨trivial, fun x hx => absurd hx List.not_mem_nil, List.nodup_nil, l0⟩, by rw [opt_end (by omega)]; rfl⟩
  | succ d ih =>
    intro p u z l p0 hd l0
    by_cases hp : pX2_pitches b ≤ p
    · exact ⟨[], ⟨trivial, fun x hx => absurd hx List.not_mem_nil, List.nodup_nil, l0⟩, by rw [opt_end hp]; rfl⟩
    · rw [opt_step hb (by omega) u z l]
      rcases zmx_in (cand b p u z l) (opt b (p + 1) u 0 l) (pX2_traders b).toNat with h | ⟨t, t0, t1, h⟩
      · obtain ⟨L, ⟨c1, c2, c3, c4⟩, c5⟩ := ih (p + 1) u 0 l (by omega) (by omega) l0
        rw [h]
        exact ⟨L, ⟨Chn_wk L c1 (by omega), c2, c3, c4⟩, c5⟩
      · have t1 : t < pX2_traders b := by omega
        have ho := (opt_r hb (p := p) u z l p0).1
        rw [opt_step hb (by omega) u z l, h] at ho
        have hk : ¬ zbit u t ∧ mPos b t p ∧ ¬ zbit z t ∧ mFor b t p ≤ l := by
          refine Classical.byContradiction (fun x => ?_)
          unfold cand at ho
          rw [cif_neg x] at ho
          omega
        have hf := hb.fr t0 t1
        obtain ⟨L, ⟨c1, c2, c3, c4⟩, c5⟩ := ih (p + pX2_fronts b t) (zOr u (zShl 1 t)) (mBehind b t p) (l - mFor b t p) (by omega) (by omega) (by omega)
        have hM := Chn_mem hb _ _ _ c1
        refine ⟨(t, p) :: L, ⟨⟨Int.le_refl _, ⟨t0, t1⟩, hk.2.1, fun _ => hk.2.2.1, c1⟩, ?_, ?_, ?_⟩, ?_⟩
        · intro y hy
          rcases List.mem_cons.1 hy with e | e
          · rw [e]; exact hk.1
          · have hy1 := (hM y e).1
            have h6 := c2 y e
            rw [zbit_or t0 (by omega) hy1.1 (by omega)] at h6
            exact fun h7 => h6 (.inl h7)
        · refine List.nodup_cons.2 ⟨fun h6 => ?_, c3⟩
          obtain ⟨y, hy, e⟩ := of_whos h6
          have hy1 := (hM y hy).1
          have h7 := c2 y hy
          rw [zbit_or t0 (by omega) hy1.1 (by omega)] at h7
          exact h7 (.inr e)
        · show mFor b t p + nds b L ≤ l
          omega
        · rw [h]
          unfold cand
          rw [cif_pos hk, ← c5]
          rfl
