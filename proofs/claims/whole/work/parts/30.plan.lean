/-! The best placement, by pitches from the right: the one value that both planners hold. -/
def zmx (c : Int → Int) (i : Int) : Nat → Int
  | 0 => i
  | k + 1 => max (zmx c i k) (c k)
theorem zmx_congr {c d : Int → Int} {i j : Int} (hi : i = j) : ∀ k : Nat, (∀ t : Int, 0 ≤ t → t < k → c t = d t) → zmx c i k = zmx d j k := by
  intro k
  induction k with
  | zero => intro _; exact hi
  | succ k ih =>
    intro h
    show max (zmx c i k) (c k) = max (zmx d j k) (d k)
    rw [ih (fun t h1 h2 => h t h1 (by omega)), h k (by omega) (by omega)]
theorem zmx_ge (c : Int → Int) (i : Int) : ∀ k : Nat, i ≤ zmx c i k := by
  intro k
  induction k with
  | zero => exact Int.le_refl _
  | succ k ih => show i ≤ max (zmx c i k) (c k); omega
theorem zmx_ge' (c : Int → Int) (i : Int) : ∀ (k : Nat) (t : Int), 0 ≤ t → t < k → c t ≤ zmx c i k := by
  intro k
  induction k with
  | zero => intro t h0 h1; omega
  | succ k ih =>
    intro t h0 h1
    show c t ≤ max (zmx c i k) (c k)
    by_cases h : t = k
    · rw [h]; omega
    · have := ih t h0 (by omega); omega
theorem zmx_in (c : Int → Int) (i : Int) : ∀ (k : Nat), zmx c i k = i ∨ ∃ t : Int, 0 ≤ t ∧ t < k ∧ zmx c i k = c t := by
  intro k
  induction k with
  | zero => exact .inl rfl
  | succ k ih =>
    have h : zmx c i (k + 1) = max (zmx c i k) (c k) := rfl
    by_cases h1 : zmx c i k ≤ c k
    · right; exact ⟨k, by omega, by omega, by omega⟩
    · rcases ih with h2 | ⟨t, h2, h3, h4⟩
      · left; omega
      · right; exact ⟨t, h2, by omega, by omega⟩
theorem zmx_le {c : Int → Int} {i m : Int} (hi : i ≤ m) : ∀ (k : Nat), (∀ t : Int, 0 ≤ t → t < k → c t ≤ m) → zmx c i k ≤ m := by
  intro k h
  rcases zmx_in c i k with h1 | ⟨t, h2, h3, h4⟩
  · omega
  · have := h t h2 h3; omega
def mPos (s : BX2) (t p : Int) : Prop := mInRow s t p ∧ mRent s t p ≤ pX2_limits s t
noncomputable def foeF (s : BX2) (t : Int) : Nat → Int
  | 0 => 0
  | k + 1 => cif ((k : Int) ≠ t ∧ mClash s t k) (zOr (foeF s t k) (zShl 1 k)) (foeF s t k)
noncomputable def foeV (s : BX2) (t : Int) : Int := foeF s t (pX2_traders s).toNat
noncomputable def mBehind (s : BX2) (t p : Int) : Int := cif (mShare s (p + pX2_fronts s t - 1) (p + pX2_fronts s t)) (foeV s t) 0
noncomputable def Opt (s : BX2) : Nat → Int → Int → Int → Int → Int
  | 0, _, _, _, _ => 0
  | d + 1, p, u, z, l => if pX2_pitches s ≤ p then 0 else
      zmx (fun t => cif (¬ zbit u t ∧ mPos s t p ∧ ¬ zbit z t ∧ mFor s t p ≤ l) (16 * mRent s t p + 1 + Opt s d (p + pX2_fronts s t) (zOr u (zShl 1 t)) (mBehind s t p) (l - mFor s t p)) (-1)) (Opt s d (p + 1) u 0 l) (pX2_traders s).toNat
theorem Opt_end {s : BX2} {p : Int} (h : pX2_pitches s ≤ p) (u z l : Int) : ∀ d : Nat, Opt s d p u z l = 0 := by
  intro d
  cases d with
  | zero => rfl
  | succ d => rw [Opt.eq_2, if_pos h]
theorem Opt_fuel {s : BX2} (hs : S2 s) : ∀ (d e : Nat) (p u z l : Int), pX2_pitches s - p ≤ d → pX2_pitches s - p ≤ e → Opt s d p u z l = Opt s e p u z l := by
  intro d
  induction d with
  | zero => intro e p u z l h1 h2; rw [Opt_end (by omega) u z l, Opt_end (by omega) u z l]
  | succ d ih =>
    intro e p u z l h1 h2
    by_cases hp : pX2_pitches s ≤ p
    · rw [Opt_end hp, Opt_end hp]
    · cases e with
      | zero => omega
      | succ e =>
        rw [Opt.eq_2, Opt.eq_2, if_neg hp, if_neg hp]
        refine zmx_congr (ih e _ _ _ _ (by omega) (by omega)) _ (fun t t0 t1 => ?_)
        have ht := hs.tra
        have hf := hs.fr t0 (by omega)
        rw [ih e (p + pX2_fronts s t) _ _ _ (by omega) (by omega)]
noncomputable def opt (s : BX2) (p u z l : Int) : Int := Opt s (pX2_pitches s - p).toNat p u z l
noncomputable def cand (s : BX2) (p u z l t : Int) : Int := cif (¬ zbit u t ∧ mPos s t p ∧ ¬ zbit z t ∧ mFor s t p ≤ l) (16 * mRent s t p + 1 + opt s (p + pX2_fronts s t) (zOr u (zShl 1 t)) (mBehind s t p) (l - mFor s t p)) (-1)
theorem opt_end {s : BX2} {p : Int} (h : pX2_pitches s ≤ p) (u z l : Int) : opt s p u z l = 0 := Opt_end h u z l _
theorem opt_step {s : BX2} (hs : S2 s) {p : Int} (h : p < pX2_pitches s) (u z l : Int) : opt s p u z l = zmx (cand s p u z l) (opt s (p + 1) u 0 l) (pX2_traders s).toNat := by
  unfold opt
  rw [show (pX2_pitches s - p).toNat = (pX2_pitches s - (p + 1)).toNat + 1 by omega, Opt.eq_2, if_neg (by omega)]
  refine zmx_congr rfl _ (fun t t0 t1 => ?_)
  have ht := hs.tra
  have hf := hs.fr t0 (by omega)
  unfold cand opt
  rw [Opt_fuel hs (pX2_pitches s - (p + 1)).toNat (pX2_pitches s - (p + pX2_fronts s t)).toNat (p + pX2_fronts s t) _ _ _ (by omega) (by omega)]
theorem opt_b {s : BX2} (hs : S2 s) : ∀ (d : Nat) (p u z l : Int), 0 ≤ p → pX2_pitches s - p ≤ d → 0 ≤ opt s p u z l ∧ opt s p u z l ≤ 48000 * d := by
  intro d
  induction d with
  | zero => intro p u z l h0 h1; rw [opt_end (by omega)]; omega
  | succ d ih =>
    intro p u z l h0 h1
    by_cases hp : pX2_pitches s ≤ p
    · rw [opt_end hp]; omega
    · rw [opt_step hs (by omega)]
      have h2 := ih (p + 1) u 0 l (by omega) (by omega)
      refine ⟨?_, ?_⟩
      · have := zmx_ge (cand s p u z l) (opt s (p + 1) u 0 l) (pX2_traders s).toNat; omega
      · refine zmx_le (by omega) _ (fun t t0 t1 => ?_)
        have ht := hs.tra
        have hf := hs.fr t0 (by omega)
        unfold cand
        by_cases hc : ¬ zbit u t ∧ mPos s t p ∧ ¬ zbit z t ∧ mFor s t p ≤ l
        · rw [cif_pos hc]
          have h3 := ih (p + pX2_fronts s t) (zOr u (zShl 1 t)) (mBehind s t p) (l - mFor s t p) (by omega) (by omega)
          have h4 := mRent_b hs t0 (by omega) h0
          omega
        · rw [cif_neg hc]; omega
theorem opt_r {s : BX2} (hs : S2 s) {p : Int} (u z l : Int) (h0 : 0 ≤ p) : 0 ≤ opt s p u z l ∧ opt s p u z l ≤ 1152000 := by
  have hp := hs.pit
  have := opt_b hs 24 p u z l h0 (by omega)
  omega
/-! what a planner holds of its street -/
noncomputable def kList (s : BX2) : Nat → List Int
  | 0 => [0]
  | k + 1 => cif (foeV s k ∈ kList s k) (kList s k) (kList s k ++ [foeV s k])
noncomputable def kAll (s : BX2) : List Int := kList s (pX2_traders s).toNat
noncomputable def sNeed (s : BX2) (t : Int) : Int := zmx (fun p => cif (mPos s t p) (mFor s t p) 0) 0 (pX2_pitches s).toNat
noncomputable def sLev (s : BX2) : Int := min (pX2_covers s + 1) (zr (sNeed s) 0 (pX2_traders s)) + 1
def P3 (q : BX3) : Prop := S2 (pX3_street q) ∧ 1024 ≤ pX3_tableN q ∧ pX3_tableN q ≤ 345600
def Pq (q : BX3) : Prop :=
  P3 q ∧ pX3_sets q = zShl 1 (pX2_traders (pX3_street q)) ∧ pX3_kinds q = (kAll (pX3_street q)).length ∧ pX3_levels q = sLev (pX3_street q) ∧
  (pX2_pitches (pX3_street q) + 1) * pX3_sets q * pX3_kinds q * pX3_levels q ≤ pX3_tableN q ∧
  (∀ i : Nat, (i : Int) < pX3_kinds q → pX3_barred q i = (kAll (pX3_street q)).getD i 0) ∧
  (∀ t, 0 ≤ t → t < pX2_traders (pX3_street q) → 0 ≤ pX3_kindOf q t ∧ pX3_kindOf q t < pX3_kinds q ∧ pX3_kindOf q t = ((kAll (pX3_street q)).idxOf (foeV (pX3_street q) t) : Int)) ∧
  (∀ t p, 0 ≤ t → t < pX2_traders (pX3_street q) → 0 ≤ p → p < pX2_pitches (pX3_street q) →
    pX3_worths q (t * 24 + p) = cif (mPos (pX3_street q) t p) (16 * mRent (pX3_street q) t p + 1) 0 ∧
    pX3_needs q (t * 24 + p) = mFor (pX3_street q) t p ∧
    pX3_kindsBehind q (t * 24 + p) = cif (mShare (pX3_street q) (p + pX2_fronts (pX3_street q) t - 1) (p + pX2_fronts (pX3_street q) t)) (pX3_kindOf q t) 0) ∧
  (∀ p g k l, 0 ≤ p → p ≤ pX2_pitches (pX3_street q) → 0 ≤ g → g < pX3_sets q → 0 ≤ k → k < pX3_kinds q → 0 ≤ l → l < pX3_levels q →
    pX3_table q (((p * pX3_sets q + g) * pX3_kinds q + k) * pX3_levels q + l) = opt (pX3_street q) p g (pX3_barred q k) l)
