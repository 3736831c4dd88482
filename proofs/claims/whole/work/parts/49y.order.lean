/-! The order of insertions as one number; a part of a valid placement. -/
def dg (x : Int) : Int := if x = -1 then 8 else x
def ky (v : Int → Int) : Int → Nat → Int
  | _, 0 => 0
  | x, d + 1 => dg (v x) * 9 ^ d + ky v (x + 1) d
theorem p9 (d : Nat) : (0 : Int) < 9 ^ d := Int.pow_pos (by omega)
theorem dg_b {x T : Int} (h0 : -1 ≤ x) (h1 : x < T) (hT : T ≤ 8) : 0 ≤ dg x ∧ dg x ≤ 8 := by unfold dg; split <;> omega
theorem ky_b {v : Int → Int} : ∀ (d : Nat) (x : Int), (∀ i, x ≤ i → i < x + d → -1 ≤ v i ∧ v i < 8) → 0 ≤ ky v x d ∧ ky v x d < 9 ^ d := by
  intro d
  induction d with
  | zero => intro x _; exact ⟨Int.le_refl _, by show (0 : Int) < 1; omega⟩
  | succ d ih =>
    intro x h
    have h1 := ih (x + 1) (fun i i0 i1 => h i (by omega) (by omega))
    have h2 := h x (by omega) (by omega)
    have h3 := dg_b (T := 8) h2.1 h2.2 (by omega)
    have h4 : dg (v x) * 9 ^ d ≤ 8 * 9 ^ d := Int.mul_le_mul_of_nonneg_right h3.2 (by have := p9 d; omega)
    have h5 : 0 ≤ dg (v x) * 9 ^ d := Int.mul_nonneg h3.1 (by have := p9 d; omega)
    show 0 ≤ dg (v x) * 9 ^ d + ky v (x + 1) d ∧ dg (v x) * 9 ^ d + ky v (x + 1) d < 9 ^ (d + 1)
    rw [show (9 : Int) ^ (d + 1) = 9 * 9 ^ d from Int.pow_succ' 9 d]
    omega
theorem ky_lt {a b N k l : Int} (hN : 0 < N) (hk : 0 ≤ k ∧ k < N) (hl : 0 ≤ l ∧ l < N) : (a * N + k < b * N + l ↔ (a < b ∨ (a = b ∧ k < l))) := by
  constructor
  · intro h
    by_cases h1 : a < b
    · exact .inl h1
    · right
      by_cases h2 : a = b
      · rw [h2] at h; exact ⟨h2, by omega⟩
      · have h3 : (b + 1) * N ≤ a * N := Int.mul_le_mul_of_nonneg_right (by omega) (by omega)
        rw [Int.add_mul] at h3
        omega
  · rintro (h | ⟨h1, h2⟩)
    · have h3 : (a + 1) * N ≤ b * N := Int.mul_le_mul_of_nonneg_right (by omega) (by omega)
      rw [Int.add_mul] at h3
      omega
    · rw [h1]; omega
theorem ky_before {v w : Int → Int} : ∀ (d : Nat) (x : Int), (∀ i, x ≤ i → i < x + d → -1 ≤ v i ∧ v i < 8) → (∀ i, x ≤ i → i < x + d → -1 ≤ w i ∧ w i < 8) → (mBefore v w x (x + d) ↔ ky v x d < ky w x d) := by
  intro d
  induction d with
  | zero => intro x _ _; exact ⟨fun ⟨p, h1, h2, _⟩ => by omega, fun h => by have h : (0 : Int) < 0 := h; omega⟩
  | succ d ih =>
    intro x hv hw
    have e := ih (x + 1) (fun i i0 i1 => hv i (by omega) (by omega)) (fun i i0 i1 => hw i (by omega) (by omega))
    have b1 := ky_b d (x + 1) (fun i i0 i1 => hv i (by omega) (by omega))
    have b2 := ky_b d (x + 1) (fun i i0 i1 => hw i (by omega) (by omega))
    have v0 := hv x (by omega) (by omega)
    have w0 := hw x (by omega) (by omega)
    show _ ↔ dg (v x) * 9 ^ d + ky v (x + 1) d < dg (w x) * 9 ^ d + ky w (x + 1) d
    rw [ky_lt (p9 d) b1 b2, ← e]
    have hdg : dg (v x) < dg (w x) ↔ (v x ≠ w x ∧ (w x = -1 ∨ (v x ≠ -1 ∧ v x < w x))) := by
      unfold dg; split <;> split <;> omega
    have hde : dg (v x) = dg (w x) ↔ v x = w x := by unfold dg; split <;> split <;> omega
    rw [hdg, hde]
    constructor
    · rintro ⟨p, p0, p1, p2, p3, p4⟩
      by_cases hp : p = x
      · rw [hp] at p3 p4; exact .inl ⟨p3, p4⟩
      · exact .inr ⟨p2 x (by omega) (by omega), p, by omega, by omega, fun q q0 q1 => p2 q (by omega) q1, p3, p4⟩
    · rintro (⟨h1, h2⟩ | ⟨h1, p, p0, p1, p2, p3, p4⟩)
      · exact ⟨x, by omega, by omega, fun q q0 q1 => by omega, h1, h2⟩
      · refine ⟨p, by omega, by omega, fun q q0 q1 => ?_, p3, p4⟩
        by_cases hq : q = x
        · rw [hq]; exact h1
        · exact p2 q (by omega) q1
theorem ky_inj {v w : Int → Int} : ∀ (d : Nat) (x : Int), (∀ i, x ≤ i → i < x + d → -1 ≤ v i ∧ v i < 8) → (∀ i, x ≤ i → i < x + d → -1 ≤ w i ∧ w i < 8) → ky v x d = ky w x d → ∀ i, x ≤ i → i < x + d → v i = w i := by
  intro d
  induction d with
  | zero => intro x _ _ _ i i0 i1; omega
  | succ d ih =>
    intro x hv hw h i i0 i1
    have b1 := ky_b d (x + 1) (fun i i0 i1 => hv i (by omega) (by omega))
    have b2 := ky_b d (x + 1) (fun i i0 i1 => hw i (by omega) (by omega))
    have v0 := hv x (by omega) (by omega)
    have w0 := hw x (by omega) (by omega)
    have h : dg (v x) * 9 ^ d + ky v (x + 1) d = dg (w x) * 9 ^ d + ky w (x + 1) d := h
    have l1 := ky_lt (a := dg (v x)) (b := dg (w x)) (p9 d) b1 b2
    have l2 := ky_lt (a := dg (w x)) (b := dg (v x)) (p9 d) b2 b1
    have hde : dg (v x) = dg (w x) := by
      refine Classical.byContradiction (fun hne => ?_)
      by_cases hlt : dg (v x) < dg (w x)
      · have := l1.2 (.inl hlt); omega
      · have := l2.2 (.inl (by omega)); omega
    by_cases hi : i = x
    · rw [hi]; unfold dg at hde; split at hde <;> split at hde <;> omega
    · rw [hde] at h
      exact ih (x + 1) (fun i i0 i1 => hv i (by omega) (by omega)) (fun i i0 i1 => hw i (by omega) (by omega)) (by omega) i (by omega) (by omega)
/-! the number that is greatest for the best insertion -/
def mvd (b c : BX2) : Int := zr (fun t => if pX2_starts b t = -1 then 0 else if pX2_starts c t = pX2_starts b t then 0 else 1) 0 (pX2_traders b)
theorem mvd_b {b c : BX2} (hb : S2 b) : 0 ≤ mvd b c ∧ mvd b c ≤ 8 := by
  have hT := hb.tra
  have := zr_bound (f := fun t => if pX2_starts b t = -1 then 0 else if pX2_starts c t = pX2_starts b t then 0 else 1) (l := 0) (u := 1) hT.1 (fun i i0 i1 => by
    by_cases h1 : pX2_starts b i = -1
    · simp [h1]
    · by_cases h2 : pX2_starts c i = pX2_starts b i
      · simp [h1, h2]
      · simp [h1, h2])
  unfold mvd; omega
def N24 : Int := 79766443076872509863361
theorem N24_ge {d : Nat} (h : d ≤ 24) : (9 : Int) ^ d ≤ N24 := by
  have h1 : (9 : Int) ^ d * 9 ^ (24 - d) = 9 ^ 24 := by rw [← Int.pow_add, show d + (24 - d) = 24 by omega]
  have h2 := p9 (24 - d)
  have h3 : (9 : Int) ^ d * 1 ≤ 9 ^ d * 9 ^ (24 - d) := Int.mul_le_mul_of_nonneg_left (by omega) (by have := p9 d; omega)
  have h4 : (9 : Int) ^ 24 = N24 := by decide
  omega
def kyc (b c : BX2) : Int := ky (pX2_standing c) 0 (pX2_pitches b).toNat
def key (b c : BX2) : Int := mIncome c * (100 * N24) - mvd b c * N24 - kyc b c
theorem kyc_b {b c : BX2} (hb : S2 b) (hc : W2 c) (hs : Same c b) : 0 ≤ kyc b c ∧ kyc b c < N24 := by
  have hP := hb.pit
  have hT := hb.tra
  have h1 := ky_b (v := pX2_standing c) (pX2_pitches b).toNat 0 (fun i i0 i1 => by have := hc.std i i0 (by omega); have := hs.2.2.2.2.1; omega)
  have h2 := N24_ge (d := (pX2_pitches b).toNat) (by omega)
  unfold kyc; omega
theorem kyc_before {b c d : BX2} (hb : S2 b) (hc : W2 c) (hd : W2 d) (hs : Same c b) (ht : Same d b) : mBefore (pX2_standing c) (pX2_standing d) 0 (pX2_pitches b) ↔ kyc b c < kyc b d := by
  have hP := hb.pit
  have hT := hb.tra
  have h1 := ky_before (v := pX2_standing c) (w := pX2_standing d) (pX2_pitches b).toNat 0 (fun i i0 i1 => by have := hc.std i i0 (by omega); have := hs.2.2.2.2.1; omega) (fun i i0 i1 => by have := hd.std i i0 (by omega); have := ht.2.2.2.2.1; omega)
  rw [show 0 + ((pX2_pitches b).toNat : Int) = pX2_pitches b by omega] at h1
  exact h1
theorem key_lt {b c d : BX2} (hb : S2 b) (hc : W2 c) (hd : W2 d) (hs : Same c b) (ht : Same d b) : key b c < key b d ↔ (mIncome c < mIncome d ∨ (mIncome c = mIncome d ∧ (mvd b d < mvd b c ∨ (mvd b d = mvd b c ∧ kyc b d < kyc b c)))) := by
  have h1 := kyc_b hb hc hs
  have h2 := kyc_b hb hd ht
  have h3 := mvd_b (b := b) (c := c) hb
  have h4 := mvd_b (b := b) (c := d) hb
  unfold key N24 at *
  omega
theorem key_inj {b c d : BX2} (hb : S2 b) (hc : W2 c) (hd : W2 d) (hs : Same c b) (ht : Same d b) (h : key b c = key b d) : c = d := by
  have h1 := key_lt hb hc hd hs ht
  have h2 := key_lt hb hd hc ht hs
  have hP := hb.pit
  have hT := hb.tra
  have he : kyc b c = kyc b d := by omega
  have hst := ky_inj (v := pX2_standing c) (w := pX2_standing d) (pX2_pitches b).toNat 0 (fun i i0 i1 => by have := hc.std i i0 (by omega); have := hs.2.2.2.2.1; omega) (fun i i0 i1 => by have := hd.std i i0 (by omega); have := ht.2.2.2.2.1; omega) he
  have half : ∀ c d : BX2, W2 c → W2 d → Same c b → Same d b → (∀ i, 0 ≤ i → i < 0 + ((pX2_pitches b).toNat : Int) → pX2_standing c i = pX2_standing d i) → ∀ t, 0 ≤ t → t < 8 → pX2_starts c t ≠ -1 → pX2_starts d t ≠ -1 ∧ pX2_starts d t ≤ pX2_starts c t := by
    intro c d hc hd hs ht hst t t0 t1 hne
    rcases hc.st t t0 t1 with h | ⟨k1, k2, k3⟩
    · exact absurd h hne
    · have hf := hc.s.fr t0 k1
      have e1 := hs.1
      have e2 := hc.lie t (pX2_starts c t) t0 k1 hne (Int.le_refl _) (by omega)
      have e3 := hst (pX2_starts c t) k2 (by omega)
      rcases hd.on (pX2_starts c t) k2 (by omega) with h | ⟨j1, j2, j3, j4, j5⟩
      · omega
      · rw [← e3, e2] at j3 j4
        exact ⟨j3, j4⟩
  refine W2_eq hc hd (hs.trans ht.symm) (fun t t0 t1 => ?_)
  by_cases hne : pX2_starts c t = -1
  · by_cases hne2 : pX2_starts d t = -1
    · rw [hne, hne2]
    · exact absurd hne (half d c hd hc ht hs (fun i i0 i1 => (hst i i0 i1).symm) t t0 t1 hne2).1
  · have q1 := half c d hc hd hs ht hst t t0 t1 hne
    have q2 := half d c hd hc ht hs (fun i i0 i1 => (hst i i0 i1).symm) t t0 t1 q1.1
    omega
theorem sub_hind {c d : BX2} (hc : V2 c) (hd : V2 d) (hs : Same d c) {t s : Int} (t0 : 0 ≤ t) (t1 : t < pX2_traders c) (e1 : pX2_starts c t = -1) (s0 : s ≠ -1) (hst : pX2_starts d t = s) (h : ∀ u, 0 ≤ u → u < 8 → pX2_starts c u = -1 ∨ pX2_starts d u = pX2_starts c u) : mHind c t s = 0 := by
  have ht := hc.s.tra
  have hp := hc.s.pit
  obtain ⟨i1, i2⟩ := hd.2.2.2.1 t t0 (by rw [hs.2.2.2.2.1]; exact t1) (by rw [hst]; exact s0)
  rw [hst] at i1 i2
  rw [hs.inRow] at i1
  rw [hs.rent, hs.2.2.2.2.2.2.2.1] at i2
  have hl := mInRow_lt i1
  have hmin : min (s + pX2_fronts c t) (pX2_pitches c) = s + pX2_fronts c t := by omega
  have hblk : ∀ p, s ≤ p → p < s + pX2_fronts c t → pX2_standing d p = t := by
    intro p p1 p2
    exact hd.w.lie t p t0 (by rw [hs.2.2.2.2.1]; exact t1) (by rw [hst]; exact s0) (by rw [hst]; exact p1) (by rw [hst, hs.2.2.2.2.2.2.1]; exact p2)
  have hold : ∀ p, 0 ≤ p → p < 24 → pX2_standing c p ≠ -1 → pX2_standing d p = pX2_standing c p := by
    intro p p0 p1 hne
    cases hc.w.on p p0 p1 with
    | inl h2 => exact absurd h2 hne
    | inr h2 =>
      have hu : pX2_standing c p ≠ t := by intro he; rw [he] at h2; exact h2.2.2.1 e1
      have hsu : pX2_starts d (pX2_standing c p) = pX2_starts c (pX2_standing c p) := (h _ h2.1 (by omega)).resolve_left h2.2.2.1
      exact hd.w.lie _ p h2.1 (by rw [hs.2.2.2.2.1]; exact h2.2.1) (by rw [hsu]; exact h2.2.2.1) (by rw [hsu]; exact h2.2.2.2.1) (by rw [hsu, hs.2.2.2.2.2.2.1]; exact h2.2.2.2.2)
  have hfree : ∀ p, s ≤ p → p < s + pX2_fronts c t → pX2_standing c p = -1 := by
    intro p p1 p2
    by_cases hne : pX2_standing c p = -1
    · exact hne
    · have k1 := hold p (by omega) (by omega) hne
      have k2 := hblk p p1 p2
      cases hc.w.on p (by omega) (by omega) with
      | inl h2 => exact h2
      | inr h2 => rw [← k1, k2] at h2; exact absurd e1 h2.2.2.1
  refine mHind_0.2 ⟨e1, i1, ?_, i2, ?_, ?_⟩
  · unfold mFree; rw [hmin]; exact hfree
  · have hb := hd.w.busy
    have hk := hd.2.2.2.2.1
    rw [hs.2.2.2.2.2.2.2.2.2.2] at hk
    have e2 : zr (updZ (fun u => if pX2_starts c u = -1 then 0 else mFor c u (pX2_starts c u)) t (mFor c t s)) 0 (pX2_traders c) ≤ zr (fun u => if pX2_starts d u = -1 then 0 else mFor d u (pX2_starts d u)) 0 (pX2_traders d) := by
      rw [hs.2.2.2.2.1]
      apply zr_mono
      intro i i0 i1
      rw [updZ_app]
      show _ ≤ (if pX2_starts d i = -1 then 0 else mFor d i (pX2_starts d i))
      rw [hs.for]
      by_cases hi : i = t
      · rw [if_pos hi, hi, hst, if_neg s0]; exact Int.le_refl _
      · rw [if_neg hi]
        have hfi := hc.s.fr i0 i1
        have hmi := mFor_b c i (pX2_starts d i) (by omega)
        rcases h i i0 (by omega) with e | e
        · rw [if_pos e]
          split
          · exact Int.le_refl _
          · exact hmi.1
        · rw [e]; exact Int.le_refl _
    rw [zr_upd t0 t1, ← hc.w.busy] at e2
    simp only [e1, if_true] at e2
    omega
  · rintro (⟨k1, k2⟩ | ⟨k1, k2⟩)
    · have k1' := k1
      unfold mShare at k1'
      have ho := hc.w.std (s - 1) (by omega) (by omega)
      have hne : pX2_standing c (s - 1) ≠ -1 := k2.1
      have hd1 := hold (s - 1) (by omega) (by omega) hne
      have hd2 := hblk s (by omega) (by omega)
      have hnt : pX2_standing c (s - 1) ≠ t := by
        intro he
        cases hc.w.on (s - 1) (by omega) (by omega) with
        | inl h2 => exact hne h2
        | inr h2 => rw [he] at h2; exact h2.2.2.1 e1
      have hno := hd.2.2.2.2.2 (s - 1) (by omega) (by rw [hs.1]; omega) (by rw [hs.2.1, show s - 1 + 1 = s by omega]; exact k1'.2.2.2) (by rw [hd1]; exact hne) (by rw [show s - 1 + 1 = s by omega, hd2]; omega) (by rw [show s - 1 + 1 = s by omega, hd1, hd2]; exact hnt)
      rw [show s - 1 + 1 = s by omega, hd1, hd2, hs.clash] at hno
      exact hno ((mClash_sy hc.s hc.2.1 t0 t1 (by omega) (by omega)).1 k2)
    · have k1' := k1
      unfold mShare at k1'
      have ho := hc.w.std (s + pX2_fronts c t) (by omega) (by omega)
      have hne : pX2_standing c (s + pX2_fronts c t) ≠ -1 := k2.1
      have hd1 := hold (s + pX2_fronts c t) (by omega) (by omega) hne
      have hd2 := hblk (s + pX2_fronts c t - 1) (by omega) (by omega)
      have hnt : pX2_standing c (s + pX2_fronts c t) ≠ t := by
        intro he
        cases hc.w.on (s + pX2_fronts c t) (by omega) (by omega) with
        | inl h2 => exact hne h2
        | inr h2 => rw [he] at h2; exact h2.2.2.1 e1
      have e9 : s + pX2_fronts c t - 1 + 1 = s + pX2_fronts c t := by omega
      have hno := hd.2.2.2.2.2 (s + pX2_fronts c t - 1) (by omega) (by rw [hs.1]; omega) (by rw [hs.2.1, e9]; exact k1'.2.2.2) (by rw [hd2]; omega) (by rw [e9, hd1]; exact hne) (by rw [e9, hd1, hd2]; exact fun x => hnt x.symm)
      rw [e9, hd1, hd2, hs.clash] at hno
      exact hno k2
