/-! Reading a text: runs of bytes, words, numbers. -/
noncomputable def rn (P : Int → Prop) (p : Int) : Nat → Int
  | 0 => p
  | k + 1 => cif (P p) (rn P (p + 1) k) p
noncomputable def run (P : Int → Prop) (l p : Int) : Int := rn P p (l - p).toNat
theorem run_end {P : Int → Prop} {l p : Int} (h : l ≤ p) : run P l p = p := by
  unfold run; rw [show (l - p).toNat = 0 by omega]; rfl
theorem run_yes {P : Int → Prop} {l p : Int} (h : p < l) (hp : P p) : run P l p = run P l (p + 1) := by
  unfold run
  rw [show (l - p).toNat = (l - (p + 1)).toNat + 1 by omega, rn.eq_2, cif_pos hp]
theorem run_no {P : Int → Prop} {l p : Int} (hp : ¬ P p) : run P l p = p := by
  by_cases h : l ≤ p
  · exact run_end h
  · unfold run
    rw [show (l - p).toNat = (l - (p + 1)).toNat + 1 by omega, rn.eq_2, cif_neg hp]
theorem run_b {P : Int → Prop} {l : Int} : ∀ (k : Nat) (p : Int), p ≤ l → l - p = k → (p ≤ run P l p ∧ run P l p ≤ l) ∧ (∀ q, p ≤ q → q < run P l p → P q) ∧ (run P l p < l → ¬ P (run P l p)) := by
  intro k
  induction k with
  | zero =>
    intro p h1 h2
    rw [run_end (by omega)]
    exact ⟨by omega, fun q q0 q1 => by omega, fun h => by omega⟩
  | succ k ih =>
    intro p h1 h2
    by_cases hp : P p
    · rw [run_yes (by omega) hp]
      obtain ⟨i1, i2, i3⟩ := ih (p + 1) (by omega) (by omega)
      refine ⟨by omega, fun q q0 q1 => ?_, i3⟩
      by_cases hq : q = p
      · rw [hq]; exact hp
      · exact i2 q (by omega) q1
    · rw [run_no hp]
      exact ⟨by omega, fun q q0 q1 => by omega, fun _ => hp⟩
theorem run_p {P : Int → Prop} {l p : Int} (h : p ≤ l) : (p ≤ run P l p ∧ run P l p ≤ l) ∧ (∀ q, p ≤ q → q < run P l p → P q) ∧ (run P l p < l → ¬ P (run P l p)) := run_b (l - p).toNat p h (by omega)
theorem run_is {P : Int → Prop} {l p e : Int} (h0 : p ≤ e) (h1 : e ≤ l) (h2 : ∀ q, p ≤ q → q < e → P q) (h3 : e < l → ¬ P e) : run P l p = e := by
  obtain ⟨⟨i1, i2⟩, i3, i4⟩ := run_p (P := P) (l := l) (p := p) (by omega)
  refine Classical.byContradiction (fun hne => ?_)
  by_cases hlt : run P l p < e
  · exact i4 (by omega) (h2 _ i1 hlt)
  · exact h3 (by omega) (i3 e h0 (by omega))
theorem run_run {P : Int → Prop} {l p : Int} (h : p ≤ l) : run P l (run P l p) = run P l p := by
  obtain ⟨⟨i1, i2⟩, i3, i4⟩ := run_p (P := P) (l := l) (p := p) h
  exact run_is (Int.le_refl _) i2 (fun q q0 q1 => by omega) i4
def Spc (v : Int → Int) (q : Int) : Prop := v q = 32
def Let (v : Int → Int) (q : Int) : Prop := 97 ≤ v q ∧ v q ≤ 122
def Dig (v : Int → Int) (q : Int) : Prop := 48 ≤ v q ∧ v q ≤ 57
/-! numbers: the reference's, and the class's beside it -/
def nR (v : Int → Int) (a p : Int) : Nat → Int
  | 0 => a
  | k + 1 => nR v (if a < 100000 then 10 * a + v p - 48 else a) (p + 1) k
theorem nR_b {v : Int → Int} : ∀ (k : Nat) (a p : Int), 0 ≤ a → a ≤ 999999 → (∀ q, p ≤ q → q < p + k → Dig v q) → 0 ≤ nR v a p k ∧ nR v a p k ≤ 999999 := by
  intro k
  induction k with
  | zero => intro a p h0 h1 _; exact ⟨h0, h1⟩
  | succ k ih =>
    intro a p h0 h1 hd
    have h2 := hd p (by omega) (by omega)
    unfold Dig at h2
    show 0 ≤ nR v (if a < 100000 then 10 * a + v p - 48 else a) (p + 1) k ∧ nR v (if a < 100000 then 10 * a + v p - 48 else a) (p + 1) k ≤ 999999
    refine ih _ (p + 1) ?_ ?_ (fun q q0 q1 => hd q (by omega) (by omega))
    · split <;> omega
    · split <;> omega
noncomputable def numR (v : Int → Int) (l p : Int) : Int := nR v 0 p (run (Dig v) l p - p).toNat
theorem numR_b {v : Int → Int} {l p : Int} (h : p ≤ l) : 0 ≤ numR v l p ∧ numR v l p ≤ 999999 := by
  obtain ⟨⟨i1, i2⟩, i3, i4⟩ := run_p (P := Dig v) (l := l) (p := p) h
  exact nR_b _ 0 p (by omega) (by omega) (fun q q0 q1 => i3 q q0 (by omega))
/-! words: of the reference by number, of the class by literal -/
def rst : List Nat := [1, 5, 12, 18, 24, 30, 36, 43]
def rle : List Nat := [3, 6, 5, 5, 5, 5, 6, 4]
def rch (k i : Nat) : Int := (jsCh 8 (rst.getD k 0 + i)).toInt
def WA (v : Int → Int) (p e : Int) (k : Nat) : Prop := e - p = rle.getD k 0 ∧ ∀ i : Nat, i < rle.getD k 0 → v (p + i) = rch k i
noncomputable def kwF (v : Int → Int) (p e : Int) (k : Nat) : Nat → Int
  | 0 => 8
  | d + 1 => cif (WA v p e k) (k : Int) (kwF v p e (k + 1) d)
theorem rch_k : ∀ k : Nat, k < 8 → ((∀ i : Nat, i < rle.getD k 0 → rch k i ≠ 32 ∧ 97 ≤ rch k i ∧ rch k i ≤ 122) ∧ rch k (rle.getD k 0) = 32 ∧ rst.getD k 0 + rle.getD k 0 < 48 ∧ 3 ≤ rle.getD k 0 ∧ rle.getD k 0 ≤ 6 ∧ (k < 7 → rst.getD k 0 + rle.getD k 0 + 1 = rst.getD (k + 1) 0)) := by decide
theorem rch_uq : ∀ k : Nat, k < 8 → ∀ j : Nat, j < 8 → rle.getD k 0 = rle.getD j 0 → rch k 0 = rch j 0 → rch k 1 = rch j 1 → k = j := by decide
theorem WA_uq {v : Int → Int} {p e : Int} {k j : Nat} (hk : k < 8) (hj : j < 8) (h1 : WA v p e k) (h2 : WA v p e j) : k = j := by
  have a1 := (rch_k k hk).2.2.2.1
  have a2 := (rch_k j hj).2.2.2.1
  have e1 : rle.getD k 0 = rle.getD j 0 := by
    have := h1.1
    have := h2.1
    omega
  have e2 := (h1.2 0 (by omega)).symm.trans (h2.2 0 (by omega))
  have e3 := (h1.2 1 (by omega)).symm.trans (h2.2 1 (by omega))
  exact rch_uq k hk j hj e1 e2 e3
theorem kwF_r {v : Int → Int} {p e : Int} : ∀ (d k : Nat), k + d = 8 → (kwF v p e k d = 8 ∧ ∀ j, k ≤ j → j < 8 → ¬ WA v p e j) ∨ ∃ j : Nat, k ≤ j ∧ j < 8 ∧ kwF v p e k d = j ∧ WA v p e j := by
  intro d
  induction d with
  | zero => intro k h; exact .inl ⟨rfl, fun j j0 j1 => by omega⟩
  | succ d ih =>
    intro k h
    rw [kwF.eq_2]
    by_cases hw : WA v p e k
    · rw [cif_pos hw]; exact .inr ⟨k, Nat.le_refl _, by omega, rfl, hw⟩
    · rw [cif_neg hw]
      rcases ih (k + 1) (by omega) with ⟨i1, i2⟩ | ⟨j, j1, j2, j3, j4⟩
      · refine .inl ⟨i1, fun j j0 j1 => ?_⟩
        by_cases hj : j = k
        · rw [hj]; exact hw
        · exact i2 j (by omega) j1
      · exact .inr ⟨j, by omega, j2, j3, j4⟩
noncomputable def kw (v : Int → Int) (p e : Int) : Int := kwF v p e 0 8
theorem kw_iff {v : Int → Int} {p e : Int} {k : Nat} (hk : k < 8) : kw v p e = (k : Int) ↔ WA v p e k := by
  unfold kw
  rcases kwF_r (v := v) (p := p) (e := e) 8 0 rfl with ⟨i1, i2⟩ | ⟨j, j1, j2, j3, j4⟩
  · rw [i1]
    exact ⟨fun h => by omega, fun h => absurd h (i2 k (by omega) hk)⟩
  · rw [j3]
    constructor
    · intro h
      have : j = k := by omega
      rw [← this]; exact j4
    · intro h
      rw [WA_uq j2 hk j4 h]
theorem kw_b {v : Int → Int} {p e : Int} : 0 ≤ kw v p e ∧ kw v p e ≤ 8 := by
  unfold kw
  rcases kwF_r (v := v) (p := p) (e := e) 8 0 rfl with ⟨i1, i2⟩ | ⟨j, j1, j2, j3, j4⟩
  · omega
  · omega
/-! the token at a place -/
def Tok (v : Int → Int) (l : Int) (r : BX6) : Prop :=
  (l ≤ pX6_at r ∧ pX6_kind r = 11 ∧ pX6_behind r = pX6_at r) ∨
  (pX6_at r < l ∧ Let v (pX6_at r) ∧ pX6_behind r = run (Let v) l (pX6_at r) ∧ pX6_kind r = kw v (pX6_at r) (pX6_behind r)) ∨
  (pX6_at r < l ∧ Dig v (pX6_at r) ∧ pX6_behind r = run (Dig v) l (pX6_at r) ∧ pX6_kind r = 9 ∧ pX6_number r = numR v l (pX6_at r)) ∨
  (pX6_at r < l ∧ ¬ Let v (pX6_at r) ∧ ¬ Dig v (pX6_at r) ∧ pX6_behind r = pX6_at r + 1 ∧ pX6_kind r = if v (pX6_at r) = 59 then 10 else 12)
/-! the class's word j stands at p -/
def cmp : List Nat := [0, 1, 5, 6, 7, 2, 3, 4]
def WM (v : Int → Int) (l p : Int) (j : Nat) : Prop := p + (jsLen.getD j 0 : Nat) ≤ l ∧ ¬ (p + (jsLen.getD j 0 : Nat) < l ∧ Let v (p + (jsLen.getD j 0 : Nat))) ∧ ∀ i : Nat, i < jsLen.getD j 0 → v (p + i) = (jsCh j i).toInt
theorem cmp_k : ∀ j : Nat, j < 8 → cmp.getD j 0 < 8 ∧ jsLen.getD j 0 = rle.getD (cmp.getD j 0) 0 ∧ ∀ i : Nat, i < jsLen.getD j 0 → (jsCh j i).toInt = rch (cmp.getD j 0) i := by decide
theorem Tok_word {v : Int → Int} {l : Int} {r : BX6} (h : Tok v l r) (h1 : pX6_at r ≤ l) {j : Nat} (hj : j < 8) : (WM v l (pX6_at r) j ↔ pX6_kind r = ((cmp.getD j 0 : Nat) : Int)) ∧ (WM v l (pX6_at r) j → pX6_behind r = pX6_at r + (jsLen.getD j 0 : Nat)) := by
  obtain ⟨c1, c2, c3⟩ := cmp_k j hj
  obtain ⟨k1, k2, k3, k4, k5, k6⟩ := rch_k _ c1
  have hlet : WM v l (pX6_at r) j → pX6_at r < l ∧ Let v (pX6_at r) ∧ run (Let v) l (pX6_at r) = pX6_at r + (jsLen.getD j 0 : Nat) := by
    intro hw
    obtain ⟨w1, w2, w3⟩ := hw
    have hl : ∀ q, pX6_at r ≤ q → q < pX6_at r + (jsLen.getD j 0 : Nat) → Let v q := by
      intro q q0 q1
      have e1 := w3 (q - pX6_at r).toNat (by omega)
      rw [show pX6_at r + ((q - pX6_at r).toNat : Int) = q by omega, c3 _ (by omega)] at e1
      have e2 := k1 (q - pX6_at r).toNat (by omega)
      unfold Let; omega
    refine ⟨by omega, hl _ (Int.le_refl _) (by omega), run_is (by omega) w1 hl (fun h3 h4 => w2 ⟨h3, h4⟩)⟩
  have hWA : WM v l (pX6_at r) j → pX6_behind r = pX6_at r + (jsLen.getD j 0 : Nat) → WA v (pX6_at r) (pX6_behind r) (cmp.getD j 0) := by
    intro hw hb
    refine ⟨by rw [hb, c2]; omega, fun i hi => ?_⟩
    rw [hw.2.2 i (by omega), c3 i (by omega)]
  rcases h with ⟨a1, a2, a3⟩ | ⟨a1, a2, a3, a4⟩ | ⟨a1, a2, a3, a4, a5⟩ | ⟨a1, a2, a3, a4, a5⟩
  · refine ⟨⟨fun hw => ?_, fun hk => ?_⟩, fun hw => ?_⟩
    · have := (hlet hw).1; omega
    · omega
    · have := (hlet hw).1; omega
  · refine ⟨⟨fun hw => ?_, fun hk => ?_⟩, fun hw => ?_⟩
    · have hb : pX6_behind r = pX6_at r + (jsLen.getD j 0 : Nat) := by rw [a3]; exact (hlet hw).2.2
      rw [a4]
      exact (kw_iff c1).2 (hWA hw hb)
    · rw [a4] at hk
      have hw := (kw_iff c1).1 hk
      obtain ⟨⟨i1, i2⟩, i3, i4⟩ := run_p (P := Let v) (l := l) (p := pX6_at r) h1
      rw [← a3] at i1 i2 i3 i4
      have hb : pX6_behind r = pX6_at r + (jsLen.getD j 0 : Nat) := by have := hw.1; omega
      refine ⟨by omega, fun h5 => ?_, fun i hi => ?_⟩
      · rw [← hb] at h5; exact i4 h5.1 h5.2
      · rw [hw.2 i (by omega), c3 i hi]
    · rw [a3]; exact (hlet hw).2.2
  · have hno : WM v l (pX6_at r) j → False := fun hw => by
      have := (hlet hw).2.1
      unfold Let at this
      unfold Dig at a2
      omega
    exact ⟨⟨fun hw => (hno hw).elim, fun hk => by omega⟩, fun hw => (hno hw).elim⟩
  · have hno : WM v l (pX6_at r) j → False := fun hw => a2 (hlet hw).2.1
    refine ⟨⟨fun hw => (hno hw).elim, fun hk => ?_⟩, fun hw => (hno hw).elim⟩
    rw [a5] at hk
    split at hk <;> omega
theorem Tok_dig {v : Int → Int} {l : Int} {r : BX6} (h : Tok v l r) : pX6_kind r = 9 ↔ (pX6_at r < l ∧ Dig v (pX6_at r)) := by
  rcases h with ⟨a1, a2, a3⟩ | ⟨a1, a2, a3, a4⟩ | ⟨a1, a2, a3, a4, a5⟩ | ⟨a1, a2, a3, a4, a5⟩
  · exact ⟨fun h => by omega, fun h => by omega⟩
  · have := kw_b (v := v) (p := pX6_at r) (e := pX6_behind r)
    refine ⟨fun h => by omega, fun h => ?_⟩
    have h2 := h.2
    unfold Dig at h2
    unfold Let at a2
    omega
  · exact ⟨fun _ => ⟨a1, a2⟩, fun _ => a4⟩
  · refine ⟨fun h => ?_, fun h => absurd h.2 a3⟩
    rw [a5] at h
    split at h <;> omega
theorem Tok_semi {v : Int → Int} {l : Int} {r : BX6} (h : Tok v l r) : pX6_kind r = 10 ↔ (pX6_at r < l ∧ v (pX6_at r) = 59) := by
  rcases h with ⟨a1, a2, a3⟩ | ⟨a1, a2, a3, a4⟩ | ⟨a1, a2, a3, a4, a5⟩ | ⟨a1, a2, a3, a4, a5⟩
  · exact ⟨fun h => by omega, fun h => by omega⟩
  · have := kw_b (v := v) (p := pX6_at r) (e := pX6_behind r)
    refine ⟨fun h => by omega, fun h => ?_⟩
    unfold Let at a2
    omega
  · refine ⟨fun h => by omega, fun h => ?_⟩
    unfold Dig at a2
    omega
  · rw [a5]
    constructor
    · intro h
      split at h
      · rename_i h2; exact ⟨a1, h2⟩
      · omega
    · intro h
      rw [if_pos h.2]
theorem Tok_b {v : Int → Int} {l : Int} {r : BX6} (h : Tok v l r) (h1 : pX6_at r ≤ l) : pX6_at r ≤ pX6_behind r ∧ pX6_behind r ≤ l := by
  rcases h with ⟨a1, a2, a3⟩ | ⟨a1, a2, a3, a4⟩ | ⟨a1, a2, a3, a4, a5⟩ | ⟨a1, a2, a3, a4, a5⟩
  · omega
  · have := (run_p (P := Let v) (l := l) (p := pX6_at r) h1).1; omega
  · have := (run_p (P := Dig v) (l := l) (p := pX6_at r) h1).1; omega
  · omega
