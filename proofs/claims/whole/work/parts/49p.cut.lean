/-! A chain cut at a pitch. -/
def Zip (b : BX2) (x : Int × Int) (R B : List (Int × Int)) : Prop := (0 ≤ x.1 ∧ x.1 < pX2_traders b) ∧ mPos b x.1 x.2 ∧ Rch b x.2 (mAhead b x.1 x.2) R ∧ Chn b (x.2 + pX2_fronts b x.1) (mBehind b x.1 x.2) B
theorem adj {b : BX2} (hb : S2 b) (hy : Sy b) {t s t' : Int} (t0 : 0 ≤ t) (t1 : t < pX2_traders b) (u0 : 0 ≤ t') (u1 : t' < pX2_traders b) : zbit (mBehind b t s) t' ↔ zbit (mAhead b t' (s + pX2_fronts b t)) t := by
  have hT := hb.tra
  unfold mBehind mAhead
  by_cases h : mShare b (s + pX2_fronts b t - 1) (s + pX2_fronts b t)
  · rw [cif_pos h, cif_pos h, foeV_bit hb t u0 u1, foeV_bit hb t' t0 t1, mClash_sy hb hy t0 t1 u0 u1]
    exact ⟨fun x => ⟨fun e => x.1 e.symm, x.2⟩, fun x => ⟨fun e => x.1 e.symm, x.2⟩⟩
  · rw [cif_neg h, cif_neg h]
    exact ⟨fun x => absurd x (zbit_0 u0 (by omega)), fun x => absurd x (zbit_0 t0 (by omega))⟩
theorem Zip_step {b : BX2} (hb : S2 b) (hy : Sy b) (x y : Int × Int) (R B : List (Int × Int)) : Zip b x R (y :: B) ↔ Zip b y (x :: R) B := by
  constructor
  · intro h
    obtain ⟨h1, h2, h3, k1, k2, k3, k4, k5⟩ := h
    refine ⟨k2, k3, ⟨k1, h1, h2, fun e => ?_, h3⟩, k5⟩
    rw [← e, ← adj hb hy h1.1 h1.2 k2.1 k2.2]
    exact k4 e.symm
  · intro h
    obtain ⟨k2, k3, ⟨k1, h1, h2, k4, h3⟩, k5⟩ := h
    refine ⟨h1, h2, h3, k1, k2, k3, fun e => ?_, k5⟩
    have h6 := k4 e.symm
    rw [e, ← adj hb hy h1.1 h1.2 k2.1 k2.2] at h6
    exact h6
theorem Zip_run {b : BX2} (hb : S2 b) (hy : Sy b) (x : Int × Int) (B : List (Int × Int)) : ∀ (A : List (Int × Int)) (y : Int × Int) (R : List (Int × Int)), Zip b y R (A ++ x :: B) ↔ Zip b x (A.reverse ++ y :: R) B := by
  intro A
  induction A with
  | nil => intro y R; exact Zip_step hb hy y x R B
  | cons a A ih =>
    intro y R
    rw [List.cons_append, Zip_step hb hy, ih a (y :: R), List.reverse_cons, List.append_assoc]
    rfl
theorem Chn_zip0 {b : BX2} (hb : S2 b) (x : Int × Int) (B : List (Int × Int)) : Chn b 0 0 (x :: B) ↔ Zip b x [] B := by
  have hT := hb.tra
  constructor
  · intro h
    obtain ⟨h1, h2, h3, h4, h5⟩ := h
    exact ⟨h2, h3, trivial, h5⟩
  · intro h
    obtain ⟨h1, h2, _, h4⟩ := h
    exact ⟨(mInRow_lt h2.1).1, h1, h2, fun _ => zbit_0 h1.1 (by omega), h4⟩
theorem Chn_zip {b : BX2} (hb : S2 b) (hy : Sy b) (x : Int × Int) (A B : List (Int × Int)) : Chn b 0 0 (A ++ x :: B) ↔ Zip b x A.reverse B := by
  cases A with
  | nil => exact Chn_zip0 hb x B
  | cons a A => rw [List.cons_append, Chn_zip0 hb, Zip_run hb hy, List.reverse_cons]
theorem Chn_zip' {b : BX2} (hb : S2 b) (hy : Sy b) (x : Int × Int) (R B : List (Int × Int)) : Chn b 0 0 (R.reverse ++ x :: B) ↔ Zip b x R B := by
  rw [Chn_zip hb hy, List.reverse_reverse]
theorem Chn_gap {b : BX2} (hb : S2 b) (hy : Sy b) {p : Int} (p0 : 0 ≤ p) (R B : List (Int × Int)) (hR : Rch b p 0 R) (hB : Chn b (p + 1) 0 B) : Chn b 0 0 (R.reverse ++ B) := by
  cases R with
  | nil => exact Chn_wk B hB (by omega)
  | cons y R =>
    obtain ⟨h1, h2, h3, h4, h5⟩ := hR
    rw [List.reverse_cons, List.append_assoc]
    show Chn b 0 0 (R.reverse ++ y :: B)
    rw [Chn_zip' hb hy]
    exact ⟨h2, h3, h5, Chn_wk B hB (by omega)⟩
theorem gap_Chn {b : BX2} (hb : S2 b) (hy : Sy b) {p : Int} (R B : List (Int × Int)) (h : Chn b 0 0 (R.reverse ++ B)) (hR : ∀ y, y ∈ R → y.2 + pX2_fronts b y.1 ≤ p) (hB : ∀ y, y ∈ B → p < y.2) : Rch b p 0 R ∧ Chn b (p + 1) 0 B := by
  have hT := hb.tra
  cases R with
  | nil => exact ⟨trivial, Chn_st hT.2 B h (fun x hx => by have := hB x hx; omega)⟩
  | cons y R =>
    rw [List.reverse_cons, List.append_assoc] at h
    have h : Chn b 0 0 (R.reverse ++ y :: B) := h
    rw [Chn_zip' hb hy] at h
    obtain ⟨h1, h2, h3, h4⟩ := h
    exact ⟨⟨hR y List.mem_cons_self, h1, h2, fun _ => zbit_0 h1.1 (by omega), h3⟩, Chn_st hT.2 B h4 (fun x hx => by have := hB x hx; omega)⟩
theorem split_at {b : BX2} (hb : S2 b) (p : Int) : ∀ (L : List (Int × Int)) (q z : Int), Chn b q z L → ∃ A B, L = A ++ B ∧ (∀ y, y ∈ A → y.2 + pX2_fronts b y.1 ≤ p) ∧ ((∀ y, y ∈ B → p < y.2) ∨ ∃ y B', B = y :: B' ∧ y.2 ≤ p ∧ p < y.2 + pX2_fronts b y.1) := by
  intro L
  induction L with
  | nil => intro q z _; exact ⟨[], [], rfl, fun y hy => absurd hy List.not_mem_nil, .inl (fun y hy => absurd hy List.not_mem_nil)⟩
  | cons y L ih =>
    intro q z h
    obtain ⟨h1, h2, h3, h4, h5⟩ := h
    have hf := hb.fr h2.1 h2.2
    by_cases e1 : y.2 + pX2_fronts b y.1 ≤ p
    · obtain ⟨A, B, a1, a2, a3⟩ := ih _ _ h5
      refine ⟨y :: A, B, by rw [a1]; rfl, ?_, a3⟩
      intro x hx
      rcases List.mem_cons.1 hx with e | e
      · rw [e]; exact e1
      · exact a2 x e
    · by_cases e2 : p < y.2
      · refine ⟨[], y :: L, rfl, fun y hy => absurd hy List.not_mem_nil, .inl ?_⟩
        intro x hx
        rcases List.mem_cons.1 hx with e | e
        · rw [e]; exact e2
        · have := (Chn_mem hb _ _ _ h5 x e).2.2
          omega
      · exact ⟨[], y :: L, rfl, fun y hy => absurd hy List.not_mem_nil, .inr ⟨y, L, rfl, by omega, by omega⟩⟩
/-! sums don't rest on the order -/
theorem vals_perm (b : BX2) {L M : List (Int × Int)} (h : L.Perm M) : vals b L = vals b M ∧ nds b L = nds b M := by
  induction h with
  | nil => exact ⟨rfl, rfl⟩
  | cons x _ ih =>
    refine ⟨?_, ?_⟩
    · show 16 * mRent b x.1 x.2 + 1 + _ = 16 * mRent b x.1 x.2 + 1 + _; rw [ih.1]
    · show mFor b x.1 x.2 + _ = mFor b x.1 x.2 + _; rw [ih.2]
  | swap x y l =>
    refine ⟨?_, ?_⟩
    · show 16 * mRent b y.1 y.2 + 1 + (16 * mRent b x.1 x.2 + 1 + vals b l) = 16 * mRent b x.1 x.2 + 1 + (16 * mRent b y.1 y.2 + 1 + vals b l); omega
    · show mFor b y.1 y.2 + (mFor b x.1 x.2 + nds b l) = mFor b x.1 x.2 + (mFor b y.1 y.2 + nds b l); omega
  | trans _ _ ih1 ih2 => exact ⟨ih1.1.trans ih2.1, ih1.2.trans ih2.2⟩
theorem vals_app (b : BX2) : ∀ (L M : List (Int × Int)), vals b (L ++ M) = vals b L + vals b M ∧ nds b (L ++ M) = nds b L + nds b M := by
  intro L M
  induction L with
  | nil => exact ⟨(Int.zero_add _).symm, (Int.zero_add _).symm⟩
  | cons x L ih =>
    refine ⟨?_, ?_⟩
    · show 16 * mRent b x.1 x.2 + 1 + vals b (L ++ M) = 16 * mRent b x.1 x.2 + 1 + vals b L + vals b M; rw [ih.1]; omega
    · show mFor b x.1 x.2 + nds b (L ++ M) = mFor b x.1 x.2 + nds b L + nds b M; rw [ih.2]; omega
theorem whos_perm {L M : List (Int × Int)} (h : L.Perm M) : (whos L).Perm (whos M) := h.map _
/-! the set of a list's traders -/
def msk : List (Int × Int) → Int
  | [] => 0
  | x :: L => zOr (msk L) (zShl 1 x.1)
theorem msk_bit : ∀ (L : List (Int × Int)), (∀ x, x ∈ L → 0 ≤ x.1 ∧ x.1 < 8) → ∀ t, 0 ≤ t → t < 8 → (zbit (msk L) t ↔ t ∈ whos L) := by
  intro L
  induction L with
  | nil => intro _ t t0 t1; exact ⟨fun h => absurd h (zbit_0 t0 (by omega)), fun h => absurd h List.not_mem_nil⟩
  | cons x L ih =>
    intro h t t0 t1
    have hx := h x List.mem_cons_self
    show zbit (zOr (msk L) (zShl 1 x.1)) t ↔ t ∈ x.1 :: whos L
    rw [zbit_or hx.1 (by omega) t0 (by omega), ih (fun y hy => h y (List.mem_cons_of_mem _ hy)) t t0 t1, List.mem_cons]
    exact ⟨fun h => h.elim .inr .inl, fun h => h.elim .inr .inl⟩
theorem msk_lt {T : Int} (hT : 0 ≤ T ∧ T ≤ 8) : ∀ (L : List (Int × Int)), (∀ x, x ∈ L → 0 ≤ x.1 ∧ x.1 < T) → 0 ≤ msk L ∧ msk L < zShl 1 T := by
  intro L
  induction L with
  | nil =>
    intro _
    show (0 : Int) ≤ 0 ∧ (0 : Int) < zShl 1 T
    rw [zShl1_pow hT.1 hT.2]
    exact ⟨Int.le_refl _, Int.pow_pos (by omega)⟩
  | cons x L ih =>
    intro h
    exact or_lt hT (ih (fun y hy => h y (List.mem_cons_of_mem _ hy))) (h x List.mem_cons_self)
theorem msk_len : ∀ (L : List (Int × Int)), (∀ x, x ∈ L → 0 ≤ x.1 ∧ x.1 < 8) → (whos L).Nodup → seenN (msk L) = L.length := by
  intro L
  induction L with
  | nil => intro _ _; exact seenN_0
  | cons x L ih =>
    intro h hN
    have hx := h x List.mem_cons_self
    have hN' : x.1 ∉ whos L ∧ (whos L).Nodup := List.nodup_cons.1 hN
    have h2 := fun y hy => h y (List.mem_cons_of_mem x hy)
    show seenN (zOr (msk L) (zShl 1 x.1)) = ((L.length + 1 : Nat) : Int)
    rw [seenN_or hx.1 hx.2 (fun h3 => hN'.1 ((msk_bit L h2 x.1 hx.1 hx.2).1 h3)), ih h2 hN'.2]
    omega
theorem len_8 {L : List (Int × Int)} (h : ∀ x, x ∈ L → 0 ≤ x.1 ∧ x.1 < 8) (hN : (whos L).Nodup) : L.length ≤ 8 := by
  have h1 := msk_len L h hN
  have h2 := seenN_b (msk L)
  omega
def rnts (b : BX2) : List (Int × Int) → Int
  | [] => 0
  | x :: L => mRent b x.1 x.2 + rnts b L
theorem vals_rnts (b : BX2) : ∀ (L : List (Int × Int)), vals b L = 16 * rnts b L + L.length := by
  intro L
  induction L with
  | nil => rfl
  | cons x L ih =>
    show 16 * mRent b x.1 x.2 + 1 + vals b L = 16 * (mRent b x.1 x.2 + rnts b L) + ((L.length + 1 : Nat) : Int)
    rw [ih]; omega
/-! the other traders -/
theorem compl_k : ∀ T : Nat, T < 9 → ∀ g : Nat, g < 2 ^ T → ∀ t : Nat, t < T → ((¬ zAnd (zShr ((2 ^ T - 1 - g : Nat) : Int) (t : Int)) 1 = 0) ↔ zAnd (zShr (g : Int) (t : Int)) 1 = 0) := by decide +kernel
theorem compl_bit {T g t : Int} (hT : 0 ≤ T ∧ T ≤ 8) (hg : 0 ≤ g ∧ g < zShl 1 T) (ht : 0 ≤ t ∧ t < T) : zbit (zShl 1 T - 1 - g) t ↔ ¬ zbit g t := by
  rw [zShl1_pow hT.1 hT.2] at hg ⊢
  have h1 : ((2 ^ T.toNat : Nat) : Int) = (2 : Int) ^ T.toNat := by rw [Int.natCast_pow]; rfl
  have h := compl_k T.toNat (by omega) g.toNat (by omega) t.toNat (by omega)
  rw [show ((2 ^ T.toNat - 1 - g.toNat : Nat) : Int) = (2 : Int) ^ T.toNat - 1 - g by omega, show ((t.toNat : Nat) : Int) = t by omega, show ((g.toNat : Nat) : Int) = g by omega] at h
  unfold zbit
  rw [h]
  exact Classical.not_not.symm
