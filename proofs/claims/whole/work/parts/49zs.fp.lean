/-! Doubles: bounded exponents; no operation here makes a NaN. -/
section FPB
theorem fb_lead {c N : Nat} (h0 : c ≠ 0) (hc : c < 2 ^ N) : FP.Core.leading c 1 + 1 ≤ (N : Int) := by
  have h1 : c.log2 < N := (Nat.log2_lt h0).mpr hc
  have h2 : Nat.log2 1 = 0 := by decide
  unfold FP.Core.leading
  simp only [h2]
  split <;> omega
theorem fb_qmin : FP.Core.Fmt.qmin FP.Core.b64 = -1074 := by decide
theorem fb_qmax : FP.Core.Fmt.qmax FP.Core.b64 = 971 := by decide
theorem fb_p : FP.Core.b64.p = 53 := by decide
theorem fb_pp : (2 : Nat) ^ FP.Core.b64.p = 9007199254740992 := by decide
theorem fb_tails : FP.Core.Fmt.tails FP.Core.b64 = 4503599627370496 := by decide
theorem fb_exps : FP.Core.Fmt.exps FP.Core.b64 = 2048 := by decide
theorem fb_round {s : Bool} {c : Nat} {q : Int} {N : Nat} {K : Int} (hc : c < 2 ^ N) (h : (N : Int) + q - 52 ≤ K) (h1 : 1 ≤ K) (hK : K ≤ 971) :
    ∃ c' q', FP.Core.round FP.Core.b64 (.fin s c q) = .fin s c' q' ∧ c' < 9007199254740992 ∧ -1074 ≤ q' ∧ q' ≤ K := by
  have hq : ∀ x : Int, FP.Core.quantum FP.Core.b64 c 1 q = x → (c ≠ 0 → -1074 ≤ x ∧ x + 1 ≤ K) := by
    intro x hx h0
    have hl := fb_lead h0 hc
    unfold FP.Core.quantum at hx
    rw [fb_qmin, fb_p] at hx
    omega
  show ∃ c' q', FP.Core.roundRatio FP.Core.b64 s c 1 q = .fin s c' q' ∧ c' < 9007199254740992 ∧ -1074 ≤ q' ∧ q' ≤ K
  unfold FP.Core.roundRatio
  split
  · exact ⟨0, _, rfl, by decide, by rw [fb_qmin]; omega, by rw [fb_qmin]; omega⟩
  · rename_i h0
    obtain ⟨h8, h9⟩ := hq _ rfl h0
    unfold FP.Core.roundAt FP.Core.settle FP.Core.bound
    rw [fb_qmax, fb_pp, fb_tails]
    split
    · rename_i hlt
      rw [if_pos (by omega)]; exact ⟨_, _, rfl, hlt, h8, by omega⟩
    · rw [if_pos (by omega)]; exact ⟨_, _, rfl, by decide, by omega, by omega⟩
/-- a double is a number, its last digit's exponent at most K -/
def Dbl (K : Int) (a : UInt64) : Prop := ((a.toNat / 4503599627370496 % 2048 : Nat) : Int) ≤ K + 1075
theorem Dbl.nn {K : Int} {a : UInt64} (h : Dbl K a) (hK : K ≤ 971) : a &&& 0x7fffffffffffffff ≤ 0x7ff0000000000000 := by
  unfold Dbl at h
  rw [UInt64.le_iff_toNat_le, UInt64.toNat_and, show (0x7fffffffffffffff : UInt64).toNat = 2 ^ 63 - 1 from rfl, Nat.and_two_pow_sub_one_eq_mod]
  show a.toNat % 9223372036854775808 ≤ 9218868437227405312
  omega
theorem Dbl.le {K L : Int} {a : UInt64} (h : Dbl K a) (hl : K ≤ L) : Dbl L a := by
  unfold Dbl at h ⊢
  omega
theorem fb_dec {K : Int} {a : UInt64} (h : Dbl K a) (h1 : -1074 ≤ K) (hK : K ≤ 971) : ∃ s c q, FP.Core.decode FP.Core.b64 a.toNat = .fin s c q ∧ c < 9007199254740992 ∧ q ≤ K := by
  unfold Dbl at h
  have hE : FP.Core.fieldE FP.Core.b64 a.toNat = a.toNat / 4503599627370496 % 2048 := by
    unfold FP.Core.fieldE; rw [fb_tails, fb_exps]
  have hT : FP.Core.fieldT FP.Core.b64 a.toNat < 4503599627370496 := by
    unfold FP.Core.fieldT; rw [fb_tails]; exact Nat.mod_lt _ (by decide)
  unfold FP.Core.decode
  rw [hE, fb_exps, fb_tails, fb_qmin, if_neg (by omega)]
  split
  · exact ⟨_, _, _, rfl, by omega, by omega⟩
  · exact ⟨_, _, _, rfl, by omega, by omega⟩
theorem fb_enc {s : Bool} {c : Nat} {q K : Int} (hc : c < 9007199254740992) (h1 : -1074 ≤ q) (hq : q ≤ K) (hK : K ≤ 971) : Dbl K (UInt64.ofNat (FP.Core.encode FP.Core.b64 (.fin s c q))) := by
  have hs : s.toNat ≤ 1 := by cases s <;> decide
  have key : ∀ e t : Nat, t < 4503599627370496 → (e : Int) ≤ K + 1075 → Dbl K (UInt64.ofNat (FP.Core.assemble FP.Core.b64 s e t)) := by
    intro e t ht he
    unfold Dbl FP.Core.assemble
    rw [fb_tails, fb_exps, UInt64.toNat_ofNat']
    generalize s.toNat = σ at hs
    show (((((σ * 2048 + e) * 4503599627370496 + t) % 18446744073709551616) / 4503599627370496 % 2048 : Nat) : Int) ≤ K + 1075
    omega
  unfold FP.Core.encode
  rw [fb_tails, fb_qmin]
  show Dbl K (UInt64.ofNat (if c < 4503599627370496 then _ else _))
  split
  · exact key _ _ (by assumption) (by omega)
  · exact key _ _ (by omega) (by omega)
theorem Dbl.mul {A B K : Int} {a b : UInt64} (ha : Dbl A a) (hb : Dbl B b) (hA : -1074 ≤ A ∧ A ≤ 971) (hB : -1074 ≤ B ∧ B ≤ 971) (h : A + B + 54 ≤ K) (h1 : 1 ≤ K) (hK : K ≤ 971) : Dbl K (FP.dmul a b) := by
  obtain ⟨s, c, q, hv, hc, hq⟩ := fb_dec ha hA.1 hA.2
  obtain ⟨t, d, r, hw, hd, hr⟩ := fb_dec hb hB.1 hB.2
  have hcd : c * d < 2 ^ 106 := Nat.lt_of_lt_of_eq (Nat.mul_lt_mul'' hc hd) (by decide)
  obtain ⟨c', q', e, hc', hq0, hq'⟩ := fb_round (s := s != t) (q := q + r) hcd (K := K) (by omega) h1 hK
  show Dbl K (UInt64.ofNat (FP.Core.encode FP.Core.b64 (FP.Core.round FP.Core.b64 (FP.Core.exactProduct (FP.Core.decode FP.Core.b64 a.toNat) (FP.Core.decode FP.Core.b64 b.toNat)))))
  rw [hv, hw]
  show Dbl K (UInt64.ofNat (FP.Core.encode FP.Core.b64 (FP.Core.round FP.Core.b64 (.fin (s != t) (c * d) (q + r)))))
  rw [e]
  exact fb_enc hc' hq0 hq' hK
theorem fb_signed (s : Bool) (c : Nat) : (FP.Core.signed s c).natAbs = c := by
  unfold FP.Core.signed
  split <;> omega
theorem fb_sum {s t : Bool} {c d : Nat} {q r M K : Int} (hc : c < 9007199254740992) (hd : d < 9007199254740992) (hq : q ≤ M) (hr : r ≤ M) (h : M + 2 ≤ K) (h1 : 1 ≤ K) (hK : K ≤ 971) :
    Dbl K (UInt64.ofNat (FP.Core.encode FP.Core.b64 (FP.Core.round FP.Core.b64 (FP.Core.exactSum (.fin s c q) (.fin t d r))))) := by
  have hb : (FP.Core.sumUnits s c q t d r (min q r)).natAbs < 2 ^ (54 + (M - min q r).toNat) := by
    have e1 : FP.Core.inUnits c q (min q r) ≤ 9007199254740992 * 2 ^ (M - min q r).toNat := by
      unfold FP.Core.inUnits
      exact Nat.mul_le_mul (Nat.le_of_lt hc) (Nat.pow_le_pow_right (by decide) (by omega))
    have e2 : FP.Core.inUnits d r (min q r) < 9007199254740992 * 2 ^ (M - min q r).toNat := by
      unfold FP.Core.inUnits
      refine Nat.lt_of_lt_of_le (Nat.mul_lt_mul_of_pos_right hd (Nat.two_pow_pos _)) (Nat.mul_le_mul_left _ (Nat.pow_le_pow_right (by decide) (by omega)))
    have e3 : (2 : Nat) ^ (54 + (M - min q r).toNat) = 9007199254740992 * 2 ^ (M - min q r).toNat + 9007199254740992 * 2 ^ (M - min q r).toNat := by
      rw [Nat.pow_add]; omega
    have e4 := Int.natAbs_add_le (FP.Core.signed s (FP.Core.inUnits c q (min q r))) (FP.Core.signed t (FP.Core.inUnits d r (min q r)))
    rw [fb_signed, fb_signed] at e4
    show (FP.Core.signed s (FP.Core.inUnits c q (min q r)) + FP.Core.signed t (FP.Core.inUnits d r (min q r))).natAbs < _
    rw [e3]
    omega
  obtain ⟨c', q', e, hc', hq0, hq'⟩ := fb_round (s := FP.Core.sumSign s t (FP.Core.sumUnits s c q t d r (min q r))) (q := min q r) hb (K := K) (by omega) h1 hK
  show Dbl K (UInt64.ofNat (FP.Core.encode FP.Core.b64 (FP.Core.round FP.Core.b64 (.fin (FP.Core.sumSign s t (FP.Core.sumUnits s c q t d r (min q r))) (FP.Core.sumUnits s c q t d r (min q r)).natAbs (min q r)))))
  rw [e]
  exact fb_enc hc' hq0 hq' hK
theorem Dbl.add {A K : Int} {a b : UInt64} (ha : Dbl A a) (hb : Dbl A b) (hA : -1074 ≤ A) (h : A + 2 ≤ K) (h1 : 1 ≤ K) (hK : K ≤ 971) : Dbl K (FP.dadd a b) := by
  obtain ⟨s, c, q, hv, hc, hq⟩ := fb_dec ha hA (by omega)
  obtain ⟨t, d, r, hw, hd, hr⟩ := fb_dec hb hA (by omega)
  show Dbl K (UInt64.ofNat (FP.Core.encode FP.Core.b64 (FP.Core.round FP.Core.b64 (FP.Core.exactSum (FP.Core.decode FP.Core.b64 a.toNat) (FP.Core.decode FP.Core.b64 b.toNat)))))
  rw [hv, hw]
  exact fb_sum hc hd hq hr h h1 hK
theorem Dbl.sub {A K : Int} {a b : UInt64} (ha : Dbl A a) (hb : Dbl A b) (hA : -1074 ≤ A) (h : A + 2 ≤ K) (h1 : 1 ≤ K) (hK : K ≤ 971) : Dbl K (FP.dsub a b) := by
  obtain ⟨s, c, q, hv, hc, hq⟩ := fb_dec ha hA (by omega)
  obtain ⟨t, d, r, hw, hd, hr⟩ := fb_dec hb hA (by omega)
  show Dbl K (UInt64.ofNat (FP.Core.encode FP.Core.b64 (FP.Core.round FP.Core.b64 (FP.Core.exactSum (FP.Core.decode FP.Core.b64 a.toNat) (FP.Core.negate (FP.Core.decode FP.Core.b64 b.toNat))))))
  rw [hv, hw]
  exact fb_sum (t := !t) hc hd hq hr h h1 hK
theorem Dbl.int (a : Int32) : Dbl 1 (FP.i2d a) := by
  have h1 := Int32.le_toInt a
  have h2 := Int32.toInt_lt a
  have hb : a.toInt.natAbs < 2 ^ 32 := by omega
  obtain ⟨c', q', e, hc', hq0, hq'⟩ := fb_round (s := decide (a.toInt < 0)) (q := 0) hb (K := 1) (by decide) (by decide) (by decide)
  show Dbl 1 (UInt64.ofNat (FP.Core.encode FP.Core.b64 (FP.Core.round FP.Core.b64 (.fin (decide (a.toInt < 0)) a.toInt.natAbs 0))))
  rw [e]
  exact fb_enc hc' hq0 hq' (by decide)
theorem Dbl.one : Dbl 1 FP.dconst1 := by unfold Dbl; decide +kernel
theorem Dbl.zero : Dbl 1 FP.dconst0 := by unfold Dbl; decide +kernel
theorem Dbl.half : Dbl (-53) 4602678819172646912 := by unfold Dbl; decide +kernel
theorem Dbl.eighth : Dbl (-55) 4593671619917905920 := by unfold Dbl; decide +kernel
/-- the rain that a script's number tells -/
theorem Dbl.rain (a : Int32) : Dbl 1 (FP.dmul (FP.i2d a) 4593671619917905920) := (Dbl.int a).mul Dbl.eighth (by decide) (by decide) (by decide) (by decide) (by decide)
/-- what a trader in the rain pays -/
theorem Dbl.wet {x : UInt64} (h : Dbl 1 x) (r : Int32) : Dbl 3 (FP.dsub FP.dconst1 x) ∧ Dbl 58 (FP.dmul (FP.i2d r) (FP.dsub FP.dconst1 x)) ∧ Dbl 2 (FP.dmul (FP.i2d r) 4602678819172646912) ∧ Dbl 58 (FP.dmul (FP.dmul (FP.i2d r) 4602678819172646912) x)
    ∧ Dbl 60 (FP.dadd (FP.dmul (FP.i2d r) (FP.dsub FP.dconst1 x)) (FP.dmul (FP.dmul (FP.i2d r) 4602678819172646912) x)) := by
  have h1 : Dbl 3 (FP.dsub FP.dconst1 x) := Dbl.sub Dbl.one h (by decide) (by decide) (by decide) (by decide)
  have h2 : Dbl 58 (FP.dmul (FP.i2d r) (FP.dsub FP.dconst1 x)) := (Dbl.int r).mul h1 (by decide) (by decide) (by decide) (by decide) (by decide)
  have h3 : Dbl 2 (FP.dmul (FP.i2d r) 4602678819172646912) := (Dbl.int r).mul Dbl.half (by decide) (by decide) (by decide) (by decide) (by decide)
  have h4 : Dbl 58 (FP.dmul (FP.dmul (FP.i2d r) 4602678819172646912) x) := h3.mul h (by decide) (by decide) (by decide) (by decide) (by decide)
  exact ⟨h1, h2, h3, h4, h2.add h4 (by decide) (by decide) (by decide) (by decide)⟩
end FPB
