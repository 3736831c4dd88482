/-! ===== Int32 by its bits: bt x i ===== -/
def bt (x : Int32) (i : Nat) : Bool := x.toBitVec.getLsbD i
theorem b_ext {x y : Int32} (h : ∀ i, i < 32 → bt x i = bt y i) : x = y := Int32.toBitVec_inj.mp (BitVec.eq_of_getLsbD_eq (fun i hi => h i hi))
theorem b_or (x y : Int32) (i : Nat) : bt (x ||| y) i = (bt x i || bt y i) := by unfold bt; rw [Int32.toBitVec_or, BitVec.getLsbD_or]
theorem b_and (x y : Int32) (i : Nat) : bt (x &&& y) i = (bt x i && bt y i) := by unfold bt; rw [Int32.toBitVec_and, BitVec.getLsbD_and]
theorem b_xor (x y : Int32) (i : Nat) : bt (x ^^^ y) i = (bt x i ^^ bt y i) := by unfold bt; rw [Int32.toBitVec_xor, BitVec.getLsbD_xor]
theorem b_big {x : Int32} {i : Nat} (h : 32 ≤ i) : bt x i = false := BitVec.getLsbD_of_ge _ _ h
theorem b_255 (i : Nat) : bt 255 i = decide (i < 8) := by
  rcases Nat.lt_or_ge i 32 with h | h
  · exact (by decide +kernel : ∀ i, i < 32 → bt 255 i = decide (i < 8)) i h
  · rw [b_big h, decide_eq_false (by omega)]
theorem b_65535 (i : Nat) : bt 65535 i = decide (i < 16) := by
  rcases Nat.lt_or_ge i 32 with h | h
  · exact (by decide +kernel : ∀ i, i < 32 → bt 65535 i = decide (i < 16)) i h
  · rw [b_big h, decide_eq_false (by omega)]
theorem b_m1 : ∀ i, i < 32 → bt (-1) i = true := by decide +kernel
theorem b_0 (i : Nat) : bt 0 i = false := BitVec.getLsbD_zero
theorem s_l : ∀ n, n < 32 → ((nI n &&& 31).toBitVec.smod 32).toNat = n := by decide +kernel
theorem s_u : ∀ n, n < 32 → (((nI n).toUInt32 &&& Int32.toUInt32 31).toBitVec % 32).toNat = n := by decide +kernel
theorem b_shl (n : Nat) (hn : n < 32) (x : Int32) {i : Nat} (hi : i < 32) : bt (x <<< (nI n &&& 31)) i = (decide (n ≤ i) && bt x (i - n)) := by
  unfold bt
  rw [Int32.toBitVec_shiftLeft]
  show (x.toBitVec <<< ((nI n &&& 31).toBitVec.smod 32).toNat).getLsbD i = _
  rw [s_l n hn, BitVec.getLsbD_shiftLeft]
  rcases Nat.lt_or_ge i n with h | h
  · simp [h, Nat.not_le.mpr h]
  · simp [hi, h, Nat.not_lt.mpr h]
theorem b_ushr (n : Nat) (hn : n < 32) (x : Int32) (i : Nat) : bt ((x.toUInt32 >>> ((nI n).toUInt32 &&& Int32.toUInt32 31)).toInt32) i = bt x (n + i) := by
  show (x.toUInt32 >>> ((nI n).toUInt32 &&& Int32.toUInt32 31)).toBitVec.getLsbD i = x.toUInt32.toBitVec.getLsbD (n + i)
  rw [UInt32.toBitVec_shiftRight]
  show (x.toUInt32.toBitVec >>> (((nI n).toUInt32 &&& Int32.toUInt32 31).toBitVec % 32).toNat).getLsbD i = _
  rw [s_u n hn, BitVec.getLsbD_ushiftRight]
theorem b_sshr (n : Nat) (hn : n < 32) (x : Int32) {i : Nat} (hi : i < 32) : bt (x >>> (nI n &&& 31)) i = if n + i < 32 then bt x (n + i) else bt x 31 := by
  unfold bt
  rw [Int32.toBitVec_shiftRight]
  show (x.toBitVec.sshiftRight ((nI n &&& 31).toBitVec.smod 32).toNat).getLsbD i = _
  rw [s_l n hn, BitVec.getLsbD_sshiftRight, BitVec.msb_eq_getLsbD_last]
  simp [hi]
theorem b_shl8 (x : Int32) {i : Nat} (hi : i < 32) : bt (x <<< ((8 : Int32) &&& 31)) i = (decide (8 ≤ i) && bt x (i - 8)) := b_shl 8 (by omega) x hi
theorem b_shl16 (x : Int32) {i : Nat} (hi : i < 32) : bt (x <<< ((16 : Int32) &&& 31)) i = (decide (16 ≤ i) && bt x (i - 16)) := b_shl 16 (by omega) x hi
theorem b_shl24 (x : Int32) {i : Nat} (hi : i < 32) : bt (x <<< ((24 : Int32) &&& 31)) i = (decide (24 ≤ i) && bt x (i - 24)) := b_shl 24 (by omega) x hi
theorem b_sshr8 (x : Int32) {i : Nat} (hi : i < 32) : bt (x >>> ((8 : Int32) &&& 31)) i = if 8 + i < 32 then bt x (8 + i) else bt x 31 := b_sshr 8 (by omega) x hi
/-! bits of the numbers of the pure layer -/
def zt (c : Int) (k : Nat) : Bool := bt (Int32.ofInt c) k
theorem ofI_nat {k : Int} (h0 : 0 ≤ k) : Int32.ofInt k = nI k.toNat := by
  have : k = ((k.toNat : Nat) : Int) := by omega
  rw [this]; exact Int32.ofInt_eq_ofNat
theorem ofI_and (a b : Int) : Int32.ofInt (zAnd a b) = Int32.ofInt a &&& Int32.ofInt b := Int32.ofInt_toInt _
theorem ofI_or (a b : Int) : Int32.ofInt (zOr a b) = Int32.ofInt a ||| Int32.ofInt b := Int32.ofInt_toInt _
theorem ofI_xor (a b : Int) : Int32.ofInt (zXor a b) = Int32.ofInt a ^^^ Int32.ofInt b := Int32.ofInt_toInt _
theorem ofI_shl (a b : Int) : Int32.ofInt (zShl a b) = Int32.ofInt a <<< (Int32.ofInt b &&& 31) := Int32.ofInt_toInt _
theorem ofI_shr (a b : Int) : Int32.ofInt (zShr a b) = Int32.ofInt a >>> (Int32.ofInt b &&& 31) := Int32.ofInt_toInt _
theorem zt_and (a b : Int) (k : Nat) : zt (zAnd a b) k = (zt a k && zt b k) := by unfold zt; rw [ofI_and, b_and]
theorem zt_or (a b : Int) (k : Nat) : zt (zOr a b) k = (zt a k || zt b k) := by unfold zt; rw [ofI_or, b_or]
theorem zt_xor (a b : Int) (k : Nat) : zt (zXor a b) k = (zt a k ^^ zt b k) := by unfold zt; rw [ofI_xor, b_xor]
theorem bt_1 : ∀ i, i < 32 → bt 1 i = decide (i = 0) := by decide +kernel
theorem zt_1 {i : Nat} (h : i < 32) : zt 1 i = decide (i = 0) := bt_1 i h
theorem zt_m1 {i : Nat} (h : i < 32) : zt (-1) i = true := b_m1 i h
theorem zt_0 (i : Nat) : zt 0 i = false := b_0 i
theorem zt_shl1 {k : Int} (h0 : 0 ≤ k) (h1 : k < 32) {i : Nat} (hi : i < 32) : zt (zShl 1 k) i = decide (i = k.toNat) := by
  unfold zt
  rw [ofI_shl, ofI_nat h0, b_shl _ (by omega) _ hi]
  have e : bt (Int32.ofInt 1) (i - k.toNat) = decide (i - k.toNat = 0) := bt_1 _ (by omega)
  rw [e]
  by_cases h : i = k.toNat
  · simp [h]
  · by_cases h2 : k.toNat ≤ i
    · have : ¬ (i - k.toNat = 0) := by omega
      simp [h, this]
    · simp [h, h2]
theorem zt_shr0 {c k : Int} (h0 : 0 ≤ k) (h1 : k < 32) : zt (zShr c k) 0 = zt c k.toNat := by
  unfold zt
  rw [ofI_shr, ofI_nat h0, b_sshr _ (by omega) _ (by omega), if_pos (by omega)]
  rfl
theorem zt_ext {a b : Int} (h : ∀ i, i < 32 → zt a i = zt b i) : Int32.ofInt a = Int32.ofInt b := b_ext h
theorem i32_inj {a b : Int} (h : Int32.ofInt a = Int32.ofInt b) (ha : -2147483648 ≤ a ∧ a ≤ 2147483647) (hb : -2147483648 ≤ b ∧ b ≤ 2147483647) : a = b := by
  have h1 := congrArg Int32.toInt h
  rw [Int32.toInt_ofInt_of_le (by omega) (by omega), Int32.toInt_ofInt_of_le (by omega) (by omega)] at h1
  exact h1
theorem i32_rng (x : Int32) : -2147483648 ≤ x.toInt ∧ x.toInt ≤ 2147483647 := by
  have h1 := Int32.le_toInt x
  have h2 := Int32.toInt_lt x
  omega
theorem zAnd_rng (a b : Int) : -2147483648 ≤ zAnd a b ∧ zAnd a b ≤ 2147483647 := i32_rng _
theorem zOr_rng (a b : Int) : -2147483648 ≤ zOr a b ∧ zOr a b ≤ 2147483647 := i32_rng _
theorem zXor_rng (a b : Int) : -2147483648 ≤ zXor a b ∧ zXor a b ≤ 2147483647 := i32_rng _
theorem zShl_rng (a b : Int) : -2147483648 ≤ zShl a b ∧ zShl a b ≤ 2147483647 := i32_rng _
theorem zShr_rng (a b : Int) : -2147483648 ≤ zShr a b ∧ zShr a b ≤ 2147483647 := i32_rng _
theorem zAnd_1 (a : Int) : zAnd a 1 = if zt a 0 = true then 1 else 0 := by
  apply i32_inj
  · apply zt_ext
    intro i hi
    rw [zt_and, zt_1 hi]
    by_cases h : i = 0
    · subst h
      cases h2 : zt a 0
      · simp [zt_0]
      · simp [zt_1 (i := 0) (by omega)]
    · cases h2 : zt a 0
      · simp [h, zt_0]
      · simp [h, zt_1 hi]
  · exact zAnd_rng _ _
  · split <;> omega
theorem zbit_zt {c k : Int} (h0 : 0 ≤ k) (h1 : k < 32) : zbit c k ↔ zt c k.toNat = true := by
  unfold zbit
  rw [zAnd_1, zt_shr0 h0 h1]
  by_cases h : zt c k.toNat = true
  · simp [h]
  · simp [h]
theorem zShr1_eq1 {c k : Int} (h0 : 0 ≤ k) (h1 : k < 32) : zAnd (zShr c k) 1 = 1 ↔ zbit c k := by
  rw [zbit_zt h0 h1, zAnd_1, zt_shr0 h0 h1]
  by_cases h : zt c k.toNat = true
  · simp [h]
  · simp [h]
theorem zbit_0 {k : Int} (h0 : 0 ≤ k) (h1 : k < 32) : ¬ zbit 0 k := by
  rw [zbit_zt h0 h1, zt_0]; simp
theorem zbit_or {c j k : Int} (j0 : 0 ≤ j) (j1 : j < 32) (k0 : 0 ≤ k) (k1 : k < 32) : zbit (zOr c (zShl 1 j)) k ↔ (zbit c k ∨ k = j) := by
  rw [zbit_zt k0 k1, zbit_zt k0 k1, zt_or, zt_shl1 j0 j1 (by omega)]
  by_cases h : k = j
  · simp [h]
  · have : ¬ k.toNat = j.toNat := by omega
    simp [h, this]
theorem zbit_clear {c j k : Int} (j0 : 0 ≤ j) (j1 : j < 32) (k0 : 0 ≤ k) (k1 : k < 32) : zbit (zAnd c (zXor (zShl 1 j) (-1))) k ↔ (zbit c k ∧ k ≠ j) := by
  rw [zbit_zt k0 k1, zbit_zt k0 k1, zt_and, zt_xor, zt_m1 (by omega), zt_shl1 j0 j1 (by omega)]
  by_cases h : k = j
  · simp [h]
  · have : ¬ k.toNat = j.toNat := by omega
    simp [h, this]
/-! numbers of few bits -/
theorem zt_big {c : Int} {m : Nat} (h0 : 0 ≤ c) (h1 : c < 2 ^ m) {i : Nat} (hi : m ≤ i) : zt c i = false := by
  unfold zt bt
  rw [ofI_nat h0]
  show (BitVec.ofNat 32 c.toNat).getLsbD i = false
  rw [BitVec.getLsbD_ofNat]
  have h2 : c.toNat < 2 ^ i := by
    have h3 : c.toNat < 2 ^ m := by
      have : (c.toNat : Int) < ((2 ^ m : Nat) : Int) := by
        rw [Int.toNat_of_nonneg h0]; simpa using h1
      exact Int.ofNat_lt.1 this
    exact Nat.lt_of_lt_of_le h3 (Nat.pow_le_pow_right (by omega) hi)
  rw [Nat.testBit_lt_two_pow h2]; simp
theorem zt_lt {x : Int32} {m : Nat} (hm : m < 32) (h : ∀ i, m ≤ i → i < 32 → bt x i = false) : 0 ≤ x.toInt ∧ x.toInt < 2 ^ m := by
  have h1 : x.toBitVec.toNat < 2 ^ m := by
    apply Nat.lt_pow_two_of_testBit
    intro i hi
    by_cases h32 : i < 32
    · exact h i hi h32
    · exact BitVec.getLsbD_of_ge _ _ (by omega)
  have h2 : (2 : Nat) ^ m ≤ 2 ^ 31 := Nat.pow_le_pow_right (by omega) (by omega)
  have h3 : x.toInt = (x.toBitVec.toNat : Int) := by
    show x.toBitVec.toInt = _
    rw [BitVec.toInt_eq_toNat_of_lt]
    omega
  rw [h3]
  have h4 : ((x.toBitVec.toNat : Nat) : Int) < ((2 ^ m : Nat) : Int) := Int.ofNat_lt.2 h1
  refine ⟨by omega, ?_⟩
  simpa using h4
theorem zOr_lt {a b : Int} {m : Nat} (hm : m < 32) (a0 : 0 ≤ a) (a1 : a < 2 ^ m) (b0 : 0 ≤ b) (b1 : b < 2 ^ m) : 0 ≤ zOr a b ∧ zOr a b < 2 ^ m := by
  apply zt_lt hm
  intro i h1 h2
  rw [b_or]
  have e1 : bt (Int32.ofInt a) i = false := zt_big a0 a1 h1
  have e2 : bt (Int32.ofInt b) i = false := zt_big b0 b1 h1
  rw [e1, e2]; rfl
theorem zAnd_lt {a b : Int} {m : Nat} (hm : m < 32) (a0 : 0 ≤ a) (a1 : a < 2 ^ m) : 0 ≤ zAnd a b ∧ zAnd a b < 2 ^ m := by
  apply zt_lt hm
  intro i h1 h2
  rw [b_and]
  have e1 : bt (Int32.ofInt a) i = false := zt_big a0 a1 h1
  rw [e1]; rfl
theorem zShl1_lt {k : Int} {m : Nat} (hm : m < 32) (k0 : 0 ≤ k) (k1 : k < m) : 0 ≤ zShl 1 k ∧ zShl 1 k < 2 ^ m := by
  have e : zShl 1 k = (Int32.ofInt (zShl 1 k)).toInt := by rw [ofI_shl]; rfl
  rw [e]
  apply zt_lt hm
  intro i h1 h2
  have := zt_shl1 k0 (by omega) (i := i) (by omega)
  unfold zt at this
  rw [this]
  have : ¬ i = k.toNat := by omega
  simp [this]
