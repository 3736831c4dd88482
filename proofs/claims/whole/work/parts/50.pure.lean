/-! The pure layer: what the decompiled functions answer, over natural numbers (x = nI a). -/
theorem oA_pos {α : Type} {i : Int32} {n : Nat} {k : Option α} (h : ¬ (i < 0 ∨ n ≤ i.toNatClampNeg)) : oA i n k = k := by unfold oA; rw [if_neg h]
theorem oA_nI {α : Type} {a n : Nat} {k : Option α} (h : a < n) (hn : n < 2 ^ 31) : oA (nI a) n k = k := oA_pos (nI_in h hn)
theorem oL_eq {α β : Type} (a : α) (k : α → Option β) : oL a k = k a := rfl
theorem oB_some {α β : Type} (a : α) (k : α → Option β) : oB (some a) k = k a := rfl
theorem oG_pos {α : Type} {c : Prop} {_ : Decidable c} {k : Option α} (h : c) : oG c k = k := by unfold oG; rw [if_pos h]
theorem oMin_nI {a b : Nat} (ha : a < 2 ^ 31) (hb : b < 2 ^ 31) : oMin (nI a) (nI b) = nI (min a b) := by
  unfold oMin
  by_cases h : b < a
  · rw [if_pos (nI_lt h ha), Nat.min_eq_right (Nat.le_of_lt h)]
  · rw [if_neg (nI_nlt (Nat.not_lt.mp h) hb), Nat.min_eq_left (Nat.not_lt.mp h)]
/-- the sum of k numbers from place s on -/
def aSum (r : Nat → Nat) (s : Nat) : Nat → Nat
  | 0 => 0
  | k + 1 => aSum r s k + r (s + k)
theorem s_X2_blockRent_22 {n : Nat} {r : Nat → Nat} {rents : Nat → Int32} (hr : ∀ i, i < 24 → rents i = nI (r i)) {s e : Nat} (he : e ≤ 24) : ∀ (d j fu : Nat), s + j + d = e → d < fu → f_X2_blockRent_22 n fu (nI (aSum r s j)) (nI e) (nI (s + j)) rents = some (nI (aSum r s (j + d))) := by
  intro d
  induction d with
  | zero =>
    intro j fu h hf
    obtain ⟨fu, rfl⟩ : ∃ z, fu = z + 1 := ⟨fu - 1, by omega⟩
    rw [f_X2_blockRent_22.eq_2, if_pos (nI_le (by omega) (by omega))]
    rfl
  | succ d ih =>
    intro j fu h hf
    obtain ⟨fu, rfl⟩ : ∃ z, fu = z + 1 := ⟨fu - 1, by omega⟩
    rw [f_X2_blockRent_22.eq_2, if_neg (nI_ge (by omega) (by omega)), oA_nI (by omega) (by omega), oL_eq, nI_clamp (by omega), hr _ (by omega), nI_add, nI_1]
    have h1 := ih (j + 1) fu (by omega) (by omega)
    rw [show j + 1 + d = j + (d + 1) by omega] at h1
    exact h1
theorem s_X2_blockRent {n : Nat} {r f : Nat → Nat} {rents fronts : Nat → Int32} (hr : ∀ i, i < 24 → rents i = nI (r i)) (hf : ∀ i, i < 8 → fronts i = nI (f i)) {P t s : Nat} (hP : P ≤ 24) (ht : t < 8) (hft : f t ≤ 3) (hs : s ≤ P) (hn : 24 < n) :
    f_X2_blockRent n (nI P) rents fronts (nI t) (nI s) = some (nI (aSum r s (min (s + f t) P - s))) := by
  unfold f_X2_blockRent
  rw [oA_nI (by omega) (by omega), oL_eq, nI_clamp (by omega), hf t ht, nI_add, oMin_nI (by omega) (by omega)]
  have h1 := s_X2_blockRent_22 (n := n) hr (s := s) (e := min (s + f t) P) (by omega) (min (s + f t) P - s) 0 n (by omega) (by omega)
  rw [Nat.zero_add] at h1
  exact h1
theorem nI_83 : (83 : Int32) = nI 83 := rfl
theorem nI_two : (2 : Int32) = nI 2 := rfl
theorem nI_zero : (0 : Int32) = nI 0 := rfl
theorem s_X6_rentOf_5 {n : Nat} {a : Nat → Int32} {t s F : Nat} (ht : t < 8) (hF : a (83 + t) = nI F) (hF3 : F ≤ 3) {r : Nat → Nat} (hr : ∀ i, i < 24 → a (2 + i) = nI (r i)) (hs : s + F ≤ 24) : ∀ (d j fu : Nat), j + d = F → d < fu → f_X6_rentOf_5 n fu (nI t) (nI s) (nI (aSum r s j)) (nI j) a = some (nI (aSum r s F)) := by
  intro d
  induction d with
  | zero =>
    intro j fu h hf
    obtain ⟨fu, rfl⟩ : ∃ z, fu = z + 1 := ⟨fu - 1, by omega⟩
    rw [f_X6_rentOf_5.eq_2, nI_83, nI_add, oA_nI (by omega) (by omega), nI_clamp (by omega), hF, if_pos (nI_le (by omega) (by omega)), show j = F by omega]
  | succ d ih =>
    intro j fu h hf
    obtain ⟨fu, rfl⟩ : ∃ z, fu = z + 1 := ⟨fu - 1, by omega⟩
    rw [f_X6_rentOf_5.eq_2, nI_83, nI_add, oA_nI (by omega) (by omega), nI_clamp (by omega), hF, if_neg (nI_ge (by omega) (by omega)), nI_two, nI_add, nI_add, oA_nI (by omega) (by omega), oL_eq, nI_clamp (by omega), Nat.add_assoc, hr _ (by omega), nI_add, nI_1]
    exact ih (j + 1) fu (by omega) (by omega)
theorem s_X6_rentOf {n : Nat} {a : Nat → Int32} {t s F : Nat} (ht : t < 8) (hF : a (83 + t) = nI F) (hF3 : F ≤ 3) {r : Nat → Nat} (hr : ∀ i, i < 24 → a (2 + i) = nI (r i)) (hs : s + F ≤ 24) (hn : 3 < n) : f_X6_rentOf n a (nI t) (nI s) = some (nI (aSum r s F)) := by
  unfold f_X6_rentOf
  exact s_X6_rentOf_5 (n := n) ht hF hF3 hr hs F 0 n (by omega) (by omega)
