/-! Pure words of the decompiled methods: a guard of an index, a guard, a let, calls. -/
def oA {α : Type} (i : Int32) (n : Nat) (k : Option α) : Option α := if i < 0 ∨ n ≤ i.toNatClampNeg then none else k
def oG {α : Type} (c : Prop) [Decidable c] (k : Option α) : Option α := if c then k else none
def oL {α β : Type} (a : α) (k : α → Option β) : Option β := k a
def oMin (x y : Int32) : Int32 := if y < x then y else x
def oMax (x y : Int32) : Int32 := if x < y then y else x
def oB {α β : Type} (x : Option α) (k : α → Option β) : Option β := match x with
  | some v => k v
  | none => none
theorem oA_elim {α : Type} {i : Int32} {n : Nat} {k : Option α} {r : α} (h : oA i n k = some r) : (¬ (i < 0 ∨ n ≤ i.toNatClampNeg)) ∧ k = some r := by
  unfold oA at h
  split at h
  · cases h
  · exact ⟨by assumption, h⟩
theorem oG_elim {α : Type} {c : Prop} {_ : Decidable c} {k : Option α} {r : α} (h : oG c k = some r) : c ∧ k = some r := by
  unfold oG at h
  split at h
  · exact ⟨by assumption, h⟩
  · cases h
theorem oL_elim {α β : Type} {a : α} {k : α → Option β} {r : β} (h : oL a k = some r) : ∃ x, x = a ∧ k x = some r := ⟨a, rfl, h⟩
theorem oB_elim {α β : Type} {x : Option α} {k : α → Option β} {r : β} (h : oB x k = some r) : ∃ v, x = some v ∧ k v = some r := by
  unfold oB at h
  cases x with
  | none => cases h
  | some v => exact ⟨v, rfl, h⟩
theorem oI_pos {α : Type} {c : Prop} {_ : Decidable c} {x y r : α} (hc : c) (h : (if c then x else y) = r) : x = r := by rw [if_pos hc] at h; exact h
theorem oI_neg {α : Type} {c : Prop} {_ : Decidable c} {x y r : α} (hc : ¬ c) (h : (if c then x else y) = r) : y = r := by rw [if_neg hc] at h; exact h
def oB2 {α1 α2 β : Type} (x : Option (α1 × α2)) (k : α1 → α2 → Option β) : Option β := match x with
  | some (v1, v2) => k v1 v2
  | none => none
theorem oB2_elim {α1 α2 β : Type} {x : Option (α1 × α2)} {k : α1 → α2 → Option β} {r : β} (h : oB2 x k = some r) : ∃ v1 v2, x = some (v1, v2) ∧ k v1 v2 = some r := by
  unfold oB2 at h
  cases x with
  | none => cases h
  | some v => obtain ⟨v1, v2⟩ := v; exact ⟨v1, v2, rfl, h⟩
def oB3 {α1 α2 α3 β : Type} (x : Option (α1 × α2 × α3)) (k : α1 → α2 → α3 → Option β) : Option β := match x with
  | some (v1, v2, v3) => k v1 v2 v3
  | none => none
theorem oB3_elim {α1 α2 α3 β : Type} {x : Option (α1 × α2 × α3)} {k : α1 → α2 → α3 → Option β} {r : β} (h : oB3 x k = some r) : ∃ v1 v2 v3, x = some (v1, v2, v3) ∧ k v1 v2 v3 = some r := by
  unfold oB3 at h
  cases x with
  | none => cases h
  | some v => obtain ⟨v1, v2, v3⟩ := v; exact ⟨v1, v2, v3, rfl, h⟩
def oB4 {α1 α2 α3 α4 β : Type} (x : Option (α1 × α2 × α3 × α4)) (k : α1 → α2 → α3 → α4 → Option β) : Option β := match x with
  | some (v1, v2, v3, v4) => k v1 v2 v3 v4
  | none => none
theorem oB4_elim {α1 α2 α3 α4 β : Type} {x : Option (α1 × α2 × α3 × α4)} {k : α1 → α2 → α3 → α4 → Option β} {r : β} (h : oB4 x k = some r) : ∃ v1 v2 v3 v4, x = some (v1, v2, v3, v4) ∧ k v1 v2 v3 v4 = some r := by
  unfold oB4 at h
  cases x with
  | none => cases h
  | some v => obtain ⟨v1, v2, v3, v4⟩ := v; exact ⟨v1, v2, v3, v4, rfl, h⟩
def oB5 {α1 α2 α3 α4 α5 β : Type} (x : Option (α1 × α2 × α3 × α4 × α5)) (k : α1 → α2 → α3 → α4 → α5 → Option β) : Option β := match x with
  | some (v1, v2, v3, v4, v5) => k v1 v2 v3 v4 v5
  | none => none
theorem oB5_elim {α1 α2 α3 α4 α5 β : Type} {x : Option (α1 × α2 × α3 × α4 × α5)} {k : α1 → α2 → α3 → α4 → α5 → Option β} {r : β} (h : oB5 x k = some r) : ∃ v1 v2 v3 v4 v5, x = some (v1, v2, v3, v4, v5) ∧ k v1 v2 v3 v4 v5 = some r := by
  unfold oB5 at h
  cases x with
  | none => cases h
  | some v => obtain ⟨v1, v2, v3, v4, v5⟩ := v; exact ⟨v1, v2, v3, v4, v5, rfl, h⟩
def oB6 {α1 α2 α3 α4 α5 α6 β : Type} (x : Option (α1 × α2 × α3 × α4 × α5 × α6)) (k : α1 → α2 → α3 → α4 → α5 → α6 → Option β) : Option β := match x with
  | some (v1, v2, v3, v4, v5, v6) => k v1 v2 v3 v4 v5 v6
  | none => none
theorem oB6_elim {α1 α2 α3 α4 α5 α6 β : Type} {x : Option (α1 × α2 × α3 × α4 × α5 × α6)} {k : α1 → α2 → α3 → α4 → α5 → α6 → Option β} {r : β} (h : oB6 x k = some r) : ∃ v1 v2 v3 v4 v5 v6, x = some (v1, v2, v3, v4, v5, v6) ∧ k v1 v2 v3 v4 v5 v6 = some r := by
  unfold oB6 at h
  cases x with
  | none => cases h
  | some v => obtain ⟨v1, v2, v3, v4, v5, v6⟩ := v; exact ⟨v1, v2, v3, v4, v5, v6, rfl, h⟩
def oB7 {α1 α2 α3 α4 α5 α6 α7 β : Type} (x : Option (α1 × α2 × α3 × α4 × α5 × α6 × α7)) (k : α1 → α2 → α3 → α4 → α5 → α6 → α7 → Option β) : Option β := match x with
  | some (v1, v2, v3, v4, v5, v6, v7) => k v1 v2 v3 v4 v5 v6 v7
  | none => none
theorem oB7_elim {α1 α2 α3 α4 α5 α6 α7 β : Type} {x : Option (α1 × α2 × α3 × α4 × α5 × α6 × α7)} {k : α1 → α2 → α3 → α4 → α5 → α6 → α7 → Option β} {r : β} (h : oB7 x k = some r) : ∃ v1 v2 v3 v4 v5 v6 v7, x = some (v1, v2, v3, v4, v5, v6, v7) ∧ k v1 v2 v3 v4 v5 v6 v7 = some r := by
  unfold oB7 at h
  cases x with
  | none => cases h
  | some v => obtain ⟨v1, v2, v3, v4, v5, v6, v7⟩ := v; exact ⟨v1, v2, v3, v4, v5, v6, v7, rfl, h⟩
def oB8 {α1 α2 α3 α4 α5 α6 α7 α8 β : Type} (x : Option (α1 × α2 × α3 × α4 × α5 × α6 × α7 × α8)) (k : α1 → α2 → α3 → α4 → α5 → α6 → α7 → α8 → Option β) : Option β := match x with
  | some (v1, v2, v3, v4, v5, v6, v7, v8) => k v1 v2 v3 v4 v5 v6 v7 v8
  | none => none
theorem oB8_elim {α1 α2 α3 α4 α5 α6 α7 α8 β : Type} {x : Option (α1 × α2 × α3 × α4 × α5 × α6 × α7 × α8)} {k : α1 → α2 → α3 → α4 → α5 → α6 → α7 → α8 → Option β} {r : β} (h : oB8 x k = some r) : ∃ v1 v2 v3 v4 v5 v6 v7 v8, x = some (v1, v2, v3, v4, v5, v6, v7, v8) ∧ k v1 v2 v3 v4 v5 v6 v7 v8 = some r := by
  unfold oB8 at h
  cases x with
  | none => cases h
  | some v => obtain ⟨v1, v2, v3, v4, v5, v6, v7, v8⟩ := v; exact ⟨v1, v2, v3, v4, v5, v6, v7, v8, rfl, h⟩
def oB9 {α1 α2 α3 α4 α5 α6 α7 α8 α9 β : Type} (x : Option (α1 × α2 × α3 × α4 × α5 × α6 × α7 × α8 × α9)) (k : α1 → α2 → α3 → α4 → α5 → α6 → α7 → α8 → α9 → Option β) : Option β := match x with
  | some (v1, v2, v3, v4, v5, v6, v7, v8, v9) => k v1 v2 v3 v4 v5 v6 v7 v8 v9
  | none => none
theorem oB9_elim {α1 α2 α3 α4 α5 α6 α7 α8 α9 β : Type} {x : Option (α1 × α2 × α3 × α4 × α5 × α6 × α7 × α8 × α9)} {k : α1 → α2 → α3 → α4 → α5 → α6 → α7 → α8 → α9 → Option β} {r : β} (h : oB9 x k = some r) : ∃ v1 v2 v3 v4 v5 v6 v7 v8 v9, x = some (v1, v2, v3, v4, v5, v6, v7, v8, v9) ∧ k v1 v2 v3 v4 v5 v6 v7 v8 v9 = some r := by
  unfold oB9 at h
  cases x with
  | none => cases h
  | some v => obtain ⟨v1, v2, v3, v4, v5, v6, v7, v8, v9⟩ := v; exact ⟨v1, v2, v3, v4, v5, v6, v7, v8, v9, rfl, h⟩
def oB10 {α1 α2 α3 α4 α5 α6 α7 α8 α9 α10 β : Type} (x : Option (α1 × α2 × α3 × α4 × α5 × α6 × α7 × α8 × α9 × α10)) (k : α1 → α2 → α3 → α4 → α5 → α6 → α7 → α8 → α9 → α10 → Option β) : Option β := match x with
  | some (v1, v2, v3, v4, v5, v6, v7, v8, v9, v10) => k v1 v2 v3 v4 v5 v6 v7 v8 v9 v10
  | none => none
theorem oB10_elim {α1 α2 α3 α4 α5 α6 α7 α8 α9 α10 β : Type} {x : Option (α1 × α2 × α3 × α4 × α5 × α6 × α7 × α8 × α9 × α10)} {k : α1 → α2 → α3 → α4 → α5 → α6 → α7 → α8 → α9 → α10 → Option β} {r : β} (h : oB10 x k = some r) : ∃ v1 v2 v3 v4 v5 v6 v7 v8 v9 v10, x = some (v1, v2, v3, v4, v5, v6, v7, v8, v9, v10) ∧ k v1 v2 v3 v4 v5 v6 v7 v8 v9 v10 = some r := by
  unfold oB10 at h
  cases x with
  | none => cases h
  | some v => obtain ⟨v1, v2, v3, v4, v5, v6, v7, v8, v9, v10⟩ := v; exact ⟨v1, v2, v3, v4, v5, v6, v7, v8, v9, v10, rfl, h⟩
def oB11 {α1 α2 α3 α4 α5 α6 α7 α8 α9 α10 α11 β : Type} (x : Option (α1 × α2 × α3 × α4 × α5 × α6 × α7 × α8 × α9 × α10 × α11)) (k : α1 → α2 → α3 → α4 → α5 → α6 → α7 → α8 → α9 → α10 → α11 → Option β) : Option β := match x with
  | some (v1, v2, v3, v4, v5, v6, v7, v8, v9, v10, v11) => k v1 v2 v3 v4 v5 v6 v7 v8 v9 v10 v11
  | none => none
theorem oB11_elim {α1 α2 α3 α4 α5 α6 α7 α8 α9 α10 α11 β : Type} {x : Option (α1 × α2 × α3 × α4 × α5 × α6 × α7 × α8 × α9 × α10 × α11)} {k : α1 → α2 → α3 → α4 → α5 → α6 → α7 → α8 → α9 → α10 → α11 → Option β} {r : β} (h : oB11 x k = some r) : ∃ v1 v2 v3 v4 v5 v6 v7 v8 v9 v10 v11, x = some (v1, v2, v3, v4, v5, v6, v7, v8, v9, v10, v11) ∧ k v1 v2 v3 v4 v5 v6 v7 v8 v9 v10 v11 = some r := by
  unfold oB11 at h
  cases x with
  | none => cases h
  | some v => obtain ⟨v1, v2, v3, v4, v5, v6, v7, v8, v9, v10, v11⟩ := v; exact ⟨v1, v2, v3, v4, v5, v6, v7, v8, v9, v10, v11, rfl, h⟩
def oB12 {α1 α2 α3 α4 α5 α6 α7 α8 α9 α10 α11 α12 β : Type} (x : Option (α1 × α2 × α3 × α4 × α5 × α6 × α7 × α8 × α9 × α10 × α11 × α12)) (k : α1 → α2 → α3 → α4 → α5 → α6 → α7 → α8 → α9 → α10 → α11 → α12 → Option β) : Option β := match x with
  | some (v1, v2, v3, v4, v5, v6, v7, v8, v9, v10, v11, v12) => k v1 v2 v3 v4 v5 v6 v7 v8 v9 v10 v11 v12
  | none => none
theorem oB12_elim {α1 α2 α3 α4 α5 α6 α7 α8 α9 α10 α11 α12 β : Type} {x : Option (α1 × α2 × α3 × α4 × α5 × α6 × α7 × α8 × α9 × α10 × α11 × α12)} {k : α1 → α2 → α3 → α4 → α5 → α6 → α7 → α8 → α9 → α10 → α11 → α12 → Option β} {r : β} (h : oB12 x k = some r) : ∃ v1 v2 v3 v4 v5 v6 v7 v8 v9 v10 v11 v12, x = some (v1, v2, v3, v4, v5, v6, v7, v8, v9, v10, v11, v12) ∧ k v1 v2 v3 v4 v5 v6 v7 v8 v9 v10 v11 v12 = some r := by
  unfold oB12 at h
  cases x with
  | none => cases h
  | some v => obtain ⟨v1, v2, v3, v4, v5, v6, v7, v8, v9, v10, v11, v12⟩ := v; exact ⟨v1, v2, v3, v4, v5, v6, v7, v8, v9, v10, v11, v12, rfl, h⟩
def oB13 {α1 α2 α3 α4 α5 α6 α7 α8 α9 α10 α11 α12 α13 β : Type} (x : Option (α1 × α2 × α3 × α4 × α5 × α6 × α7 × α8 × α9 × α10 × α11 × α12 × α13)) (k : α1 → α2 → α3 → α4 → α5 → α6 → α7 → α8 → α9 → α10 → α11 → α12 → α13 → Option β) : Option β := match x with
  | some (v1, v2, v3, v4, v5, v6, v7, v8, v9, v10, v11, v12, v13) => k v1 v2 v3 v4 v5 v6 v7 v8 v9 v10 v11 v12 v13
  | none => none
theorem oB13_elim {α1 α2 α3 α4 α5 α6 α7 α8 α9 α10 α11 α12 α13 β : Type} {x : Option (α1 × α2 × α3 × α4 × α5 × α6 × α7 × α8 × α9 × α10 × α11 × α12 × α13)} {k : α1 → α2 → α3 → α4 → α5 → α6 → α7 → α8 → α9 → α10 → α11 → α12 → α13 → Option β} {r : β} (h : oB13 x k = some r) : ∃ v1 v2 v3 v4 v5 v6 v7 v8 v9 v10 v11 v12 v13, x = some (v1, v2, v3, v4, v5, v6, v7, v8, v9, v10, v11, v12, v13) ∧ k v1 v2 v3 v4 v5 v6 v7 v8 v9 v10 v11 v12 v13 = some r := by
  unfold oB13 at h
  cases x with
  | none => cases h
  | some v => obtain ⟨v1, v2, v3, v4, v5, v6, v7, v8, v9, v10, v11, v12, v13⟩ := v; exact ⟨v1, v2, v3, v4, v5, v6, v7, v8, v9, v10, v11, v12, v13, rfl, h⟩
def oB14 {α1 α2 α3 α4 α5 α6 α7 α8 α9 α10 α11 α12 α13 α14 β : Type} (x : Option (α1 × α2 × α3 × α4 × α5 × α6 × α7 × α8 × α9 × α10 × α11 × α12 × α13 × α14)) (k : α1 → α2 → α3 → α4 → α5 → α6 → α7 → α8 → α9 → α10 → α11 → α12 → α13 → α14 → Option β) : Option β := match x with
  | some (v1, v2, v3, v4, v5, v6, v7, v8, v9, v10, v11, v12, v13, v14) => k v1 v2 v3 v4 v5 v6 v7 v8 v9 v10 v11 v12 v13 v14
  | none => none
theorem oB14_elim {α1 α2 α3 α4 α5 α6 α7 α8 α9 α10 α11 α12 α13 α14 β : Type} {x : Option (α1 × α2 × α3 × α4 × α5 × α6 × α7 × α8 × α9 × α10 × α11 × α12 × α13 × α14)} {k : α1 → α2 → α3 → α4 → α5 → α6 → α7 → α8 → α9 → α10 → α11 → α12 → α13 → α14 → Option β} {r : β} (h : oB14 x k = some r) : ∃ v1 v2 v3 v4 v5 v6 v7 v8 v9 v10 v11 v12 v13 v14, x = some (v1, v2, v3, v4, v5, v6, v7, v8, v9, v10, v11, v12, v13, v14) ∧ k v1 v2 v3 v4 v5 v6 v7 v8 v9 v10 v11 v12 v13 v14 = some r := by
  unfold oB14 at h
  cases x with
  | none => cases h
  | some v => obtain ⟨v1, v2, v3, v4, v5, v6, v7, v8, v9, v10, v11, v12, v13, v14⟩ := v; exact ⟨v1, v2, v3, v4, v5, v6, v7, v8, v9, v10, v11, v12, v13, v14, rfl, h⟩
def oB15 {α1 α2 α3 α4 α5 α6 α7 α8 α9 α10 α11 α12 α13 α14 α15 β : Type} (x : Option (α1 × α2 × α3 × α4 × α5 × α6 × α7 × α8 × α9 × α10 × α11 × α12 × α13 × α14 × α15)) (k : α1 → α2 → α3 → α4 → α5 → α6 → α7 → α8 → α9 → α10 → α11 → α12 → α13 → α14 → α15 → Option β) : Option β := match x with
  | some (v1, v2, v3, v4, v5, v6, v7, v8, v9, v10, v11, v12, v13, v14, v15) => k v1 v2 v3 v4 v5 v6 v7 v8 v9 v10 v11 v12 v13 v14 v15
  | none => none
theorem oB15_elim {α1 α2 α3 α4 α5 α6 α7 α8 α9 α10 α11 α12 α13 α14 α15 β : Type} {x : Option (α1 × α2 × α3 × α4 × α5 × α6 × α7 × α8 × α9 × α10 × α11 × α12 × α13 × α14 × α15)} {k : α1 → α2 → α3 → α4 → α5 → α6 → α7 → α8 → α9 → α10 → α11 → α12 → α13 → α14 → α15 → Option β} {r : β} (h : oB15 x k = some r) : ∃ v1 v2 v3 v4 v5 v6 v7 v8 v9 v10 v11 v12 v13 v14 v15, x = some (v1, v2, v3, v4, v5, v6, v7, v8, v9, v10, v11, v12, v13, v14, v15) ∧ k v1 v2 v3 v4 v5 v6 v7 v8 v9 v10 v11 v12 v13 v14 v15 = some r := by
  unfold oB15 at h
  cases x with
  | none => cases h
  | some v => obtain ⟨v1, v2, v3, v4, v5, v6, v7, v8, v9, v10, v11, v12, v13, v14, v15⟩ := v; exact ⟨v1, v2, v3, v4, v5, v6, v7, v8, v9, v10, v11, v12, v13, v14, v15, rfl, h⟩
def oB16 {α1 α2 α3 α4 α5 α6 α7 α8 α9 α10 α11 α12 α13 α14 α15 α16 β : Type} (x : Option (α1 × α2 × α3 × α4 × α5 × α6 × α7 × α8 × α9 × α10 × α11 × α12 × α13 × α14 × α15 × α16)) (k : α1 → α2 → α3 → α4 → α5 → α6 → α7 → α8 → α9 → α10 → α11 → α12 → α13 → α14 → α15 → α16 → Option β) : Option β := match x with
  | some (v1, v2, v3, v4, v5, v6, v7, v8, v9, v10, v11, v12, v13, v14, v15, v16) => k v1 v2 v3 v4 v5 v6 v7 v8 v9 v10 v11 v12 v13 v14 v15 v16
  | none => none
theorem oB16_elim {α1 α2 α3 α4 α5 α6 α7 α8 α9 α10 α11 α12 α13 α14 α15 α16 β : Type} {x : Option (α1 × α2 × α3 × α4 × α5 × α6 × α7 × α8 × α9 × α10 × α11 × α12 × α13 × α14 × α15 × α16)} {k : α1 → α2 → α3 → α4 → α5 → α6 → α7 → α8 → α9 → α10 → α11 → α12 → α13 → α14 → α15 → α16 → Option β} {r : β} (h : oB16 x k = some r) : ∃ v1 v2 v3 v4 v5 v6 v7 v8 v9 v10 v11 v12 v13 v14 v15 v16, x = some (v1, v2, v3, v4, v5, v6, v7, v8, v9, v10, v11, v12, v13, v14, v15, v16) ∧ k v1 v2 v3 v4 v5 v6 v7 v8 v9 v10 v11 v12 v13 v14 v15 v16 = some r := by
  unfold oB16 at h
  cases x with
  | none => cases h
  | some v => obtain ⟨v1, v2, v3, v4, v5, v6, v7, v8, v9, v10, v11, v12, v13, v14, v15, v16⟩ := v; exact ⟨v1, v2, v3, v4, v5, v6, v7, v8, v9, v10, v11, v12, v13, v14, v15, v16, rfl, h⟩
