/-! Pure words of the decompiled methods: a guard of an index, a guard, a let, calls. -/
def oA {α : Type} (i : Int32) (n : Nat) (k : Option α) : Option α := if i < 0 ∨ n ≤ i.toNatClampNeg then none else k
def oG {α : Type} (c : Prop) [Decidable c] (k : Option α) : Option α := if c then k else none
def oL {α β : Type} (a : α) (k : α → Option β) : Option β := k a
def oMin (x y : Int32) : Int32 := if y < x then y else x
def oMax (x y : Int32) : Int32 := if x < y then y else x
def oB {α β : Type} (x : Option α) (k : α → Option β) : Option β := match x with
  | some v => k v
  | none => none
theorem oA_elim {α : Type} {i : Int32} {n : Nat} {k : Option α} {r : α} (h : oA i n k = some r) : (¬ (i < 0 ∨ n ≤ i.toNatClampNeg)) ∧ k = some r := by
  unfold oA at h
  split at h
  · cases h
  · exact ⟨by assumption, h⟩
theorem oG_elim {α : Type} {c : Prop} {_ : Decidable c} {k : Option α} {r : α} (h : oG c k = some r) : c ∧ k = some r := by
  unfold oG at h
  split at h
  · exact ⟨by assumption, h⟩
  · cases h
theorem oL_elim {α β : Type} {a : α} {k : α → Option β} {r : β} (h : oL a k = some r) : ∃ x, x = a ∧ k x = some r := ⟨a, rfl, h⟩
theorem oB_elim {α β : Type} {x : Option α} {k : α → Option β} {r : β} (h : oB x k = some r) : ∃ v, x = some v ∧ k v = some r := by
  unfold oB at h
  cases x with
  | none => cases h
  | some v => exact ⟨v, rfl, h⟩
/-- a double that is a number; a comparison's answer -/
def oN {α : Type} (r : UInt64) (k : UInt64 → Option α) : Option α := if r &&& 0x7fffffffffffffff ≤ 0x7ff0000000000000 then k r else none
theorem oN_elim {α : Type} {x : UInt64} {k : UInt64 → Option α} {r : α} (h : oN x k = some r) : ∃ z, z = x ∧ vf_n64 x ∧ k z = some r := by
  unfold oN at h
  split at h
  · exact ⟨x, rfl, by assumption, h⟩
  · cases h
theorem oN_ok {α : Type} {x : UInt64} {k : UInt64 → Option α} (h : vf_n64 x) : oN x k = k x := if_pos h
def dcL (x y : UInt64) : Int32 := Op.cmpValue (FP.dcmp x y) CmpOp.l
def dcG (x y : UInt64) : Int32 := Op.cmpValue (FP.dcmp x y) CmpOp.g
theorem oI_pos {α : Type} {c : Prop} {_ : Decidable c} {x y r : α} (hc : c) (h : (if c then x else y) = r) : x = r := by rw [if_pos hc] at h; exact h
theorem oI_neg {α : Type} {c : Prop} {_ : Decidable c} {x y r : α} (hc : ¬ c) (h : (if c then x else y) = r) : y = r := by rw [if_neg hc] at h; exact h
