/-! From Int32 to Int: guards, and 'alike' relations between f's values and g's. -/
def oR {α : Type} (e : Int) (k : Option α) : Option α := if -2147483648 ≤ e ∧ e ≤ 2147483647 then k else none
def oRJ {α : Type} (e : Int) (k : Option α) : Option α := if -9223372036854775808 ≤ e ∧ e ≤ 9223372036854775807 then k else none
def qA {α : Type} (e n : Int) (k : Option α) : Option α := if 0 ≤ e ∧ e < n ∧ e ≤ 2147483647 then k else none
def qD {α : Type} (a c : Int) (k : Option α) : Option α := if 0 ≤ a ∧ 0 < c then k else none
def updZ (v : Int → Int) (k x : Int) : Int → Int := fun j => if j = k then x else v j
def cpyZ (f g : Int → Int) (sp dp n : Int) : Int → Int := fun k => if dp ≤ k ∧ k < dp + n then f (sp + (k - dp)) else g k
def zAnd (a b : Int) : Int := (Int32.ofInt a &&& Int32.ofInt b).toInt
def zOr (a b : Int) : Int := (Int32.ofInt a ||| Int32.ofInt b).toInt
def zXor (a b : Int) : Int := (Int32.ofInt a ^^^ Int32.ofInt b).toInt
def zShl (a b : Int) : Int := (Int32.ofInt a <<< (Int32.ofInt b &&& 31)).toInt
def zShr (a b : Int) : Int := (Int32.ofInt a >>> (Int32.ofInt b &&& 31)).toInt
def zUshr (a b : Int) : Int := ((Int32.ofInt a).toUInt32 >>> ((Int32.ofInt b).toUInt32 &&& Int32.toUInt32 31)).toInt32.toInt
def zNb (a : Int) : Int := (vp_nar .boolean (Int32.ofInt a)).toInt
def zCmp (a b : Int) : Int := if b < a then 1 else if a = b then 0 else -1
def LI (X : Int32) (x : Int) : Prop := X.toInt = x
def LJ (X : Int64) (x : Int) : Prop := X.toInt = x
def LA (V : Nat → Int32) (v : Int → Int) : Prop := ∀ i : Nat, (V i).toInt = v (i : Int)
def LN (N : Nat) (n : Int) : Prop := (N : Int) = n
def LKI (V : Nat → Int32) (v : Nat → Int) : Prop := ∀ i : Nat, LI (V i) (v i)
def LKA (V : Nat → Nat → Int32) (v : Nat → Int → Int) : Prop := ∀ i : Nat, LA (V i) (v i)
theorem LI_n {X : Int32} {x : Int} (h : X.toInt = x) : LI X x := h
theorem LJ_n {X : Int64} {x : Int} (h : X.toInt = x) : LJ X x := h
theorem LI_of {E : Int32} {e : Int} (h : E = Int32.ofInt e) (hr : -2147483648 ≤ e ∧ e ≤ 2147483647) : LI E e := by
  show E.toInt = e
  rw [h]; exact Int32.toInt_ofInt_of_le (by omega) (by omega)
theorem LJ_of {E : Int64} {e : Int} (h : E = Int64.ofInt e) (hr : -9223372036854775808 ≤ e ∧ e ≤ 9223372036854775807) : LJ E e := by
  show E.toInt = e
  rw [h]; exact Int64.toInt_ofInt_of_le (by omega) (by omega)
theorem EI_i {X : Int32} {x : Int} (h : LI X x) : X = Int32.ofInt x := by cases h; exact (Int32.ofInt_toInt X).symm
theorem EJ_j {X : Int64} {x : Int} (h : LJ X x) : X = Int64.ofInt x := by cases h; exact (Int64.ofInt_toInt X).symm
theorem EI_add {A B : Int32} {a b : Int} (ha : A = Int32.ofInt a) (hb : B = Int32.ofInt b) : A + B = Int32.ofInt (a + b) := by rw [ha, hb, Int32.ofInt_add]
theorem EI_sub {A B : Int32} {a b : Int} (ha : A = Int32.ofInt a) (hb : B = Int32.ofInt b) : A - B = Int32.ofInt (a - b) := by rw [ha, hb, Int32.ofInt_sub]
theorem EI_mul {A B : Int32} {a b : Int} (ha : A = Int32.ofInt a) (hb : B = Int32.ofInt b) : A * B = Int32.ofInt (a * b) := by rw [ha, hb, Int32.ofInt_mul]
theorem EI_neg {A : Int32} {a : Int} (ha : A = Int32.ofInt a) : -A = Int32.ofInt (-a) := by rw [ha, Int32.ofInt_neg]
theorem EJ_add {A B : Int64} {a b : Int} (ha : A = Int64.ofInt a) (hb : B = Int64.ofInt b) : A + B = Int64.ofInt (a + b) := by rw [ha, hb, Int64.ofInt_add]
theorem EJ_sub {A B : Int64} {a b : Int} (ha : A = Int64.ofInt a) (hb : B = Int64.ofInt b) : A - B = Int64.ofInt (a - b) := by rw [ha, hb, Int64.ofInt_sub]
theorem EJ_mul {A B : Int64} {a b : Int} (ha : A = Int64.ofInt a) (hb : B = Int64.ofInt b) : A * B = Int64.ofInt (a * b) := by rw [ha, hb, Int64.ofInt_mul]
theorem EI_l {X : Int64} {x : Int} (h : LJ X x) : X.toInt32 = Int32.ofInt x := by cases h; rfl
theorem EI_n {N : Nat} {n : Int} (h : (N : Int) = n) : Int32.ofNat N = Int32.ofInt n := by cases h; exact Int32.ofInt_eq_ofNat.symm
theorem EI_div {A B : Int32} {a b : Int} (ha : LI A a) (hb : LI B b) (h : 0 ≤ a ∧ 0 < b) : A / B = Int32.ofInt (a / b) := by
  have ha : A.toInt = a := ha
  have hb : B.toInt = b := hb
  apply Int32.toInt_inj.1
  rw [Int32.toInt_div, Int32.toInt_ofInt, ha, hb, Int.tdiv_eq_ediv_of_nonneg h.1]
theorem EJ_div {A B : Int64} {a b : Int} (ha : LJ A a) (hb : LJ B b) (h : 0 ≤ a ∧ 0 < b) : A / B = Int64.ofInt (a / b) := by
  have ha : A.toInt = a := ha
  have hb : B.toInt = b := hb
  apply Int64.toInt_inj.1
  rw [Int64.toInt_div, Int64.toInt_ofInt, ha, hb, Int.tdiv_eq_ediv_of_nonneg h.1]
theorem EI_rem {A B : Int32} {a b : Int} (ha : LI A a) (hb : LI B b) (h : 0 ≤ a ∧ 0 < b) : A - A / B * B = Int32.ofInt (a % b) := by
  rw [EI_div ha hb h, EI_i ha, EI_i hb, ← Int32.ofInt_mul, ← Int32.ofInt_sub, Int.emod_def, Int.mul_comm b]
theorem EJ_rem {A B : Int64} {a b : Int} (ha : LJ A a) (hb : LJ B b) (h : 0 ≤ a ∧ 0 < b) : A - A / B * B = Int64.ofInt (a % b) := by
  rw [EJ_div ha hb h, EJ_j ha, EJ_j hb, ← Int64.ofInt_mul, ← Int64.ofInt_sub, Int.emod_def, Int.mul_comm b]
theorem LI_and {A B : Int32} {a b : Int} (ha : LI A a) (hb : LI B b) : LI (A &&& B) (zAnd a b) := by rw [EI_i ha, EI_i hb]; rfl
theorem LI_or {A B : Int32} {a b : Int} (ha : LI A a) (hb : LI B b) : LI (A ||| B) (zOr a b) := by rw [EI_i ha, EI_i hb]; rfl
theorem LI_xor {A B : Int32} {a b : Int} (ha : LI A a) (hb : LI B b) : LI (A ^^^ B) (zXor a b) := by rw [EI_i ha, EI_i hb]; rfl
theorem LI_shl {A B : Int32} {a b : Int} (ha : LI A a) (hb : LI B b) : LI (A <<< (B &&& 31)) (zShl a b) := by rw [EI_i ha, EI_i hb]; rfl
theorem LI_shr {A B : Int32} {a b : Int} (ha : LI A a) (hb : LI B b) : LI (A >>> (B &&& 31)) (zShr a b) := by rw [EI_i ha, EI_i hb]; rfl
theorem LI_ushr {A B : Int32} {a b : Int} (ha : LI A a) (hb : LI B b) : LI (A.toUInt32 >>> (B.toUInt32 &&& Int32.toUInt32 31)).toInt32 (zUshr a b) := by rw [EI_i ha, EI_i hb]; rfl
theorem LI_nar {A : Int32} {a : Int} (ha : LI A a) : LI (vp_nar .boolean A) (zNb a) := by rw [EI_i ha]; rfl
theorem LJ_i {X : Int32} {x : Int} (h : LI X x) : LJ X.toInt64 x := by
  show X.toInt64.toInt = x
  rw [Int32.toInt_toInt64]; exact h
theorem LI_le {A B : Int32} {a b : Int} (ha : LI A a) (hb : LI B b) : A ≤ B ↔ a ≤ b := by cases ha; cases hb; exact Int32.le_iff_toInt_le
theorem LI_lt {A B : Int32} {a b : Int} (ha : LI A a) (hb : LI B b) : A < B ↔ a < b := by cases ha; cases hb; exact Int32.lt_iff_toInt_lt
theorem LI_eq {A B : Int32} {a b : Int} (ha : LI A a) (hb : LI B b) : A = B ↔ a = b := by cases ha; cases hb; exact Int32.toInt_inj.symm
theorem LJ_le {A B : Int64} {a b : Int} (ha : LJ A a) (hb : LJ B b) : A ≤ B ↔ a ≤ b := by cases ha; cases hb; exact Int64.le_iff_toInt_le
theorem LJ_lt {A B : Int64} {a b : Int} (ha : LJ A a) (hb : LJ B b) : A < B ↔ a < b := by cases ha; cases hb; exact Int64.lt_iff_toInt_lt
theorem LJ_eq {A B : Int64} {a b : Int} (ha : LJ A a) (hb : LJ B b) : A = B ↔ a = b := by cases ha; cases hb; exact Int64.toInt_inj.symm
theorem LI_min {A B : Int32} {a b : Int} (ha : LI A a) (hb : LI B b) : LI (oMin A B) (min a b) := by
  unfold oMin
  by_cases h : B < A
  · rw [if_pos h]; have := (LI_lt hb ha).1 h; rw [Int.min_eq_right (by omega)]; exact hb
  · rw [if_neg h]; have : ¬ b < a := fun x => h ((LI_lt hb ha).2 x); rw [Int.min_eq_left (by omega)]; exact ha
theorem LI_max {A B : Int32} {a b : Int} (ha : LI A a) (hb : LI B b) : LI (oMax A B) (max a b) := by
  unfold oMax
  by_cases h : A < B
  · rw [if_pos h]; have := (LI_lt ha hb).1 h; rw [Int.max_eq_right (by omega)]; exact hb
  · rw [if_neg h]; have : ¬ a < b := fun x => h ((LI_lt ha hb).2 x); rw [Int.max_eq_left (by omega)]; exact ha
theorem zc_gt {A B : Int64} (h : B < A) : lg_cmp A B = 1 := by unfold lg_cmp; rw [if_pos h]
theorem zc_eq {A B : Int64} (h : A = B) : lg_cmp A B = 0 := by
  subst h; unfold lg_cmp
  rw [if_neg (by intro hh; have := Int64.lt_iff_toInt_lt.1 hh; omega), if_pos rfl]
theorem zc_lt {A B : Int64} (h : A < B) : lg_cmp A B = -1 := by
  have h0 := Int64.lt_iff_toInt_lt.1 h
  unfold lg_cmp
  rw [if_neg (by intro hh; have := Int64.lt_iff_toInt_lt.1 hh; omega), if_neg (by intro hh; subst hh; omega)]
theorem LI_cmp {A B : Int64} {a b : Int} (ha : LJ A a) (hb : LJ B b) : LI (lg_cmp A B) (zCmp a b) := by
  unfold zCmp
  by_cases h : b < a
  · rw [if_pos h, zc_gt ((LJ_lt hb ha).2 h)]; rfl
  · rw [if_neg h]
    by_cases h2 : a = b
    · rw [if_pos h2, zc_eq ((LJ_eq ha hb).2 h2)]; rfl
    · rw [if_neg h2, zc_lt ((LJ_lt ha hb).2 (by omega))]; rfl
theorem LI_0 : LI 0 0 := rfl
theorem zCmp_le {a b : Int} : zCmp a b ≤ 0 ↔ a ≤ b := by unfold zCmp; split <;> (try split) <;> omega
theorem zCmp_lt {a b : Int} : zCmp a b < 0 ↔ a < b := by unfold zCmp; split <;> (try split) <;> omega
theorem zCmp_le' {a b : Int} : 0 ≤ zCmp a b ↔ b ≤ a := by unfold zCmp; split <;> (try split) <;> omega
theorem zCmp_lt' {a b : Int} : 0 < zCmp a b ↔ b < a := by unfold zCmp; split <;> (try split) <;> omega
theorem zCmp_eq {a b : Int} : zCmp a b = 0 ↔ a = b := by unfold zCmp; split <;> (try split) <;> omega
theorem LC_le {A B : Int64} {a b : Int} (ha : LJ A a) (hb : LJ B b) : lg_cmp A B ≤ 0 ↔ a ≤ b := (LI_le (LI_cmp ha hb) LI_0).trans zCmp_le
theorem LC_lt {A B : Int64} {a b : Int} (ha : LJ A a) (hb : LJ B b) : lg_cmp A B < 0 ↔ a < b := (LI_lt (LI_cmp ha hb) LI_0).trans zCmp_lt
theorem LC_le' {A B : Int64} {a b : Int} (ha : LJ A a) (hb : LJ B b) : 0 ≤ lg_cmp A B ↔ b ≤ a := (LI_le LI_0 (LI_cmp ha hb)).trans zCmp_le'
theorem LC_lt' {A B : Int64} {a b : Int} (ha : LJ A a) (hb : LJ B b) : 0 < lg_cmp A B ↔ b < a := (LI_lt LI_0 (LI_cmp ha hb)).trans zCmp_lt'
theorem LC_eq {A B : Int64} {a b : Int} (ha : LJ A a) (hb : LJ B b) : lg_cmp A B = 0 ↔ a = b := (LI_eq (LI_cmp ha hb) LI_0).trans zCmp_eq
theorem LC_cd {a b : Nat} (h : a = b) : a = 0 ↔ b = 0 := by rw [h]
theorem EI_clamp {E : Int32} {e : Int} (h : E = Int32.ofInt e) (h0 : 0 ≤ e) (h1 : e ≤ 2147483647) : (E.toNatClampNeg : Int) = e := by
  rw [h, Int32.toNatClampNeg_ofInt_of_le (by omega) (by omega)]; omega
theorem LN_cl {X : Int32} {x : Int} (h : LI X x) (h0 : ¬ x < 0) : LN X.toNatClampNeg x := by
  have h : X.toInt = x := h
  have := X.toInt_lt
  show (X.toNatClampNeg : Int) = x
  exact EI_clamp (EI_i h) (by omega) (by omega)
theorem LI_ga {X : Int32} {x : Int} {b : Nat} (h : LI X x) (h0 : ¬ x < 0) : (X.toNatClampNeg ≤ 134217728 ∧ X.toNatClampNeg ≤ b) ↔ (x ≤ 134217728 ∧ x ≤ (b : Int)) := by
  have h1 : (X.toNatClampNeg : Int) = x := LN_cl h h0
  omega
theorem LA_at {V : Nat → Int32} {v : Int → Int} {E : Int32} {e n : Int} (hv : LA V v) (hE : E = Int32.ofInt e) (hk : 0 ≤ e ∧ e < n ∧ e ≤ 2147483647) : LI (V E.toNatClampNeg) (v e) := by
  have h := hv E.toNatClampNeg
  rw [EI_clamp hE hk.1 hk.2.2] at h
  exact h
theorem LI_js {i : Nat} {E : Int32} {e n : Int} (hE : E = Int32.ofInt e) (hk : 0 ≤ e ∧ e < n ∧ e ≤ 2147483647) : LI (jsCh i E.toNatClampNeg) (jsCh i (Int.toNat e)).toInt := by
  have h := EI_clamp hE hk.1 hk.2.2
  have h2 : E.toNatClampNeg = Int.toNat e := by omega
  rw [h2]; rfl
theorem LA_upd {V : Nat → Int32} {v : Int → Int} {E X : Int32} {e n x : Int} (hv : LA V v) (hE : E = Int32.ofInt e) (hk : 0 ≤ e ∧ e < n ∧ e ≤ 2147483647) (hx : LI X x) : LA (upd V E.toNatClampNeg X) (updZ v e x) := by
  intro i
  have h := EI_clamp hE hk.1 hk.2.2
  unfold upd updZ
  by_cases hi : i = E.toNatClampNeg
  · rw [if_pos hi, if_pos (by omega)]; exact hx
  · rw [if_neg hi, if_neg (by omega)]; exact hv i
theorem LA_0 : LA (fun _ => 0) (fun _ => 0) := fun _ => rfl
theorem LA_cpy {V W : Nat → Int32} {v w : Int → Int} {SP DP N : Int32} {sp dp n : Int} (hv : LA V v) (hw : LA W w) (h1 : LI SP sp) (h2 : LI DP dp) (h3 : LI N n) (g1 : 0 ≤ sp) (g2 : 0 ≤ dp) (g3 : 0 ≤ n) : LA (va_cpy V W SP.toNatClampNeg DP.toNatClampNeg N.toNatClampNeg) (cpyZ v w sp dp n) := by
  intro i
  have e1 : (SP.toNatClampNeg : Int) = sp := LN_cl h1 (by omega)
  have e2 : (DP.toNatClampNeg : Int) = dp := LN_cl h2 (by omega)
  have e3 : (N.toNatClampNeg : Int) = n := LN_cl h3 (by omega)
  unfold va_cpy cpyZ
  by_cases hi : DP.toNatClampNeg ≤ i ∧ i < DP.toNatClampNeg + N.toNatClampNeg
  · rw [if_pos hi, if_pos (by omega), hv]
    exact congrArg v (by omega)
  · rw [if_neg hi, if_neg (by omega), hw]
theorem LI_cg {V : Int32} {a b : Int} (h : a = b) (hb : LI V b) : LI V a := by rw [h]; exact hb
theorem LJ_cg {V : Int64} {a b : Int} (h : a = b) (hb : LJ V b) : LJ V a := by rw [h]; exact hb
theorem LN_cg {V : Nat} {a b : Int} (h : a = b) (hb : LN V b) : LN V a := by rw [h]; exact hb
theorem LA_cg {V : Nat → Int32} {a b : Int → Int} (h : a = b) (hb : LA V b) : LA V a := by rw [h]; exact hb
theorem LKI_up {β : Type} (g : β → Int) {V : Nat → Int32} {K : Nat → β} {d : Nat} {x : Int32} {r : β} (h : LKI V (fun i => g (K i))) (hx : LI x (g r)) : LKI (va_up V d x) (fun i => g (va_up K d r i)) := by
  intro i
  show LI (va_up V d x i) (g (va_up K d r i))
  unfold va_up
  by_cases hi : i = d
  · rw [if_pos hi, if_pos hi]; exact hx
  · rw [if_neg hi, if_neg hi]; exact h i
theorem LKA_up {β : Type} (g : β → Int → Int) {V : Nat → Nat → Int32} {K : Nat → β} {d : Nat} {x : Nat → Int32} {r : β} (h : LKA V (fun i => g (K i))) (hx : LA x (g r)) : LKA (va_up V d x) (fun i => g (va_up K d r i)) := by
  intro i
  show LA (va_up V d x i) (g (va_up K d r i))
  unfold va_up
  by_cases hi : i = d
  · rw [if_pos hi, if_pos hi]; exact hx
  · rw [if_neg hi, if_neg hi]; exact h i
/-! the walk's rows -/
section
variable {α β γ δ : Type} {r : δ} {P : γ → Prop}
theorem lA {E : Int32} {e n : Int} {N : Nat} {K : Option γ} {k : Option δ} (hE : E = Int32.ofInt e) (hN : (N : Int) = n) (hg : qA e n k = some r) (H : (0 ≤ e ∧ e < n ∧ e ≤ 2147483647) → k = some r → ∃ R, K = some R ∧ P R) : ∃ R, oA E N K = some R ∧ P R := by
  unfold qA at hg
  split at hg
  · rename_i h
    have hc := EI_clamp hE h.1 h.2.2
    have hl := LI_of hE (by omega)
    have : ¬ (E < 0 ∨ N ≤ E.toNatClampNeg) := by
      rw [LI_lt hl LI_0]; omega
    unfold oA; rw [if_neg this]; exact H h hg
  · cases hg
theorem lG {C c : Prop} {_ : Decidable C} {_ : Decidable c} {K : Option γ} {k : Option δ} (hC : C ↔ c) (hg : oG c k = some r) (H : c → k = some r → ∃ R, K = some R ∧ P R) : ∃ R, oG C K = some R ∧ P R := by
  unfold oG at hg
  split at hg
  · rename_i h; unfold oG; rw [if_pos (hC.2 h)]; exact H h hg
  · cases hg
theorem lI {C c : Prop} {_ : Decidable C} {_ : Decidable c} {A B : Option γ} {a b : Option δ} (hC : C ↔ c) (hg : (if c then a else b) = some r) (H : c → a = some r → ∃ R, A = some R ∧ P R) (H' : ¬ c → b = some r → ∃ R, B = some R ∧ P R) : ∃ R, (if C then A else B) = some R ∧ P R := by
  by_cases h : c
  · rw [if_pos h] at hg; rw [if_pos (hC.2 h)]; exact H h hg
  · rw [if_neg h] at hg; rw [if_neg (fun x => h (hC.1 x))]; exact H' h hg
theorem lL {L : α → β → Prop} {E : α} {e : β} {K : α → Option γ} {k : β → Option δ} (hE : L E e) (hg : oL e k = some r) (H : ∀ Y y, L Y y → k y = some r → ∃ R, K Y = some R ∧ P R) : ∃ R, oL E K = some R ∧ P R := H E e hE hg
theorem lR {k : Option δ} {e : Int} {G : Prop} (hg : oR e k = some r) (H : (-2147483648 ≤ e ∧ e ≤ 2147483647) → k = some r → G) : G := by
  unfold oR at hg
  split at hg
  · rename_i h; exact H h hg
  · cases hg
theorem lRJ {k : Option δ} {e : Int} {G : Prop} (hg : oRJ e k = some r) (H : (-9223372036854775808 ≤ e ∧ e ≤ 9223372036854775807) → k = some r → G) : G := by
  unfold oRJ at hg
  split at hg
  · rename_i h; exact H h hg
  · cases hg
theorem lD {k : Option δ} {a c : Int} {G : Prop} (hg : qD a c k = some r) (H : (0 ≤ a ∧ 0 < c) → k = some r → G) : G := by
  unfold qD at hg
  split at hg
  · rename_i h; exact H h hg
  · cases hg
theorem lB {X : Option α} {x : Option β} {K : α → Option γ} {k : β → Option δ} {C : α → β → Prop} (hF : ∀ v, x = some v → ∃ V, X = some V ∧ C V v) (hg : oB x k = some r) (H : ∀ V v, C V v → k v = some r → ∃ R, K V = some R ∧ P R) : ∃ R, oB X K = some R ∧ P R := by
  unfold oB at hg
  cases x with
  | none => cases hg
  | some v =>
    obtain ⟨V, hV, hC⟩ := hF v rfl
    rw [hV]; exact H V v hC hg
theorem lJ {X : Option γ} {C : γ → Prop} (h : ∃ R, X = some R ∧ C R) (H : ∀ R, C R → P R) : ∃ R, X = some R ∧ P R := by
  obtain ⟨R, h1, h2⟩ := h
  exact ⟨R, h1, H R h2⟩
end
