/-! The pure layer's words: guards that hold, sums over a range, classical choices. -/
theorem qA_ok {α : Type} {e n : Int} {k : Option α} (h0 : 0 ≤ e) (h1 : e < n) (h2 : e ≤ 2147483647) : qA e n k = k := by
  unfold qA; rw [if_pos ⟨h0, h1, h2⟩]
theorem oR_ok {α : Type} {e : Int} {k : Option α} (h0 : -2147483648 ≤ e) (h1 : e ≤ 2147483647) : oR e k = k := by
  unfold oR; rw [if_pos ⟨h0, h1⟩]
theorem oRJ_ok {α : Type} {e : Int} {k : Option α} (h0 : -9223372036854775808 ≤ e) (h1 : e ≤ 9223372036854775807) : oRJ e k = k := by
  unfold oRJ; rw [if_pos ⟨h0, h1⟩]
theorem qD_ok {α : Type} {a c : Int} {k : Option α} (h0 : 0 ≤ a) (h1 : 0 < c) : qD a c k = k := by
  unfold qD; rw [if_pos ⟨h0, h1⟩]
theorem oG_ok {α : Type} {c : Prop} {_ : Decidable c} {k : Option α} (h : c) : oG c k = k := by
  unfold oG; rw [if_pos h]
theorem oL_def {α β : Type} (a : α) (k : α → Option β) : oL a k = k a := rfl
theorem oB_some {α β : Type} (a : α) (k : α → Option β) : oB (some a) k = k a := rfl
theorem oB2_some {α γ β : Type} (a : α) (c : γ) (k : α → γ → Option β) : oB2 (some (a, c)) k = k a c := rfl
theorem updZ_at (v : Int → Int) (k x : Int) : updZ v k x k = x := by unfold updZ; rw [if_pos rfl]
theorem updZ_ne {v : Int → Int} {k x j : Int} (h : j ≠ k) : updZ v k x j = v j := by unfold updZ; rw [if_neg h]
theorem updZ_app (v : Int → Int) (k x j : Int) : updZ v k x j = if j = k then x else v j := rfl
theorem zNb_0 : zNb 0 = 0 := by decide
theorem zNb_1 : zNb 1 = 1 := by decide
theorem zNb_b {x : Int} (h : x = 0 ∨ x = 1) : zNb x = x := by
  cases h with
  | inl h => rw [h]; exact zNb_0
  | inr h => rw [h]; exact zNb_1
/-! classical choices -/
noncomputable def cif {α : Type} (P : Prop) (a b : α) : α := @ite α P (Classical.propDecidable P) a b
theorem cif_pos {α : Type} {P : Prop} {a b : α} (h : P) : cif P a b = a := by unfold cif; exact @if_pos P (Classical.propDecidable P) h α a b
theorem cif_neg {α : Type} {P : Prop} {a b : α} (h : ¬ P) : cif P a b = b := by unfold cif; exact @if_neg P (Classical.propDecidable P) h α a b
theorem cif_ite {α : Type} {P : Prop} {_ : Decidable P} {a b : α} : cif P a b = if P then a else b := by
  by_cases h : P
  · rw [cif_pos h, if_pos h]
  · rw [cif_neg h, if_neg h]
theorem cif_congr {α : Type} {P Q : Prop} {a b : α} (h : P ↔ Q) : cif P a b = cif Q a b := by
  by_cases hq : Q
  · rw [cif_pos hq, cif_pos (h.2 hq)]
  · rw [cif_neg hq, cif_neg (fun x => hq (h.1 x))]
noncomputable def zB (P : Prop) : Int := cif P 1 0
theorem zB_pos {P : Prop} (h : P) : zB P = 1 := cif_pos h
theorem zB_neg {P : Prop} (h : ¬ P) : zB P = 0 := cif_neg h
theorem zB_0 {P : Prop} : zB P = 0 ↔ ¬ P := by
  by_cases h : P
  · rw [zB_pos h]; simp [h]
  · rw [zB_neg h]; simp [h]
theorem zB_1 {P : Prop} : zB P = 1 ↔ P := by
  by_cases h : P
  · rw [zB_pos h]; simp [h]
  · rw [zB_neg h]; simp [h]
theorem zB_01 (P : Prop) : zB P = 0 ∨ zB P = 1 := by
  by_cases h : P
  · exact .inr (zB_pos h)
  · exact .inl (zB_neg h)
theorem zB_nb (P : Prop) : zNb (zB P) = zB P := zNb_b (zB_01 P)
theorem zB_congr {P Q : Prop} (h : P ↔ Q) : zB P = zB Q := cif_congr h
theorem ite_zB {P : Prop} {_ : Decidable P} : (if P then (some 1 : Option Int) else some 0) = some (zB P) := by
  by_cases h : P
  · rw [if_pos h, zB_pos h]
  · rw [if_neg h, zB_neg h]
theorem ite_zB' {P : Prop} {_ : Decidable P} : (if P then (some 0 : Option Int) else some 1) = some (zB (¬ P)) := by
  by_cases h : P
  · rw [if_pos h, zB_neg (fun x => x h)]
  · rw [if_neg h, zB_pos h]
/-! sums over a range -/
def zs (f : Int → Int) : Int → Nat → Int
  | _, 0 => 0
  | a, k + 1 => f a + zs f (a + 1) k
def zr (f : Int → Int) (a b : Int) : Int := zs f a (b - a).toNat
theorem zr_nil {f : Int → Int} {a b : Int} (h : b ≤ a) : zr f a b = 0 := by
  unfold zr; rw [show (b - a).toNat = 0 by omega]; rfl
theorem zr_cons {f : Int → Int} {a b : Int} (h : a < b) : zr f a b = f a + zr f (a + 1) b := by
  unfold zr; rw [show (b - a).toNat = (b - (a + 1)).toNat + 1 by omega]; rfl
theorem zs_snoc (f : Int → Int) : ∀ (k : Nat) (a : Int), zs f a (k + 1) = zs f a k + f (a + k) := by
  intro k
  induction k with
  | zero => intro a; show f a + 0 = 0 + f (a + ((0 : Nat) : Int)); rw [show a + ((0 : Nat) : Int) = a by omega]; omega
  | succ k ih =>
    intro a
    show f a + zs f (a + 1) (k + 1) = f a + zs f (a + 1) k + f (a + ((k + 1 : Nat) : Int))
    rw [ih, show a + 1 + (k : Int) = a + ((k + 1 : Nat) : Int) by omega]; omega
theorem zr_snoc {f : Int → Int} {a b : Int} (h : a ≤ b) : zr f a (b + 1) = zr f a b + f b := by
  unfold zr; rw [show (b + 1 - a).toNat = (b - a).toNat + 1 by omega, zs_snoc, show a + ((b - a).toNat : Int) = b by omega]
theorem zs_congr {f g : Int → Int} : ∀ (k : Nat) (a : Int), (∀ i, a ≤ i → i < a + k → f i = g i) → zs f a k = zs g a k := by
  intro k
  induction k with
  | zero => intro a _; rfl
  | succ k ih =>
    intro a h
    show f a + zs f (a + 1) k = g a + zs g (a + 1) k
    rw [h a (by omega) (by omega), ih (a + 1) (fun i h1 h2 => h i (by omega) (by omega))]
theorem zr_congr {f g : Int → Int} {a b : Int} (h : ∀ i, a ≤ i → i < b → f i = g i) : zr f a b = zr g a b :=
  zs_congr _ _ (fun i h1 h2 => h i h1 (by omega))
theorem zs_bound {f : Int → Int} {l u : Int} : ∀ (k : Nat) (a : Int), (∀ i, a ≤ i → i < a + k → l ≤ f i ∧ f i ≤ u) → l * k ≤ zs f a k ∧ zs f a k ≤ u * k := by
  intro k
  induction k with
  | zero => intro a _; exact ⟨by simp [zs], by simp [zs]⟩
  | succ k ih =>
    intro a h
    have h1 := h a (by omega) (by omega)
    have h2 := ih (a + 1) (fun i h1 h2 => h i (by omega) (by omega))
    show l * ((k + 1 : Nat) : Int) ≤ f a + zs f (a + 1) k ∧ f a + zs f (a + 1) k ≤ u * ((k + 1 : Nat) : Int)
    rw [show ((k + 1 : Nat) : Int) = (k : Int) + 1 by omega, Int.mul_add, Int.mul_add]
    omega
theorem zr_bound {f : Int → Int} {a b l u : Int} (hab : a ≤ b) (h : ∀ i, a ≤ i → i < b → l ≤ f i ∧ f i ≤ u) : l * (b - a) ≤ zr f a b ∧ zr f a b ≤ u * (b - a) := by
  have h0 : ((b - a).toNat : Int) = b - a := by omega
  have := zs_bound (f := f) (l := l) (u := u) (b - a).toNat a (fun i h1 h2 => h i h1 (by omega))
  rw [h0] at this
  exact this
theorem zr_nonneg {f : Int → Int} {a b : Int} (h : ∀ i, a ≤ i → i < b → 0 ≤ f i) : 0 ≤ zr f a b := by
  by_cases hab : a ≤ b
  · have : ∀ (k : Nat) (a : Int), (∀ i, a ≤ i → i < a + k → 0 ≤ f i) → 0 ≤ zs f a k := by
      intro k
      induction k with
      | zero => intro a _; simp [zs]
      | succ k ih =>
        intro a h
        have h1 := h a (by omega) (by omega)
        have h2 := ih (a + 1) (fun i h1 h2 => h i (by omega) (by omega))
        show 0 ≤ f a + zs f (a + 1) k
        omega
    exact this _ _ (fun i h1 h2 => h i h1 (by omega))
  · rw [zr_nil (by omega)]; omega
theorem zr_split {f : Int → Int} {a b c : Int} (h1 : a ≤ b) (h2 : b ≤ c) : zr f a c = zr f a b + zr f b c := by
  have : ∀ (k : Nat) (a b : Int), a ≤ b → b ≤ c → (b - a).toNat = k → zr f a c = zr f a b + zr f b c := by
    intro k
    induction k with
    | zero => intro a b h1 h2 h3; rw [show a = b by omega, zr_nil (f := f) (a := b) (b := b) (by omega)]; omega
    | succ k ih =>
      intro a b h1 h2 h3
      rw [zr_cons (f := f) (a := a) (b := c) (by omega), zr_cons (f := f) (a := a) (b := b) (by omega), ih (a + 1) b (by omega) h2 (by omega)]; omega
  exact this _ a b h1 h2 rfl
theorem zr_add {f g : Int → Int} {a b : Int} : zr (fun i => f i + g i) a b = zr f a b + zr g a b := by
  have : ∀ (k : Nat) (a : Int), zs (fun i => f i + g i) a k = zs f a k + zs g a k := by
    intro k
    induction k with
    | zero => intro a; rfl
    | succ k ih => intro a; show f a + g a + _ = f a + _ + (g a + _); rw [ih]; omega
  exact this _ _
/-! one summand changed -/
theorem zr_upd {f : Int → Int} {a b j x : Int} (h1 : a ≤ j) (h2 : j < b) : zr (updZ f j x) a b = zr f a b - f j + x := by
  rw [zr_split (f := updZ f j x) (a := a) (b := j) (c := b) h1 (by omega), zr_split (f := f) (a := a) (b := j) (c := b) h1 (by omega),
    zr_cons (f := updZ f j x) (a := j) (by omega), zr_cons (f := f) (a := j) (by omega), updZ_at,
    zr_congr (f := updZ f j x) (g := f) (a := a) (b := j) (fun i _ h => updZ_ne (by omega)),
    zr_congr (f := updZ f j x) (g := f) (a := j + 1) (b := b) (fun i h _ => updZ_ne (by omega))]
  omega
theorem zr_mono {f g : Int → Int} {a b : Int} (h : ∀ i, a ≤ i → i < b → f i ≤ g i) : zr f a b ≤ zr g a b := by
  have : ∀ (k : Nat) (a : Int), (∀ i, a ≤ i → i < a + k → f i ≤ g i) → zs f a k ≤ zs g a k := by
    intro k
    induction k with
    | zero => intro a _; exact Int.le_refl _
    | succ k ih =>
      intro a h
      have h1 := h a (by omega) (by omega)
      have h2 := ih (a + 1) (fun i h1 h2 => h i (by omega) (by omega))
      show f a + zs f (a + 1) k ≤ g a + zs g (a + 1) k
      omega
  exact this _ _ (fun i h1 h2 => h i h1 (by omega))
theorem zr_0 {f : Int → Int} {a b : Int} (h : ∀ i, a ≤ i → i < b → f i = 0) : zr f a b = 0 := by
  have : ∀ (k : Nat) (a : Int), (∀ i, a ≤ i → i < a + k → f i = 0) → zs f a k = 0 := by
    intro k
    induction k with
    | zero => intro a _; rfl
    | succ k ih =>
      intro a h
      show f a + zs f (a + 1) k = 0
      rw [h a (by omega) (by omega), ih (a + 1) (fun i h1 h2 => h i (by omega) (by omega))]; omega
  exact this _ _ (fun i h1 h2 => h i h1 (by omega))
