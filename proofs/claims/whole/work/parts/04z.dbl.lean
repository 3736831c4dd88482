/-! Doubles stay as they are: alike means the same. -/
section LDB
variable {γ δ : Type} {P : γ → Prop} {r : δ}
def LD (X x : UInt64) : Prop := X = x
theorem LD_i2d {X : Int32} {x : Int} (h : LI X x) : LD (FP.i2d X) (FP.i2d (Int32.ofInt x)) := congrArg FP.i2d (EI_i h)
theorem LD_dadd {A B a b : UInt64} (ha : LD A a) (hb : LD B b) : LD (FP.dadd A B) (FP.dadd a b) := congr (congrArg FP.dadd ha) hb
theorem LD_dsub {A B a b : UInt64} (ha : LD A a) (hb : LD B b) : LD (FP.dsub A B) (FP.dsub a b) := congr (congrArg FP.dsub ha) hb
theorem LD_dmul {A B a b : UInt64} (ha : LD A a) (hb : LD B b) : LD (FP.dmul A B) (FP.dmul a b) := congr (congrArg FP.dmul ha) hb
theorem LI_dcL {A B a b : UInt64} (ha : LD A a) (hb : LD B b) : LI (dcL A B) ((dcL a b).toInt) := congrArg Int32.toInt (congr (congrArg dcL ha) hb)
theorem LI_dcG {A B a b : UInt64} (ha : LD A a) (hb : LD B b) : LI (dcG A B) ((dcG a b).toInt) := congrArg Int32.toInt (congr (congrArg dcG ha) hb)
theorem lDN {E e : UInt64} {K : UInt64 → Option γ} {k : UInt64 → Option δ} (hE : LD E e) (hg : oN e k = some r) (H : ∀ Z z, LD Z z → k z = some r → ∃ R, K Z = some R ∧ P R) : ∃ R, oN E K = some R ∧ P R := by
  obtain ⟨z, ez, hn, hk⟩ := oN_elim hg
  have hE : E = e := hE
  rw [hE, oN_ok hn]
  exact H e e rfl (by rw [← ez]; exact hk)
end LDB
