/-! What every walk of a method uses: the machine's facts in one, the world in one, rows over them. -/
section ZL
variable {p : Program} {l : Launch} {e : Env} {R : Room} {s : State} {m : MethodId} {args : Array Value} {below : List Frame} {meth : Method} {c : Code} {H : Heap} {locs : List Loc} {cells slots : Nat} {Q : State → Prop}
variable {pc : Nat} {ls : Array Slot} {rest st0 : List Value} {D : va_G} {tys : List (ClassId × FieldType)} {A : Nat → Prop} {ws ws' : va_W} {cc : ByteArray} {nL : Nat} {Ts : List Cond} {own : String} {a : Nat} {lvs : List (Nat × Value)}
/-- the machine's facts of a walk -/
def zE (p : Program) (s : State) (m : MethodId) (args : Array Value) (meth : Method) (c : Code) (cc : ByteArray) (nL : Nat) (ret : Option FieldType) (Ts : List Cond) (own : String) : Prop :=
  CallFix p m c cc nL s args Ts own ∧ meth.sig.returnType = ret ∧ meth.locks = false
/-- the world of a walk: the cells ws in H, what was touched since the entry lies in A -/
def zW (D : va_G) (tys : List (ClassId × FieldType)) (A : Nat → Prop) (s : State) (ws : va_W) (H : Heap) (locs : List Loc) : Prop :=
  va_K D vwCl tys s ∧ va_P D vwCl ws H ∧ va_D A ws ∧ va_S A s.heap H locs ∧ ∀ q : Nat, s.heap.size ≤ q → A q
abbrev zT (cI cZ cM : ClassId) : List (ClassId × FieldType) := [(cI, .int), (cZ, .boolean), (cM, .object "StreetMarket$Market")]
theorem z_lt {a b : Nat} (h : Nat.ble (a + 1) b = true) : a < b := Nat.le_of_ble_eq_true h
theorem z_top {x y : Int32} (h : y = x) (k : W p l e R s m args below meth c H locs cells slots Q (F0 m pc ls (.int y :: rest))) : W p l e R s m args below meth c H locs cells slots Q (F0 m pc ls (.int x :: rest)) := by subst h; exact k
theorem z_topl {x y : Int64} (h : y = x) (k : W p l e R s m args below meth c H locs cells slots Q (F0 m pc ls (.long y :: rest))) : W p l e R s m args below meth c H locs cells slots Q (F0 m pc ls (.long x :: rest)) := by subst h; exact k
theorem z_nar {v : Int32} (h : vp_nar .boolean v = v) : narrow .boolean (.int v) = .int v := by
  have h1 : narrow .boolean (.int v) = .int (vp_nar .boolean v) := rfl
  rw [h1, h]
/-- a contract's start: these cells -/
def zPc (D : va_G) (tys : List (ClassId × FieldType)) (av : List Value) (ws : va_W) (sz : Nat) : Array Value → State → Prop :=
  va_Pc av (fun U => U.heap.size = sz ∧ va_P D vwCl ws U.heap ∧ va_K D vwCl tys U ∧ va_D (fun _ => True) ws)
/-- a contract's end: the answer r, these cells -/
def zQi (D : va_G) (tys : List (ClassId × FieldType)) (r : Int32) (ws : va_W) (A : Nat → Prop) : Array Value → State → Outcome → State → Prop :=
  va_Qi (S := Unit) (fun r' _ => r' = r) (fun _ t => va_P D vwCl ws t.heap ∧ va_K D vwCl tys t ∧ va_D A ws) A
def zQv (D : va_G) (tys : List (ClassId × FieldType)) (ws : va_W) (A : Nat → Prop) : Array Value → State → Outcome → State → Prop :=
  va_Qv (S := Unit) (fun _ => True) (fun _ t => va_P D vwCl ws t.heap ∧ va_K D vwCl tys t ∧ va_D A ws) A
theorem zPc_blind {av : List Value} {sz : Nat} : FrameBlind (zPc D tys av ws sz) := fun a U g mk q => by
  obtain ⟨q0, q1, qP, qK, qD⟩ := q
  exact ⟨q0, q1, qP, va_K.moved (u := U) (U := U.calling g mk a) (Vm.Alike.refl U.vm) qK, qD⟩
/-- a method's contract out of the walk of its body -/
theorem z_met {y : MethodName} {wsY ws1 : List Cond} {rm : Room} {av : List Value} {W0 : va_W} {sz : Nat} {Qc : Array Value → State → Outcome → State → Prop} {mc ms maxL : Nat} {ret : Option FieldType} (hy : plainName y.cls = true) (hw : wsY = Cond.code y cc maxL ret :: ws1) (hle : (lg_sl av).length ≤ maxL)
    (body : ∀ (p : Program) (e : Env) (s : State) (m : MethodId) (below : List Frame) (meth : Method) (c : Code) (ls : Array Slot), zE p s m av.toArray meth c cc maxL ret wsY y.cls → s.heap.size = sz → zW D tys (va_A W0 sz) s W0 s.heap [] → lv_has ls maxL (lv_args 0 av) →
      W p l e rm s m av.toArray below meth c s.heap [] 0 0 (MQ below Qc av.toArray s mc ms (va_A W0 sz)) (F0 m 0 ls [])) : Met l y wsY rm (zPc D tys av W0 sz) Qc mc ms (va_A W0 sz) := by
  refine Met.ofW (cc := cc) (maxL := maxL) (ret := ret) hy hw ?_
  intro p e s m args below meth c s₁ B hml hv
  obtain ⟨rfl, hsz, hP, hK, hD0⟩ := hv
  have hl := lv_entry av (n := maxL) hle
  rw [lg_entry_eq]
  refine body p e s m below meth c _ ⟨⟨B.exec, B.bytes, hml, findClass_of_methodNamed B.named, atoms_spec (ws := wsY) B.pre⟩, B.returns, B.notSynchronized⟩ hsz ⟨hK, hP, hD0.self, va_S.rf, fun q h => Or.inr (by rw [← hsz]; exact h)⟩ hl
theorem z_get (E : CallFix p m c cc nL s args Ts own) (hw : zW D tys A s ws H locs) {C : String} {T : u_T} {N ci index : Nat} (hin : ∀ w ∈ u_ws C T N, w ∈ Ts) (q0 : Nat) {fs : List Value} (he : ws[q0]? = some (a, .inr (ci, fs))) (hc : vwCl[ci]? = some (C, T, N)) (k : Nat) (hk : k < N) (hlink : Cond.fieldLink own index (T k).1 (T k).2.1 (T k).2.2.1 ∈ Ts) {v : Value} (hv : fs[k]? = some v) (hdg : decode cc pc = .ok (.getfield index, 3))
    (kk : W p l e R s m args below meth c H locs cells slots Q (F0 m (pc + 3) ls (v :: rest))) : W p l e R s m args below meth c H locs cells slots Q (F0 m pc ls (.ref a :: rest)) :=
  va_get E.1 E.2.1 E.2.2.2.2 hin E.2.2.2.1 hw.1 hw.2.1 q0 he hc k hk (E.2.2.2.2 _ hlink) (fun _ h9 => h9) hv hdg kk
theorem z_put (E : CallFix p m c cc nL s args Ts own) (hw : zW D tys A s ws H locs) {C : String} {T : u_T} {N ci index : Nat} (hin : ∀ w ∈ u_ws C T N, w ∈ Ts) (ty0 : Nat → FieldType) (hty : ∀ k, k < N → parseFieldDescriptor (T k).2.2.1 = some (ty0 k)) (hnm : ∀ a, a < N → ∀ b, b < N → a ≠ b → (T a).2.1 ≠ (T b).2.1) (q0 : Nat) {fs : List Value} (he : ws[q0]? = some (a, .inr (ci, fs))) (hc : vwCl[ci]? = some (C, T, N)) (k : Nat) (hk : k < N) (hlink : Cond.fieldLink own index (T k).1 (T k).2.1 (T k).2.2.1 ∈ Ts) (hfin : (T k).2.2.2 = false) {v : Value} (hn : narrow (ty0 k) v = v) (hfit : fits (ty0 k) v = true) (hl : k < fs.length) (hs : ws.set q0 (a, .inr (ci, fs.set k v)) = ws')
    (hdg : decode cc pc = .ok (.putfield index, 3)) (kk : ∀ (H : Heap) (locs : List Loc), zW D tys A s ws' H locs → W p l e R s m args below meth c H locs cells slots Q (F0 m (pc + 3) ls rest)) : W p l e R s m args below meth c H locs cells slots Q (F0 m pc ls (v :: .ref a :: rest)) := by
  obtain ⟨hK, hP, hD, hS, hA⟩ := hw
  subst hs
  exact va_put E.1 E.2.1 E.2.2.2.2 hin ty0 hty hnm E.2.2.2.1 hK hP hD hS q0 he hc k hk (E.2.2.2.2 _ hlink) (fun _ h9 => h9) hfin (hty k hk) hn hfit hl hdg (fun H1 l1 h1 h2 h3 => kk H1 l1 ⟨hK, h1, h2, h3, hA⟩)
theorem z_iald (E : CallFix p m c cc nL s args Ts own) (hw : zW D tys A s ws H locs) (q0 t0 : Nat) {cA : ClassId} {n : Nat} {f : Nat → Int32} (ha : ws[q0]? = some (a, .inl (cA, n, .inl f))) (ht : tys[t0]? = some (cA, .int)) {i : Int32} (hin : ¬ (i < 0 ∨ n ≤ i.toNatClampNeg)) (hdg : decode cc pc = .ok (.iaload, 1))
    (kk : W p l e R s m args below meth c H locs cells slots Q (F0 m (pc + 1) ls (.int (f i.toNatClampNeg) :: rest))) : W p l e R s m args below meth c H locs cells slots Q (F0 m pc ls (.int i :: .ref a :: rest)) := va_iald E.1 E.2.1 hw.1 hw.2.1 q0 t0 ha ht hin hdg kk
theorem z_zald (E : CallFix p m c cc nL s args Ts own) (hw : zW D tys A s ws H locs) (q0 t0 : Nat) {cA : ClassId} {n : Nat} {f : Nat → Int32} (ha : ws[q0]? = some (a, .inl (cA, n, .inl f))) (ht : tys[t0]? = some (cA, .boolean)) {i : Int32} (hin : ¬ (i < 0 ∨ n ≤ i.toNatClampNeg)) (hdg : decode cc pc = .ok (.baload, 1))
    (kk : W p l e R s m args below meth c H locs cells slots Q (F0 m (pc + 1) ls (.int (f i.toNatClampNeg) :: rest))) : W p l e R s m args below meth c H locs cells slots Q (F0 m pc ls (.int i :: .ref a :: rest)) := va_zald E.1 E.2.1 hw.1 hw.2.1 q0 t0 ha ht hin hdg kk
theorem z_iast (E : CallFix p m c cc nL s args Ts own) (hw : zW D tys A s ws H locs) (q0 t0 : Nat) {cA : ClassId} {n : Nat} {f : Nat → Int32} (ha : ws[q0]? = some (a, .inl (cA, n, .inl f))) (ht : tys[t0]? = some (cA, .int)) {i x : Int32} (hin : ¬ (i < 0 ∨ n ≤ i.toNatClampNeg)) (hs : ws.set q0 (a, .inl (cA, n, .inl (upd f i.toNatClampNeg x))) = ws') (hdg : decode cc pc = .ok (.iastore, 1))
    (kk : ∀ (H : Heap) (locs : List Loc), zW D tys A s ws' H locs → W p l e R s m args below meth c H locs cells slots Q (F0 m (pc + 1) ls rest)) : W p l e R s m args below meth c H locs cells slots Q (F0 m pc ls (.int x :: .int i :: .ref a :: rest)) := by
  obtain ⟨hK, hP, hD, hS, hA⟩ := hw
  subst hs
  exact va_iast E.1 E.2.1 hK hP hD hS q0 t0 ha ht hin hdg (fun H1 l1 h1 h2 h3 => kk H1 l1 ⟨hK, h1, h2, h3, hA⟩)
theorem z_zast (E : CallFix p m c cc nL s args Ts own) (hw : zW D tys A s ws H locs) (q0 t0 : Nat) {cA : ClassId} {n : Nat} {f : Nat → Int32} (ha : ws[q0]? = some (a, .inl (cA, n, .inl f))) (ht : tys[t0]? = some (cA, .boolean)) {i x : Int32} (hin : ¬ (i < 0 ∨ n ≤ i.toNatClampNeg)) (hs : ws.set q0 (a, .inl (cA, n, .inl (upd f i.toNatClampNeg (vp_nar .boolean x)))) = ws') (hdg : decode cc pc = .ok (.bastore, 1))
    (kk : ∀ (H : Heap) (locs : List Loc), zW D tys A s ws' H locs → W p l e R s m args below meth c H locs cells slots Q (F0 m (pc + 1) ls rest)) : W p l e R s m args below meth c H locs cells slots Q (F0 m pc ls (.int x :: .int i :: .ref a :: rest)) := by
  obtain ⟨hK, hP, hD, hS, hA⟩ := hw
  subst hs
  exact va_zast E.1 E.2.1 hK hP hD hS q0 t0 ha ht hin hdg (fun H1 l1 h1 h2 h3 => kk H1 l1 ⟨hK, h1, h2, h3, hA⟩)
def zk (a0 a1 a2 a3 a4 a5 : Nat) : Nat → Option Nat
  | 0 => some a0
  | 1 => some a1
  | 2 => some a2
  | 3 => some a3
  | 4 => some a4
  | 5 => some a5
  | _ => none
theorem z_aald (E : CallFix p m c cc nL s args Ts own) (hw : zW D tys A s ws H locs) (q0 t0 : Nat) {cA : ClassId} {n j b : Nat} {C : String} {f : Nat → Option Nat} (ha : ws[q0]? = some (a, .inl (cA, n, .inr (.inr (.inr (.inr f)))))) (ht : tys[t0]? = some (cA, .object C)) {i : Int32} (hi : i.toNatClampNeg = j) (h0 : ¬ i < 0) (hj : j < n) (hf : f j = some b) (hdg : decode cc pc = .ok (.aaload, 1))
    (kk : W p l e R s m args below meth c H locs cells slots Q (F0 m (pc + 1) ls (.ref b :: rest))) : W p l e R s m args below meth c H locs cells slots Q (F0 m pc ls (.int i :: .ref a :: rest)) := by
  refine va_aldq E.1 E.2.1 hw.1 hw.2.1 q0 t0 ha ht (i := i) (fun h => h.elim h0 (fun h => absurd hj (Nat.not_lt.mpr (hi ▸ h)))) hdg ?_
  rw [hi, hf]
  exact kk
theorem z_alen (E : CallFix p m c cc nL s args Ts own) (hw : zW D tys A s ws H locs) (q0 t0 : Nat) {cA : ClassId} {x : vp_A} (ha : ws[q0]? = some (a, .inl (cA, x))) {ty : FieldType} (ht : tys[t0]? = some (cA, ty)) {v : Int32} (hv : Int32.ofNat x.1 = v) (hdg : decode cc pc = .ok (.arraylength, 1))
    (kk : W p l e R s m args below meth c H locs cells slots Q (F0 m (pc + 1) ls (.int v :: rest))) : W p l e R s m args below meth c H locs cells slots Q (F0 m pc ls (.ref a :: rest)) := va_alen E.1 E.2.1 hw.1 hw.2.1 q0 t0 ha ht hv hdg kk
theorem z_copyi (E : CallFix p m c cc nL s args Ts own) (hl : lv_has ls nL lvs) (hw : zW D tys A s ws H locs) {index : Nat} (hlink : Cond.methodLink own index arraycopyName ∈ Ts) (hnat : Cond.native arraycopyName ∈ Ts) (hstat : Cond.static arraycopyName ∈ Ts) (hini : Cond.initialized "java/lang/System" ∈ Ts)
    (q0 q1 t0 : Nat) {a0 : Nat} {cA : ClassId} {n0 n1 : Nat} {f g : Nat → Int32} (ha0 : ws[q0]? = some (a0, .inl (cA, n0, .inl f))) (ha1 : ws[q1]? = some (a, .inl (cA, n1, .inl g))) (ht0 : tys[t0]? = some (cA, .int))
    {sp dp n : Int32} (h1 : ¬ sp < 0) (h2 : ¬ dp < 0) (h3 : ¬ n < 0) (h4 : sp.toNatClampNeg + n.toNatClampNeg ≤ n0) (h5 : dp.toNatClampNeg + n.toNatClampNeg ≤ n1)
    (hframes : 1 ≤ R.frames) (hlocals : (rest.map fun v => v.category).sum + (nativeFrameWords "java/lang/System" "arraycopy" 5 + 11) ≤ R.locals) (hs : ws.set q1 (a, .inl (cA, n1, .inl (va_cpy f g sp.toNatClampNeg dp.toNatClampNeg n.toNatClampNeg))) = ws') (hdg : decode cc pc = .ok (.invokestatic index, 3))
    (kk : ∀ (H : Heap) (locs : List Loc), zW D tys A s ws' H locs → W p l e R s m args below meth c H locs cells slots Q (F0 m (pc + 3) ls rest)) : W p l e R s m args below meth c H locs cells slots Q (F0 m pc ls (.int n :: .int dp :: .ref a :: .int sp :: .ref a0 :: rest)) := by
  obtain ⟨hK, hP, hD, hS, hA⟩ := hw
  obtain ⟨hx, hb, hml, hown, hts⟩ := E
  subst hs
  exact va_copyi hx hb (hml.trans hl.1.symm) hown (hts _ hlink) (hts _ hnat) (hts _ hstat) (hts _ hini) hK hP hD hS q0 q1 t0 t0 ha0 ha1 ht0 ht0 rfl h1 h2 h3 h4 h5 (fun i _ => rfl) hframes hlocals hdg (fun H1 l1 w1 w2 w3 => kk H1 l1 ⟨hK, w1, w2, w3, hA⟩)
theorem z_mmin (E : CallFix p m c cc nL s args Ts own) (hl : lv_has ls nL lvs) {index : Nat} (hlink : Cond.methodLink own index Lib.Math.min.name ∈ Ts) (hstat : Cond.static Lib.Math.min.name ∈ Ts) (hini : Cond.initialized "java/lang/Math" ∈ Ts) (hcode : Cond.code Lib.Math.min.name Lib.Math.min.code 2 (some .int) ∈ Ts)
    (hframes : 1 ≤ R.frames) (hlocals : (rest.map fun v => v.category).sum + 13 ≤ R.locals) (hc : cells ≤ R.cells) (hs : slots ≤ R.slots) {x y : Int32} (hdg : decode cc pc = .ok (.invokestatic index, 3))
    (kk : W p l e R s m args below meth c H locs cells slots Q (F0 m (pc + 3) ls (.int (oMin x y) :: rest))) : W p l e R s m args below meth c H locs cells slots Q (F0 m pc ls (.int y :: .int x :: rest)) :=
  va_mmin E.1 E.2.1 (E.2.2.1.trans hl.1.symm) E.2.2.2.1 (E.2.2.2.2 _ hlink) (E.2.2.2.2 _ hstat) (E.2.2.2.2 _ hini) (E.2.2.2.2 _ hcode) hframes hlocals hc hs hdg kk
theorem z_mmax (E : CallFix p m c cc nL s args Ts own) (hl : lv_has ls nL lvs) {index : Nat} (hlink : Cond.methodLink own index Lib.Math.max.name ∈ Ts) (hstat : Cond.static Lib.Math.max.name ∈ Ts) (hini : Cond.initialized "java/lang/Math" ∈ Ts) (hcode : Cond.code Lib.Math.max.name Lib.Math.max.code 2 (some .int) ∈ Ts)
    (hframes : 1 ≤ R.frames) (hlocals : (rest.map fun v => v.category).sum + 13 ≤ R.locals) (hc : cells ≤ R.cells) (hs : slots ≤ R.slots) {x y : Int32} (hdg : decode cc pc = .ok (.invokestatic index, 3))
    (kk : W p l e R s m args below meth c H locs cells slots Q (F0 m (pc + 3) ls (.int (oMax x y) :: rest))) : W p l e R s m args below meth c H locs cells slots Q (F0 m pc ls (.int y :: .int x :: rest)) :=
  va_mmax E.1 E.2.1 (E.2.2.1.trans hl.1.symm) E.2.2.2.1 (E.2.2.2.2 _ hlink) (E.2.2.2.2 _ hstat) (E.2.2.2.2 _ hini) (E.2.2.2.2 _ hcode) hframes hlocals hc hs hdg kk
theorem z_iret {ret : Option FieldType} {v : Int32} (E : zE p s m args meth c cc nL ret Ts own) (hret : ret = some .int) (hw : zW D tys A s ws H locs) (hdg : decode cc pc = .ok (.ireturn, 1)) : W p l e R s m args below meth c H locs cells slots (MQ below (zQi D tys v ws A) args s cells slots A) (F0 m pc ls [.int v]) := by
  obtain ⟨hK, hP, hD, hS, hA⟩ := hw
  obtain ⟨⟨hx, hb, -, -, -⟩, hr, hlocks⟩ := E
  exact W.iret hx hb (hr.trans hret) (fun t ht hW => ⟨⟨v, (), rfl, rfl, by rw [ht]; exact hP, va_K.moved hW.alike hK, hD⟩, hS.F ht⟩) hS.2.2 hdg hlocks
theorem z_zret {ret : Option FieldType} {v : Int32} (E : zE p s m args meth c cc nL ret Ts own) (hret : ret = some .boolean) (hn : narrow .boolean (.int v) = .int v) (hw : zW D tys A s ws H locs) (hdg : decode cc pc = .ok (.ireturn, 1)) : W p l e R s m args below meth c H locs cells slots (MQ below (zQi D tys v ws A) args s cells slots A) (F0 m pc ls [.int v]) := by
  obtain ⟨hK, hP, hD, hS, hA⟩ := hw
  obtain ⟨⟨hx, hb, -, -, -⟩, hr, hlocks⟩ := E
  exact W.zret hx hb (hr.trans hret) hn (fun t ht hW => ⟨⟨v, (), rfl, rfl, by rw [ht]; exact hP, va_K.moved hW.alike hK, hD⟩, hS.F ht⟩) hS.2.2 hdg hlocks
theorem z_vret {ret : Option FieldType} (E : zE p s m args meth c cc nL ret Ts own) (hret : ret = none) (hw : zW D tys A s ws H locs) (hdg : decode cc pc = .ok (.return_, 1)) : W p l e R s m args below meth c H locs cells slots (MQ below (zQv D tys ws A) args s cells slots A) (F0 m pc ls []) := by
  obtain ⟨hK, hP, hD, hS, hA⟩ := hw
  obtain ⟨⟨hx, hb, -, -, -⟩, hr, hlocks⟩ := E
  exact W.vret hx hb (hr.trans hret) (fun t ht hW => ⟨⟨(), rfl, trivial, by rw [ht]; exact hP, va_K.moved hW.alike hK, hD⟩, hS.F ht⟩) hS.2.2 hdg hlocks
def z_memb (k : Nat) : List Nat → Bool
  | [] => false
  | x :: xs => Nat.beq k x || z_memb k xs
def z_covs (a b : List Nat) : Nat → Bool
  | 0 => true
  | n + 1 => (z_memb n a || z_memb n b) && z_covs a b n
theorem z_memb_mem {k : Nat} : ∀ {l : List Nat}, z_memb k l = true → k ∈ l
  | [], h => by cases h
  | x :: xs, h => by
    rcases (Bool.or_eq_true _ _).mp h with h | h
    · rw [Nat.eq_of_beq_eq_true h]; exact List.mem_cons_self
    · exact List.mem_cons_of_mem _ (z_memb_mem h)
theorem z_covs_mem {a b : List Nat} : ∀ {n : Nat}, z_covs a b n = true → ∀ k, k < n → k ∈ a ∨ k ∈ b
  | 0, _, k, hk => absurd hk (Nat.not_lt_zero k)
  | n + 1, h, k, hk => by
    obtain ⟨h1, h2⟩ := (Bool.and_eq_true _ _).mp h
    by_cases e : k = n
    · rw [e]
      rcases (Bool.or_eq_true _ _).mp h1 with h | h
      · exact Or.inl (z_memb_mem h)
      · exact Or.inr (z_memb_mem h)
    · exact z_covs_mem h2 k (by omega)
theorem z_at {wc : va_W} {isC : List Nat} (hC : isC.map (fun i => ws[i]?) = wc.map some) {k : Nat} {q : Nat × va_E} (hk : wc[k]? = some q) : ∃ i : Nat, isC[k]? = some i ∧ ws[i]? = some q := by
  have h1 : (isC.map (fun i => ws[i]?))[k]? = some (some q) := by rw [hC, List.getElem?_map, hk]; rfl
  rw [List.getElem?_map] at h1
  cases hi : isC[k]? with
  | none => rw [hi] at h1; cases h1
  | some i =>
    rw [hi] at h1
    exact ⟨i, rfl, Option.some.inj h1⟩
theorem z_cut {wc : va_W} (hP : va_P D vwCl ws H) (isC : List Nat) (hC : isC.map (fun i => ws[i]?) = wc.map some) : va_P D vwCl wc H := by
  intro k q hk
  obtain ⟨i, -, h2⟩ := z_at hC hk
  exact hP i q h2
/-- behind a call: the world with what came back, at the same places -/
theorem z_after {wc w1 wr : va_W} {H1 : Heap} {locs1 : List Loc} {t : State} (hw : zW D tys A s ws H locs) (isC isR : List Nat) (hC : isC.map (fun i => ws[i]?) = wc.map some) (hC1 : isC.map (fun i => ws'[i]?) = w1.map some) (hR : isR.map (fun i => ws[i]?) = wr.map some) (hR1 : isR.map (fun i => ws'[i]?) = wr.map some) (hall : z_covs isC isR ws'.length = true)
    (ht : t.heap = H1) (hB : va_P D vwCl w1 t.heap ∧ va_K D vwCl tys t ∧ va_D (va_A wc H.size) w1) (hk : ∀ q : Nat, q < H.size → ¬ va_A wc H.size q → H1[q]? = H[q]?) (hS1 : va_S A s.heap H1 locs1) : zW D tys A s ws' H1 locs1 := by
  obtain ⟨hK, hP, hD, hS, hA⟩ := hw
  obtain ⟨hP1, hK1, hD1⟩ := hB
  rw [ht] at hP1
  have hin : ∀ (k : Nat) (q : Nat × va_E), ws'[k]? = some q → (∃ j : Nat, isC[j]? = some k ∧ w1[j]? = some q) ∨ (ws[k]? = some q ∧ ¬ va_A wc H.size q.1) := by
    intro k q hq
    by_cases hc : k ∈ isC
    · obtain ⟨j, hj⟩ := List.getElem?_of_mem hc
      have h1 : (isC.map (fun i => ws'[i]?))[j]? = some (some q) := by rw [List.getElem?_map, hj]; exact congrArg some hq
      rw [hC1, List.getElem?_map] at h1
      cases hz : w1[j]? with
      | none => rw [hz] at h1; cases h1
      | some x =>
        rw [hz] at h1
        have h2 : x = q := Option.some.inj (Option.some.inj h1)
        rw [h2] at hz
        exact Or.inl ⟨j, hj, hz⟩
    · have hkl : k < ws'.length := (List.getElem?_eq_some_iff.mp hq).1
      have hr : k ∈ isR := (z_covs_mem hall k hkl).resolve_left hc
      obtain ⟨j, hj⟩ := List.getElem?_of_mem hr
      have h1 : (isR.map (fun i => ws'[i]?))[j]? = some (some q) := by rw [List.getElem?_map, hj]; exact congrArg some hq
      rw [hR1, ← hR, List.getElem?_map, hj] at h1
      have h2 : ws[k]? = some q := Option.some.inj h1
      refine Or.inr ⟨h2, ?_⟩
      rintro (⟨j2, e2, h3⟩ | h3)
      · obtain ⟨i, h4, h5⟩ := z_at hC h3
        have h6 : i = k := hD.1 i k _ _ h5 h2 rfl
        exact hc (h6 ▸ List.mem_of_getElem? h4)
      · exact absurd ((hP k q h2).lt) (Nat.not_lt.mpr h3)
  refine ⟨hK, fun k q hq => ?_, ⟨fun i j x y hx hy hxy => ?_, fun k q hq => ?_⟩, hS1, hA⟩
  · rcases hin k q hq with ⟨j, -, h1⟩ | ⟨h1, h2⟩
    · exact hP1 j q h1
    · exact (hP k q h1).kept (hk q.1 ((hP k q h1).lt) h2)
  · rcases hin i x hx with ⟨i1, h1, h2⟩ | ⟨h1, h2⟩
    · rcases hin j y hy with ⟨j1, h3, h4⟩ | ⟨h3, h4⟩
      · have h5 := hD1.1 i1 j1 x y h2 h4 hxy
        rw [h5] at h1
        exact Option.some.inj (h1.symm.trans h3)
      · exact absurd (hxy ▸ hD1.2 i1 x h2) h4
    · rcases hin j y hy with ⟨j1, h3, h4⟩ | ⟨h3, h4⟩
      · exact absurd (hxy.symm ▸ hD1.2 j1 y h4) h2
      · exact hD.1 i j x y h1 h3 hxy
  · rcases hin k q hq with ⟨j, -, h1⟩ | ⟨h1, h2⟩
    · exact va_free hD hS hA isC hC q.1 (hD1.2 j q h1)
    · exact hD.2 k q h1
/-- places of a list, by ranges -/
def z_rng (ws : va_W) : List (Nat × Nat) → va_W
  | [] => []
  | (a, n) :: rs => (ws.drop a).take n ++ z_rng ws rs
def z_idx : List (Nat × Nat) → List Nat
  | [] => []
  | (a, n) :: rs => List.range' a n ++ z_idx rs
def z_bnd (N : Nat) : List (Nat × Nat) → Bool
  | [] => true
  | (a, n) :: rs => Nat.ble (a + n) N && z_bnd N rs
theorem z_rng_one (ws : va_W) : ∀ (n a : Nat), a + n ≤ ws.length → (List.range' a n).map (fun i => ws[i]?) = ((ws.drop a).take n).map some
  | 0, a, _ => rfl
  | n + 1, a, h => by
    have hlt : a < ws.length := by omega
    have h1 := z_rng_one ws n (a + 1) (by omega)
    rw [List.drop_eq_getElem_cons hlt, List.take_succ_cons, List.map_cons, ← h1]
    show ws[a]? :: _ = _
    rw [List.getElem?_eq_getElem hlt]
theorem z_rng_idx (ws : va_W) : ∀ (rs : List (Nat × Nat)), z_bnd ws.length rs = true → (z_idx rs).map (fun i => ws[i]?) = (z_rng ws rs).map some
  | [], _ => rfl
  | (a, n) :: rs, h => by
    obtain ⟨h1, h2⟩ := (Bool.and_eq_true _ _).mp h
    show (List.range' a n ++ z_idx rs).map _ = ((ws.drop a).take n ++ z_rng ws rs).map some
    rw [List.map_append, List.map_append, z_rng_one ws n a (Nat.le_of_ble_eq_true h1), z_rng_idx ws rs h2]
/-- the closed checks of a call's places: in bounds, none twice, all places named -/
def z_chk (N : Nat) (rsC rsR : List (Nat × Nat)) : Bool := z_bnd N rsC && (z_bnd N rsR && (va_nd (z_idx rsC) && z_covs (z_idx rsC) (z_idx rsR) N))
theorem z_callVi (E : CallFix p m c cc nL s args Ts own) (hl : lv_has ls nL lvs) (hw : zW D tys A s ws H locs) {y : MethodName} {wsY : List Cond} {rm : Room} {mc ms n index maxL : Nat} {As : List Value} {wc w1 wr : va_W} {bytes : ByteArray} {ret : Option FieldType} {b ci q0 : Nat} {C : String} {T : u_T} {N : Nat} {fs : List Value} {r0 : Int32}
    (hM : Met l y wsY rm (zPc D tys (.ref b :: As) wc H.size) (zQi D tys r0 w1 (va_A wc H.size)) mc ms (va_A wc H.size)) (cw : CallW R s args own C index y bytes maxL ret wsY rm mc ms n) (N9 : Nat) (rsC rsR : List (Nat × Nat)) (hN : ws.length = N9) (hN1 : ws'.length = N9) (hC : z_rng ws rsC = wc) (hC1 : z_rng ws' rsC = w1) (hR : z_rng ws rsR = wr) (hR1 : z_rng ws' rsR = wr) (hchk : z_chk N9 rsC rsR = true)
    (hci : vwCl[ci]? = some (C, T, N)) (hq : wc[q0]? = some (b, .inr (ci, fs))) (hAs : As.length = n) (hst : st0 = As.reverse ++ .ref b :: rest) (hcat : (rest.map fun v => v.category).sum ≤ 8) (hdg : decode cc pc = .ok (.invokevirtual index, 3)) (hroom : cells + mc ≤ R.cells ∧ slots + ms ≤ R.slots)
    (kk : ∀ (H : Heap) (locs : List Loc), zW D tys A s ws' H locs → W p l e R s m args below meth c H locs (cells + mc) (slots + ms) Q (F0 m (pc + 3) ls (.int r0 :: rest))) : W p l e R s m args below meth c H locs cells slots Q (F0 m pc ls st0) := by
  obtain ⟨hK, hP, hD, hS, hA⟩ := id hw
  obtain ⟨hb1, hchk⟩ := (Bool.and_eq_true _ _).mp hchk
  obtain ⟨hb2, hchk⟩ := (Bool.and_eq_true _ _).mp hchk
  obtain ⟨hnC, hall⟩ := (Bool.and_eq_true _ _).mp hchk
  have hC := (z_rng_idx ws rsC (by rw [hN]; exact hb1)).trans (by rw [hC])
  have hC1 := (z_rng_idx ws' rsC (by rw [hN1]; exact hb1)).trans (by rw [hC1])
  have hR := (z_rng_idx ws rsR (by rw [hN]; exact hb2)).trans (by rw [hR])
  have hR1 := (z_rng_idx ws' rsR (by rw [hN1]; exact hb2)).trans (by rw [hR1])
  rw [← hN1] at hall
  generalize z_idx rsC = isC at hC hC1 hnC hall
  generalize z_idx rsR = isR at hR hR1 hall
  have hPc := z_cut hP isC hC
  have hDc := hD.sub (ws' := wc) isC hnC hC
  have hFc := va_free hD hS hA isC hC
  refine va_calli (va_runV (As := As) (rest := rest) E hM cw ⟨zPc_blind, va_recv hK hPc hci hq, fun U hU hW => ⟨rfl, by rw [hU], by rw [hU]; exact hPc, va_K.moved hW.alike hK, hDc.weaken (fun _ _ _ _ => trivial)⟩⟩ rfl hAs hl.1 hst (lv_room hcat) hdg hroom) hS (fun q _ h => hFc q h) hFc (fun r u t H1 locs1 ht hvm hp hB hz1 hk1 hS1 => ?_)
  cases hp
  exact kk H1 locs1 (z_after hw isC isR hC hC1 hR hR1 hall ht hB hk1 hS1)
theorem z_callVv (E : CallFix p m c cc nL s args Ts own) (hl : lv_has ls nL lvs) (hw : zW D tys A s ws H locs) {y : MethodName} {wsY : List Cond} {rm : Room} {mc ms n index maxL : Nat} {As : List Value} {wc w1 wr : va_W} {bytes : ByteArray} {ret : Option FieldType} {b ci q0 : Nat} {C : String} {T : u_T} {N : Nat} {fs : List Value}
    (hM : Met l y wsY rm (zPc D tys (.ref b :: As) wc H.size) (zQv D tys w1 (va_A wc H.size)) mc ms (va_A wc H.size)) (cw : CallW R s args own C index y bytes maxL ret wsY rm mc ms n) (N9 : Nat) (rsC rsR : List (Nat × Nat)) (hN : ws.length = N9) (hN1 : ws'.length = N9) (hC : z_rng ws rsC = wc) (hC1 : z_rng ws' rsC = w1) (hR : z_rng ws rsR = wr) (hR1 : z_rng ws' rsR = wr) (hchk : z_chk N9 rsC rsR = true)
    (hci : vwCl[ci]? = some (C, T, N)) (hq : wc[q0]? = some (b, .inr (ci, fs))) (hAs : As.length = n) (hst : st0 = As.reverse ++ .ref b :: rest) (hcat : (rest.map fun v => v.category).sum ≤ 8) (hdg : decode cc pc = .ok (.invokevirtual index, 3)) (hroom : cells + mc ≤ R.cells ∧ slots + ms ≤ R.slots)
    (kk : ∀ (H : Heap) (locs : List Loc), zW D tys A s ws' H locs → W p l e R s m args below meth c H locs (cells + mc) (slots + ms) Q (F0 m (pc + 3) ls (rest))) : W p l e R s m args below meth c H locs cells slots Q (F0 m pc ls st0) := by
  obtain ⟨hK, hP, hD, hS, hA⟩ := id hw
  obtain ⟨hb1, hchk⟩ := (Bool.and_eq_true _ _).mp hchk
  obtain ⟨hb2, hchk⟩ := (Bool.and_eq_true _ _).mp hchk
  obtain ⟨hnC, hall⟩ := (Bool.and_eq_true _ _).mp hchk
  have hC := (z_rng_idx ws rsC (by rw [hN]; exact hb1)).trans (by rw [hC])
  have hC1 := (z_rng_idx ws' rsC (by rw [hN1]; exact hb1)).trans (by rw [hC1])
  have hR := (z_rng_idx ws rsR (by rw [hN]; exact hb2)).trans (by rw [hR])
  have hR1 := (z_rng_idx ws' rsR (by rw [hN1]; exact hb2)).trans (by rw [hR1])
  rw [← hN1] at hall
  generalize z_idx rsC = isC at hC hC1 hnC hall
  generalize z_idx rsR = isR at hR hR1 hall
  have hPc := z_cut hP isC hC
  have hDc := hD.sub (ws' := wc) isC hnC hC
  have hFc := va_free hD hS hA isC hC
  refine va_callv (va_runV (As := As) (rest := rest) E hM cw ⟨zPc_blind, va_recv hK hPc hci hq, fun U hU hW => ⟨rfl, by rw [hU], by rw [hU]; exact hPc, va_K.moved hW.alike hK, hDc.weaken (fun _ _ _ _ => trivial)⟩⟩ rfl hAs hl.1 hst (lv_room hcat) hdg hroom) hS (fun q _ h => hFc q h) hFc (fun u t H1 locs1 ht hvm hp hB hz1 hk1 hS1 => ?_)
  exact kk H1 locs1 (z_after hw isC isR hC hC1 hR hR1 hall ht hB hk1 hS1)
theorem z_callSi (E : CallFix p m c cc nL s args Ts own) (hl : lv_has ls nL lvs) (hw : zW D tys A s ws H locs) {y : MethodName} {wsY : List Cond} {rm : Room} {mc ms n index maxL : Nat} {As : List Value} {wc w1 wr : va_W} {bytes : ByteArray} {ret : Option FieldType} {r0 : Int32}
    (hM : Met l y wsY rm (zPc D tys As wc H.size) (zQi D tys r0 w1 (va_A wc H.size)) mc ms (va_A wc H.size)) (cw : CallB R s args own index y bytes maxL ret wsY rm mc ms n ∧ (Cond.static y).before args s = true) (N9 : Nat) (rsC rsR : List (Nat × Nat)) (hN : ws.length = N9) (hN1 : ws'.length = N9) (hC : z_rng ws rsC = wc) (hC1 : z_rng ws' rsC = w1) (hR : z_rng ws rsR = wr) (hR1 : z_rng ws' rsR = wr) (hchk : z_chk N9 rsC rsR = true)
    (hAs : As.length = n) (hst : st0 = As.reverse ++ rest) (hcat : (rest.map fun v => v.category).sum ≤ 8) (hdg : decode cc pc = .ok (.invokestatic index, 3)) (hroom : cells + mc ≤ R.cells ∧ slots + ms ≤ R.slots)
    (kk : ∀ (H : Heap) (locs : List Loc), zW D tys A s ws' H locs → W p l e R s m args below meth c H locs (cells + mc) (slots + ms) Q (F0 m (pc + 3) ls (.int r0 :: rest))) : W p l e R s m args below meth c H locs cells slots Q (F0 m pc ls st0) := by
  obtain ⟨hK, hP, hD, hS, hA⟩ := id hw
  obtain ⟨hb1, hchk⟩ := (Bool.and_eq_true _ _).mp hchk
  obtain ⟨hb2, hchk⟩ := (Bool.and_eq_true _ _).mp hchk
  obtain ⟨hnC, hall⟩ := (Bool.and_eq_true _ _).mp hchk
  have hC := (z_rng_idx ws rsC (by rw [hN]; exact hb1)).trans (by rw [hC])
  have hC1 := (z_rng_idx ws' rsC (by rw [hN1]; exact hb1)).trans (by rw [hC1])
  have hR := (z_rng_idx ws rsR (by rw [hN]; exact hb2)).trans (by rw [hR])
  have hR1 := (z_rng_idx ws' rsR (by rw [hN1]; exact hb2)).trans (by rw [hR1])
  rw [← hN1] at hall
  generalize z_idx rsC = isC at hC hC1 hnC hall
  generalize z_idx rsR = isR at hR hR1 hall
  have hPc := z_cut hP isC hC
  have hDc := hD.sub (ws' := wc) isC hnC hC
  have hFc := va_free hD hS hA isC hC
  refine va_calli (va_runS (As := As) (rest := rest) E hM cw ⟨zPc_blind, fun U hU hW => ⟨rfl, by rw [hU], by rw [hU]; exact hPc, va_K.moved hW.alike hK, hDc.weaken (fun _ _ _ _ => trivial)⟩⟩ rfl hAs hl.1 hst (lv_room hcat) hdg hroom) hS (fun q _ h => hFc q h) hFc (fun r u t H1 locs1 ht hvm hp hB hz1 hk1 hS1 => ?_)
  cases hp
  exact kk H1 locs1 (z_after hw isC isR hC hC1 hR hR1 hall ht hB hk1 hS1)
theorem z_callSv (E : CallFix p m c cc nL s args Ts own) (hl : lv_has ls nL lvs) (hw : zW D tys A s ws H locs) {y : MethodName} {wsY : List Cond} {rm : Room} {mc ms n index maxL : Nat} {As : List Value} {wc w1 wr : va_W} {bytes : ByteArray} {ret : Option FieldType}
    (hM : Met l y wsY rm (zPc D tys As wc H.size) (zQv D tys w1 (va_A wc H.size)) mc ms (va_A wc H.size)) (cw : CallB R s args own index y bytes maxL ret wsY rm mc ms n ∧ (Cond.static y).before args s = true) (N9 : Nat) (rsC rsR : List (Nat × Nat)) (hN : ws.length = N9) (hN1 : ws'.length = N9) (hC : z_rng ws rsC = wc) (hC1 : z_rng ws' rsC = w1) (hR : z_rng ws rsR = wr) (hR1 : z_rng ws' rsR = wr) (hchk : z_chk N9 rsC rsR = true)
    (hAs : As.length = n) (hst : st0 = As.reverse ++ rest) (hcat : (rest.map fun v => v.category).sum ≤ 8) (hdg : decode cc pc = .ok (.invokestatic index, 3)) (hroom : cells + mc ≤ R.cells ∧ slots + ms ≤ R.slots)
    (kk : ∀ (H : Heap) (locs : List Loc), zW D tys A s ws' H locs → W p l e R s m args below meth c H locs (cells + mc) (slots + ms) Q (F0 m (pc + 3) ls (rest))) : W p l e R s m args below meth c H locs cells slots Q (F0 m pc ls st0) := by
  obtain ⟨hK, hP, hD, hS, hA⟩ := id hw
  obtain ⟨hb1, hchk⟩ := (Bool.and_eq_true _ _).mp hchk
  obtain ⟨hb2, hchk⟩ := (Bool.and_eq_true _ _).mp hchk
  obtain ⟨hnC, hall⟩ := (Bool.and_eq_true _ _).mp hchk
  have hC := (z_rng_idx ws rsC (by rw [hN]; exact hb1)).trans (by rw [hC])
  have hC1 := (z_rng_idx ws' rsC (by rw [hN1]; exact hb1)).trans (by rw [hC1])
  have hR := (z_rng_idx ws rsR (by rw [hN]; exact hb2)).trans (by rw [hR])
  have hR1 := (z_rng_idx ws' rsR (by rw [hN1]; exact hb2)).trans (by rw [hR1])
  rw [← hN1] at hall
  generalize z_idx rsC = isC at hC hC1 hnC hall
  generalize z_idx rsR = isR at hR hR1 hall
  have hPc := z_cut hP isC hC
  have hDc := hD.sub (ws' := wc) isC hnC hC
  have hFc := va_free hD hS hA isC hC
  refine va_callv (va_runS (As := As) (rest := rest) E hM cw ⟨zPc_blind, fun U hU hW => ⟨rfl, by rw [hU], by rw [hU]; exact hPc, va_K.moved hW.alike hK, hDc.weaken (fun _ _ _ _ => trivial)⟩⟩ rfl hAs hl.1 hst (lv_room hcat) hdg hroom) hS (fun q _ h => hFc q h) hFc (fun u t H1 locs1 ht hvm hp hB hz1 hk1 hS1 => ?_)
  exact kk H1 locs1 (z_after hw isC isR hC hC1 hR hR1 hall ht hB hk1 hS1)
end ZL
