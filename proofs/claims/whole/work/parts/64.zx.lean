/-! Methods that make cells or throw: the world may come back at other addresses (u : S), the answer bears a code cd: 0 returned, else thrown (zEx cd). -/
section ZX
variable {p : Program} {l : Launch} {e : Env} {R : Room} {s : State} {m : MethodId} {args : Array Value} {below : List Frame} {meth : Method} {c : Code} {H : Heap} {locs : List Loc} {cells slots : Nat} {Q : State → Prop}
variable {pc : Nat} {ls : Array Slot} {rest st0 : List Value} {D : va_G} {tys : List (ClassId × FieldType)} {A : Nat → Prop} {ws : va_W} {cc : ByteArray} {nL : Nat} {Ts : List Cond} {own : String} {a : Nat} {lvs : List (Nat × Value)} {S : Type} {mc ms cd : Nat} {wsf : S → va_W} {r0 : Int32}
abbrev zNm : List String := ["java/lang/RuntimeException", "java/lang/Exception"]
def zEx : Nat → String
  | 1 => "java/lang/IndexOutOfBoundsException"
  | 2 => "java/lang/IllegalArgumentException"
  | _ => "java/lang/IllegalStateException"
def zStrs : List (Nat × String) := [(70, "the text would be too long"), (81, "the length is out of range"), (116, "the rent is out of range"), (147, "a parameter is out of range"), (149, "there are already 8 traders"), (165, "traders with these trades stand side by side"), (171, "the number of covers is out of range"), (176, "more covers are in use"), (185, "the trader cannot be placed there"), (193, "the trader is not placed"), (198, "two placed traders are needed"), (203, "the placement would not be valid"), (218, "rain is not a number from 0.0 to 1.0"), (248, "the order is not one of existing traders"), (268, "there is no insertion"), (279, "there is no change to undo"), (289, "the pitch does not exist"), (292, "the trader does not exist"), (294, "a trade is out of range"), (296, "moves is out of range"), (298, "the trader is placed")]
/-- what the launch says once for all: the texts of the throws, and that an exception is of its own class -/
def zTh (s : State) : Prop := (∀ q ∈ zStrs, ∃ sa : Nat, vk_R RX5 q.1 q.2 sa s) ∧ va_Nw (.castable (zEx 1) (zEx 1)) s ∧ va_Nw (.castable (zEx 2) (zEx 2)) s ∧ va_Nw (.castable (zEx 3) (zEx 3)) s ∧ va_Nw (.declares (Bundle.initS "java/lang/RuntimeException")) s ∧ va_Nw (.declares (Bundle.initS "java/lang/Exception")) s ∧ va_Nw (.declares (Bundle.initS Bundle.tN)) s
theorem zTh.warm {s U : State} (hW : s.WarmedH U.vm) (h : zTh s) : zTh U := ⟨fun q hq => let ⟨sa, h1⟩ := h.1 q hq; ⟨sa, h1.warm hW⟩, h.2.1.warmC hW, h.2.2.1.warmC hW, h.2.2.2.1.warmC hW, h.2.2.2.2.1.warmD hW, h.2.2.2.2.2.1.warmD hW, h.2.2.2.2.2.2.warmD hW⟩
theorem zTh.same {u U : State} (hv : U.vm = u.vm) (h : zTh u) : zTh U := ⟨fun q hq => let ⟨sa, h1⟩ := h.1 q hq; ⟨sa, h1.same hv⟩, h.2.1.same rfl hv.symm, h.2.2.1.same rfl hv.symm, h.2.2.2.1.same rfl hv.symm, h.2.2.2.2.1.same rfl hv.symm, h.2.2.2.2.2.1.same rfl hv.symm, h.2.2.2.2.2.2.same rfl hv.symm⟩
def zSt (A : Nat → Prop) (s : State) (H : Heap) : Prop := vx_Zq Bundle.tN "UNASSIGNED_STACK" Bundle.steD A s H ∧ vx_Zq Bundle.tN "SUPPRESSED_SENTINEL" Bundle.listD A s H
def zXE (p : Program) (l : Launch) (s : State) (m : MethodId) (args : Array Value) (meth : Method) (c : Code) (cc : ByteArray) (nL : Nat) (ret : Option FieldType) (Ts : List Cond) (own : String) (A : Nat → Prop) : Prop :=
  CallFix p m c cc nL s args Ts own ∧ meth.sig.returnType = ret ∧ meth.locks = false ∧ (∀ x ∈ c.exceptionTable.toList, False) ∧ l.stackTraces = false ∧ zTh s ∧ zSt A s s.heap
def zPcX (D : va_G) (tys : List (ClassId × FieldType)) (av : List Value) (ws : va_W) (sz : Nat) : Array Value → State → Prop :=
  va_Pc av (fun U => U.heap.size = sz ∧ va_P D vwCl ws U.heap ∧ va_K D vwCl tys U ∧ va_D (fun _ => True) ws ∧ zTh U ∧ zSt (va_A ws sz) U U.heap)
def zQiX (D : va_G) (tys : List (ClassId × FieldType)) (cd : Nat) (r : Int32) (wsf : S → va_W) (A : Nat → Prop) : Array Value → State → Outcome → State → Prop :=
  va_Qi (S := S) (fun r' _ => cd = 0 ∧ r' = r) (fun u t => va_P D vwCl (wsf u) t.heap ∧ va_K D vwCl tys t ∧ va_D A (wsf u)) A
def zQvX (D : va_G) (tys : List (ClassId × FieldType)) (cd : Nat) (wsf : S → va_W) (A : Nat → Prop) : Array Value → State → Outcome → State → Prop :=
  va_Qv (S := S) (fun _ => cd = 0) (fun u t => va_P D vwCl (wsf u) t.heap ∧ va_K D vwCl tys t ∧ va_D A (wsf u)) A
def zXC (D : va_G) (tys : List (ClassId × FieldType)) (cd : Nat) (wsf : S → va_W) (A : Nat → Prop) : String → State → State → Prop :=
  vx_X (S := S) (fun _ => cd ≠ 0) (fun E u t => E = zEx cd ∧ va_P D vwCl (wsf u) t.heap ∧ va_K D vwCl tys t ∧ va_D A (wsf u)) A
theorem zPcX_blind {av : List Value} {sz : Nat} : FrameBlind (zPcX D tys av ws sz) := fun a U g mk q => by
  obtain ⟨q0, q1, qP, qK, qD, qT, qS⟩ := q
  exact ⟨q0, q1, qP, va_K.moved (u := U) (U := U.calling g mk a) (Vm.Alike.refl U.vm) qK, qD, qT.same rfl, vx_Zq.moved (u := U) (U := U.calling g mk a) (Vm.Alike.refl U.vm) qS.1, vx_Zq.moved (u := U) (U := U.calling g mk a) (Vm.Alike.refl U.vm) qS.2⟩
theorem z_metX {y : MethodName} {wsY ws1 : List Cond} {rm : Room} {av : List Value} {W0 : va_W} {sz : Nat} {Qc : Array Value → State → Outcome → State → Prop} {XC : String → State → State → Prop} {maxL : Nat} {ret : Option FieldType} (hst : l.stackTraces = false) (hy : plainName y.cls = true) (hw : wsY = Cond.code y cc maxL ret :: ws1) (hle : (lg_sl av).length ≤ maxL)
    (body : ∀ (p : Program) (e : Env) (s : State) (m : MethodId) (below : List Frame) (meth : Method) (c : Code) (ls : Array Slot), zXE p l s m av.toArray meth c cc maxL ret wsY y.cls (va_A W0 sz) → s.heap.size = sz → zW D tys (va_A W0 sz) s W0 s.heap [] → lv_has ls maxL (lv_args 0 av) →
      W p l e rm s m av.toArray below meth c s.heap [] 0 0 (vx_MQ below Qc XC av.toArray s mc ms (va_A W0 sz)) (F0 m 0 ls [])) : vx_Met l y wsY rm (zPcX D tys av W0 sz) Qc XC mc ms (va_A W0 sz) := by
  refine vx_ofW (cc := cc) (maxL := maxL) (ret := ret) hy hw ?_
  intro p e s m args below meth c s₁ B hml ht hv
  obtain ⟨rfl, hsz, hP, hK, hD0, hT, hSt⟩ := hv
  have hl := lv_entry av (n := maxL) hle
  rw [lg_entry_eq]
  refine body p e s m below meth c _ ⟨⟨B.exec, B.bytes, hml, findClass_of_methodNamed B.named, atoms_spec (ws := wsY) B.pre⟩, B.returns, B.notSynchronized, ht, hst, hT, hSt⟩ hsz ⟨hK, hP, hD0.self, va_S.rf, fun q h => Or.inr (by rw [← hsz]; exact h)⟩ hl
theorem z_iretX {ret : Option FieldType} {XC : String → State → State → Prop} (X : zXE p l s m args meth c cc nL ret Ts own A) (hret : ret = some .int) (hw : zW D tys A s ws H locs) (u : S) (hu : wsf u = ws) (hc : cells ≤ mc) (hs : slots ≤ ms) (hdg : decode cc pc = .ok (.ireturn, 1)) : W p l e R s m args below meth c H locs cells slots (vx_MQ below (zQiX D tys 0 r0 wsf A) XC args s mc ms A) (F0 m pc ls [.int r0]) := by
  obtain ⟨hK, hP, hD, hS, hA⟩ := hw
  obtain ⟨⟨hx, hb, -, -, -⟩, hr, hlocks, -⟩ := X
  subst hu
  refine vx_ret (W.widen hc hs ?_)
  exact W.iret hx hb (hr.trans hret) (fun t ht hW => ⟨⟨r0, u, rfl, ⟨rfl, rfl⟩, by rw [ht]; exact hP, va_K.moved hW.alike hK, hD⟩, hS.F ht⟩) hS.2.2 hdg hlocks
theorem z_zretX {ret : Option FieldType} {XC : String → State → State → Prop} (X : zXE p l s m args meth c cc nL ret Ts own A) (hret : ret = some .boolean) (hn : narrow .boolean (.int r0) = .int r0) (hw : zW D tys A s ws H locs) (u : S) (hu : wsf u = ws) (hc : cells ≤ mc) (hs : slots ≤ ms) (hdg : decode cc pc = .ok (.ireturn, 1)) : W p l e R s m args below meth c H locs cells slots (vx_MQ below (zQiX D tys 0 r0 wsf A) XC args s mc ms A) (F0 m pc ls [.int r0]) := by
  obtain ⟨hK, hP, hD, hS, hA⟩ := hw
  obtain ⟨⟨hx, hb, -, -, -⟩, hr, hlocks, -⟩ := X
  subst hu
  refine vx_ret (W.widen hc hs ?_)
  exact W.zret hx hb (hr.trans hret) hn (fun t ht hW => ⟨⟨r0, u, rfl, ⟨rfl, rfl⟩, by rw [ht]; exact hP, va_K.moved hW.alike hK, hD⟩, hS.F ht⟩) hS.2.2 hdg hlocks
theorem z_vretX {ret : Option FieldType} {XC : String → State → State → Prop} (X : zXE p l s m args meth c cc nL ret Ts own A) (hret : ret = none) (hw : zW D tys A s ws H locs) (u : S) (hu : wsf u = ws) (hc : cells ≤ mc) (hs : slots ≤ ms) (hdg : decode cc pc = .ok (.return_, 1)) : W p l e R s m args below meth c H locs cells slots (vx_MQ below (zQvX D tys 0 wsf A) XC args s mc ms A) (F0 m pc ls []) := by
  obtain ⟨hK, hP, hD, hS, hA⟩ := hw
  obtain ⟨⟨hx, hb, -, -, -⟩, hr, hlocks, -⟩ := X
  subst hu
  refine vx_ret (W.widen hc hs ?_)
  exact W.vret hx hb (hr.trans hret) (fun t ht hW => ⟨⟨u, rfl, rfl, by rw [ht]; exact hP, va_K.moved hW.alike hK, hD⟩, hS.F ht⟩) hS.2.2 hdg hlocks
/-- a throw that comes from a callee goes on -/
theorem z_outX {ret : Option FieldType} {Qc : Array Value → State → Outcome → State → Prop} {q : Addr} {ce : Cell} (X : zXE p l s m args meth c cc nL ret Ts own A) (hw : zW D tys A s ws H locs) (u : S) (hu : wsf u = ws) (hcd : cd ≠ 0) (hcell : H[q]? = some ce) (hv : ce.vm = .none) (hcl : s.vm.findClass (zEx cd) = some ce.cls) (hc : cells ≤ mc) (hs : slots ≤ ms) :
    vx_W p l e R s m args below meth c H locs cells slots (vx_MQ below Qc (zXC D tys cd wsf A) args s mc ms A) (F0 m pc ls rest) q := by
  obtain ⟨hK, hP, hD, hS, hA⟩ := hw
  obtain ⟨-, -, hlocks, ht, -⟩ := X
  subst hu
  exact vx_out (fun x hx => (ht x hx).elim) hlocks hcell hv hcl (fun t h1 h2 => ⟨u, hcd, ⟨rfl, by rw [h1]; exact hP, va_K.moved h2 hK, hD⟩, hS.F h1⟩) hS.2.2 hc hs
theorem zv_1 {x : Cond} : ∀ w ∈ (vx_atS RX5 291 (zEx 1) zNm).filter goodWord, w ∈ x :: wsAll := in_wV_0
theorem zv_2 {x : Cond} : ∀ w ∈ (vx_atS RX5 83 (zEx 2) zNm).filter goodWord, w ∈ x :: wsAll := in_wV_2
theorem zv_3 {x : Cond} : ∀ w ∈ (vx_atS RX5 72 (zEx 3) zNm).filter goodWord, w ∈ x :: wsAll := in_wV_1
abbrev zBad (cd : Nat) : List Cond := [Cond.castable (zEx cd) (zEx cd), Cond.declares (Bundle.initS "java/lang/RuntimeException"), Cond.declares (Bundle.initS "java/lang/Exception"), Cond.declares (Bundle.initS Bundle.tN)]
theorem zb_1 : ∀ w ∈ (vx_atS RX5 291 (zEx 1) zNm).filter (fun w => !goodWord w), w ∈ zBad 1 := by decide +kernel
theorem zb_2 : ∀ w ∈ (vx_atS RX5 83 (zEx 2) zNm).filter (fun w => !goodWord w), w ∈ zBad 2 := by decide +kernel
theorem zb_3 : ∀ w ∈ (vx_atS RX5 72 (zEx 3) zNm).filter (fun w => !goodWord w), w ∈ zBad 3 := by decide +kernel
theorem zo_1 {ik : Nat} : ∀ w ∈ Cond.classLink RX5 ik (zEx 1) :: Cond.initialized (zEx 1) :: vx_atS RX5 291 (zEx 1) zNm, vx_ot w = true := List.forall_mem_cons.mpr ⟨rfl, List.forall_mem_cons.mpr ⟨rfl, by decide +kernel⟩⟩
theorem zo_2 {ik : Nat} : ∀ w ∈ Cond.classLink RX5 ik (zEx 2) :: Cond.initialized (zEx 2) :: vx_atS RX5 83 (zEx 2) zNm, vx_ot w = true := List.forall_mem_cons.mpr ⟨rfl, List.forall_mem_cons.mpr ⟨rfl, by decide +kernel⟩⟩
theorem zo_3 {ik : Nat} : ∀ w ∈ Cond.classLink RX5 ik (zEx 3) :: Cond.initialized (zEx 3) :: vx_atS RX5 72 (zEx 3) zNm, vx_ot w = true := List.forall_mem_cons.mpr ⟨rfl, List.forall_mem_cons.mpr ⟨rfl, by decide +kernel⟩⟩
theorem z_cast {s : State} (h : zTh s) : (cd = 1 ∨ cd = 2 ∨ cd = 3) → va_Nw (.castable (zEx cd) (zEx cd)) s := by
  rintro (rfl | rfl | rfl)
  · exact h.2.1
  · exact h.2.2.1
  · exact h.2.2.2.1
/-- throw new E(text) -/
theorem z_throw {ret : Option FieldType} {Qc : Array Value → State → Outcome → State → Prop} {ik is ic : Nat} {text : String} (X : zXE p l s m args meth c cc nL ret Ts RX5 A) (hl : lv_has ls nL lvs) (hw : zW D tys A s ws H locs) (u : S) (hu : wsf u = ws) (hcd : cd = 1 ∨ cd = 2 ∨ cd = 3) (hk : Cond.classLink RX5 ik (zEx cd) ∈ Ts) (hini : Cond.initialized (zEx cd) ∈ Ts) (hstr : (is, text) ∈ zStrs)
    (h1 : ∀ w ∈ (vx_atS RX5 ic (zEx cd) zNm).filter goodWord, w ∈ Ts) (h2 : ∀ w ∈ (vx_atS RX5 ic (zEx cd) zNm).filter (fun w => !goodWord w), w ∈ zBad cd) (h3 : ∀ w ∈ Cond.classLink RX5 ik (zEx cd) :: Cond.initialized (zEx cd) :: vx_atS RX5 ic (zEx cd) zNm, vx_ot w = true)
    (d0 : decode cc pc = .ok (.new ik, 3)) (d3 : decode cc (pc + 3) = .ok (.dup, 1)) (d4 : decode cc (pc + 4) = .ok (.ldc is, 2)) (d6 : decode cc (pc + 6) = .ok (.invokespecial ic, 3)) (d9 : decode cc (pc + 9) = .ok (.athrow, 1))
    (hRf : 5 < R.frames) (hRl : (rest.map fun v => v.category).sum + 82 ≤ R.locals) (hRc : cells + 1 ≤ R.cells) (hRs : slots + 6 ≤ R.slots) (hc : cells + 1 ≤ mc) (hs : slots + 6 ≤ ms) :
    W p l e R s m args below meth c H locs cells slots (vx_MQ below Qc (zXC D tys cd wsf A) args s mc ms A) (F0 m pc ls rest) := by
  obtain ⟨hK, hP, hD, hS, hA⟩ := hw
  obtain ⟨⟨hx, hb, hml, hown, hts⟩, hr, hlocks, ht, hst, hT, hSt⟩ := X
  obtain ⟨sa, hsa⟩ := hT.1 _ hstr
  subst hu
  have hcast : (Cond.castable (zEx cd) (zEx cd)).before args s = true := va_Nw.use rfl (z_cast hT hcd)
  refine vx_throwS (A := A) (names := zNm) hx hb hst hown ?_ (by decide) (hts _ hk) (hts _ hini) hsa (vx_hat (fun w hw => hts _ (h1 w hw)) h2 (vx_c hcast (vx_c (va_Nw.use rfl hT.2.2.2.2.1) (vx_c (va_Nw.use rfl hT.2.2.2.2.2.1) (vx_c (va_Nw.use rfl hT.2.2.2.2.2.2) vx_n))))) h3 hSt.1 hSt.2 hS (hl.1.trans hml.symm) d0 d3 d4 d6 d9 (fun x hx => (ht x hx).elim) hRf hRl hRc hRs hlocks (fun t h4 h5 h6 => ?_) hS.2.2 hc hs
  · rcases hcd with rfl | rfl | rfl <;> decide
  · refine ⟨u, ?_, ⟨rfl, hP.kept (fun k q hq => h6 q.1 (hP k q hq).lt), va_K.moved h4 hK, hD⟩, ?_⟩
    · rcases hcd with rfl | rfl | rfl <;> decide
    · exact ⟨Nat.le_trans hS.1 h5, fun q g1 g2 => (h6 q (Nat.lt_of_lt_of_le g1 hS.1)).trans (hS.2.1 q g1 g2)⟩
theorem z_throwW {ret : Option FieldType} {Qc : Array Value → State → Outcome → State → Prop} {ik is ic : Nat} {text : String} (X : zXE p l s m args meth c cc nL ret Ts RX5 A) (hl : lv_has ls nL lvs) (hw : zW D tys A s ws H locs) (u : S) (hu : wsf u = ws) (hcd : cd = 1 ∨ cd = 2 ∨ cd = 3) (hk : Cond.classLink RX5 ik (zEx cd) ∈ Ts) (hini : Cond.initialized (zEx cd) ∈ Ts) (hstr : (is, text) ∈ zStrs)
    (h1 : ∀ w ∈ (vx_atS RX5 ic (zEx cd) zNm).filter goodWord, w ∈ Ts) (h2 : ∀ w ∈ (vx_atS RX5 ic (zEx cd) zNm).filter (fun w => !goodWord w), w ∈ zBad cd) (h3 : ∀ w ∈ Cond.classLink RX5 ik (zEx cd) :: Cond.initialized (zEx cd) :: vx_atS RX5 ic (zEx cd) zNm, vx_ot w = true)
    (d0 : decode cc pc = .ok (.new ik, 3)) (d3 : decode cc (pc + 3) = .ok (.dup, 1)) (d4 : decode cc (pc + 4) = .ok (.ldc_w is, 3)) (d6 : decode cc (pc + 7) = .ok (.invokespecial ic, 3)) (d9 : decode cc (pc + 10) = .ok (.athrow, 1))
    (hRf : 5 < R.frames) (hRl : (rest.map fun v => v.category).sum + 82 ≤ R.locals) (hRc : cells + 1 ≤ R.cells) (hRs : slots + 6 ≤ R.slots) (hc : cells + 1 ≤ mc) (hs : slots + 6 ≤ ms) :
    W p l e R s m args below meth c H locs cells slots (vx_MQ below Qc (zXC D tys cd wsf A) args s mc ms A) (F0 m pc ls rest) := by
  obtain ⟨hK, hP, hD, hS, hA⟩ := hw
  obtain ⟨⟨hx, hb, hml, hown, hts⟩, hr, hlocks, ht, hst, hT, hSt⟩ := X
  obtain ⟨sa, hsa⟩ := hT.1 _ hstr
  subst hu
  have hcast : (Cond.castable (zEx cd) (zEx cd)).before args s = true := va_Nw.use rfl (z_cast hT hcd)
  refine vx_throwSW (A := A) (names := zNm) hx hb hst hown ?_ (by decide) (hts _ hk) (hts _ hini) hsa (vx_hat (fun w hw => hts _ (h1 w hw)) h2 (vx_c hcast (vx_c (va_Nw.use rfl hT.2.2.2.2.1) (vx_c (va_Nw.use rfl hT.2.2.2.2.2.1) (vx_c (va_Nw.use rfl hT.2.2.2.2.2.2) vx_n))))) h3 hSt.1 hSt.2 hS (hl.1.trans hml.symm) d0 d3 d4 d6 d9 (fun x hx => (ht x hx).elim) hRf hRl hRc hRs hlocks (fun t h4 h5 h6 => ?_) hS.2.2 hc hs
  · rcases hcd with rfl | rfl | rfl <;> decide
  · refine ⟨u, ?_, ⟨rfl, hP.kept (fun k q hq => h6 q.1 (hP k q hq).lt), va_K.moved h4 hK, hD⟩, ?_⟩
    · rcases hcd with rfl | rfl | rfl <;> decide
    · exact ⟨Nat.le_trans hS.1 h5, fun q g1 g2 => (h6 q (Nat.lt_of_lt_of_le g1 hS.1)).trans (hS.2.1 q g1 g2)⟩
/-- a new row of ints; its class is the one that is known -/
theorem z_newi (E : CallFix p m c cc nL s args Ts own) (hw : zW D tys A s ws H locs) (harr : Cond.arrayClass .int ∈ Ts) (t0 : Nat) {cI : ClassId} (ht0 : tys[t0]? = some (cI, .int)) {n : Int32} (hn : ¬ n < 0) (hb : n.toNatClampNeg ≤ 134217728) (hRc : cells + 1 ≤ R.cells) (hRs : slots + n.toNatClampNeg ≤ R.slots) (hdg : decode cc pc = .ok (.newarray .int, 2))
    (kk : ∀ (q : Nat) (H : Heap), zW D tys A s (ws ++ [(q, .inl (cI, n.toNatClampNeg, .inl (fun _ => 0)))]) H locs → W p l e R s m args below meth c H locs (cells + 1) (slots + n.toNatClampNeg) Q (F0 m (pc + 2) ls (.ref q :: rest))) : W p l e R s m args below meth c H locs cells slots Q (F0 m pc ls (.int n :: rest)) := by
  obtain ⟨hK, hP, hD, hS, hA⟩ := hw
  obtain ⟨hx, hcc, hml, hown, hts⟩ := E
  refine va_newa (atype := .int) (ty := .int) (a0 := (n.toNatClampNeg, .inl (fun _ => 0))) hx hcc (hts _ harr) rfl hK hP hD hS hA (fun cA => rfl) hn rfl (by show n.toNatClampNeg * 4 ≤ _; omega) hRc hRs hdg (fun q cA H1 hK1 hP1 hD1 hS1 => ?_)
  have e1 : s.vm.findClass ("[" ++ (FieldType.int).toString) = some cI := (hK.2 t0 _ ht0).2
  have e2 : s.vm.findClass ("[" ++ (FieldType.int).toString) = some cA := (hK1.2 tys.length (cA, .int) (by rw [List.getElem?_append_right (Nat.le_refl _), Nat.sub_self]; rfl)).2
  have e3 : cA = cI := Option.some.inj (e2.symm.trans e1)
  subst e3
  exact kk q H1 ⟨hK, hP1, hD1, hS1, hA⟩
/-- a field that is a reference -/
theorem z_putr (E : CallFix p m c cc nL s args Ts own) (hw : zW D tys A s ws H locs) {C : String} {T : u_T} {N ci index : Nat} (hin : ∀ w ∈ u_ws C T N, w ∈ Ts) (ty0 : Nat → FieldType) (hty : ∀ k, k < N → parseFieldDescriptor (T k).2.2.1 = some (ty0 k)) (hnm : ∀ a, a < N → ∀ b, b < N → a ≠ b → (T a).2.1 ≠ (T b).2.1) (q0 : Nat) {fs : List Value} (he : ws[q0]? = some (a, .inr (ci, fs))) (hc : vwCl[ci]? = some (C, T, N)) (k : Nat) (hk : k < N) (hlink : Cond.fieldLink own index (T k).1 (T k).2.1 (T k).2.2.1 ∈ Ts) (hfin : (T k).2.2.2 = false) {v : Value} (hn : narrow (ty0 k) v = v) (hfit : fits (ty0 k) v = true) (hl : k < fs.length) (isK : List Nat) {ws' : va_W} (hnd : va_nd isK = true) (hs : isK.map (fun i => (ws.set q0 (a, .inr (ci, fs.set k v)))[i]?) = ws'.map some)
    (hdg : decode cc pc = .ok (.putfield index, 3)) (kk : ∀ (H : Heap) (locs : List Loc), zW D tys A s ws' H locs → W p l e R s m args below meth c H locs cells slots Q (F0 m (pc + 3) ls rest)) : W p l e R s m args below meth c H locs cells slots Q (F0 m pc ls (v :: .ref a :: rest)) := by
  obtain ⟨hK, hP, hD, hS, hA⟩ := hw
  exact va_put E.1 E.2.1 E.2.2.2.2 hin ty0 hty hnm E.2.2.2.1 hK hP hD hS q0 he hc k hk (E.2.2.2.2 _ hlink) (fun _ h9 => h9) hfin (hty k hk) hn hfit hl hdg (fun H1 l1 h1 h2 h3 => kk H1 l1 ⟨hK, z_cut h1 isK hs, h2.sub isK hnd hs, h3, hA⟩)
theorem zSt.call {s U : State} {wc : va_W} (h : zSt A s s.heap) (hS : va_S A s.heap H locs) (hF : ∀ q, va_A wc H.size q → A q) (hU : U.heap = H) (hW : s.WarmedH U.vm) : zSt (va_A wc H.size) U U.heap := by
  rw [hU]
  refine ⟨?_, ?_⟩
  · exact vx_Zq.moved hW.alike (vx_Zq.narrow (vx_Zq.kept h.1 (fun a h1 h2 => hS.2.1 a h1 h2)) hF)
  · exact vx_Zq.moved hW.alike (vx_Zq.narrow (vx_Zq.kept h.2 (fun a h1 h2 => hS.2.1 a h1 h2)) hF)
theorem z_o1 : (1 : Nat) = 1 ∨ (1 : Nat) = 2 ∨ (1 : Nat) = 3 := Or.inl rfl
theorem z_o2 : (2 : Nat) = 1 ∨ (2 : Nat) = 2 ∨ (2 : Nat) = 3 := Or.inr (Or.inl rfl)
theorem z_o3 : (3 : Nat) = 1 ∨ (3 : Nat) = 2 ∨ (3 : Nat) = 3 := Or.inr (Or.inr rfl)
theorem z_n0 : narrow .boolean (.int 0) = .int 0 := rfl
theorem z_n1 : narrow .boolean (.int 1) = .int 1 := rfl
theorem z_callXVi {ret0 : Option FieldType} {S1 : Type} (X : zXE p l s m args meth c cc nL ret0 Ts own A) (hl : lv_has ls nL lvs) (hw : zW D tys A s ws H locs) {y : MethodName} {wsY : List Cond} {rm : Room} {mc1 ms1 n index maxL cd1 : Nat} {As : List Value} {wc wr : va_W} {w1 ws' : S1 → va_W} {bytes : ByteArray} {ret : Option FieldType} {b ci q0 : Nat} {C : String} {T : u_T} {N : Nat} {fs : List Value} {r1 : Int32}
    (hM : vx_Met l y wsY rm (zPcX D tys (.ref b :: As) wc H.size) (zQiX D tys cd1 r1 w1 (va_A wc H.size)) (zXC D tys cd1 w1 (va_A wc H.size)) mc1 ms1 (va_A wc H.size)) (cw : CallW R s args own C index y bytes maxL ret wsY rm mc1 ms1 n) (N9 : Nat) (rsC rsR : List (Nat × Nat)) (hN : ws.length = N9) (hN1 : ∀ u, (ws' u).length = N9) (hC : z_rng ws rsC = wc) (hC1 : ∀ u, z_rng (ws' u) rsC = w1 u) (hR : z_rng ws rsR = wr) (hR1 : ∀ u, z_rng (ws' u) rsR = wr) (hchk : z_chk N9 rsC rsR = true)
    (hci : vwCl[ci]? = some (C, T, N)) (hq : wc[q0]? = some (b, .inr (ci, fs))) (hAs : As.length = n) (hst : st0 = As.reverse ++ .ref b :: rest) (hcat : (rest.map fun v => v.category).sum ≤ 8) (hdg : decode cc pc = .ok (.invokevirtual index, 3)) (hroom : cells + mc1 ≤ R.cells ∧ slots + ms1 ≤ R.slots)
    (kx : cd1 ≠ 0 → ∀ (u : S1) (H : Heap) (locs : List Loc) (q : Addr) (ce : Cell), zW D tys A s (ws' u) H locs → H[q]? = some ce → ce.vm = .none → s.vm.findClass (zEx cd1) = some ce.cls → vx_W p l e R s m args below meth c H locs (cells + mc1) (slots + ms1) Q (F0 m pc ls rest) q)
    (kk : cd1 = 0 → ∀ (u : S1) (H : Heap) (locs : List Loc), zW D tys A s (ws' u) H locs → W p l e R s m args below meth c H locs (cells + mc1) (slots + ms1) Q (F0 m (pc + 3) ls (.int r1 :: rest))) : W p l e R s m args below meth c H locs cells slots Q (F0 m pc ls st0) := by
  obtain ⟨hK, hP, hD, hS, hA⟩ := id hw
  obtain ⟨E, hr, hlocks, ht9, hst9, hT, hSt⟩ := X
  obtain ⟨hb1, hchk⟩ := (Bool.and_eq_true _ _).mp hchk
  obtain ⟨hb2, hchk⟩ := (Bool.and_eq_true _ _).mp hchk
  obtain ⟨hnC, hall⟩ := (Bool.and_eq_true _ _).mp hchk
  have hC := (z_rng_idx ws rsC (by rw [hN]; exact hb1)).trans (by rw [hC])
  have hC1 := fun u => (z_rng_idx (ws' u) rsC (by rw [hN1]; exact hb1)).trans (by rw [hC1])
  have hR := (z_rng_idx ws rsR (by rw [hN]; exact hb2)).trans (by rw [hR])
  have hR1 := fun u => (z_rng_idx (ws' u) rsR (by rw [hN1]; exact hb2)).trans (by rw [hR1])
  have hall : ∀ u, z_covs (z_idx rsC) (z_idx rsR) (ws' u).length = true := fun u => by rw [hN1]; exact hall
  generalize z_idx rsC = isC at hC hC1 hnC hall
  generalize z_idx rsR = isR at hR hR1 hall
  have hPc := z_cut hP isC hC
  have hDc := hD.sub (ws' := wc) isC hnC hC
  have hFc := va_free hD hS hA isC hC
  refine vx_calli (vx_runV (As := As) (rest := rest) E hM cw ⟨zPcX_blind, va_recv hK hPc hci hq, fun U hU hW => ⟨rfl, by rw [hU], by rw [hU]; exact hPc, va_K.moved hW.alike hK, hDc.weaken (fun _ _ _ _ => trivial), hT.warm hW, hSt.call hS hFc hU hW⟩⟩ rfl hAs hl.1 hst (lv_room hcat) hdg hroom) hS (fun q _ h => hFc q h) hFc (fun q _ h => hFc q h)
    (fun E9 ce q9 u t H1 locs1 ht hvm hp hB hz1 hk1 hS1 hce hcv hcl => ?_) (fun r u t H1 locs1 ht hvm hp hB hz1 hk1 hS1 => ?_)
  · obtain ⟨hE, hB1, hB2, hB3⟩ := hB
    subst hE
    exact kx hp u H1 locs1 q9 ce (z_after hw isC isR hC (hC1 u) hR (hR1 u) (hall u) ht ⟨hB1, hB2, hB3⟩ hk1 hS1) hce hcv hcl
  obtain ⟨hp1, hp2⟩ := hp
  subst hp2
  exact kk hp1 u H1 locs1 (z_after hw isC isR hC (hC1 u) hR (hR1 u) (hall u) ht hB hk1 hS1)
theorem z_callXVv {ret0 : Option FieldType} {S1 : Type} (X : zXE p l s m args meth c cc nL ret0 Ts own A) (hl : lv_has ls nL lvs) (hw : zW D tys A s ws H locs) {y : MethodName} {wsY : List Cond} {rm : Room} {mc1 ms1 n index maxL cd1 : Nat} {As : List Value} {wc wr : va_W} {w1 ws' : S1 → va_W} {bytes : ByteArray} {ret : Option FieldType} {b ci q0 : Nat} {C : String} {T : u_T} {N : Nat} {fs : List Value}
    (hM : vx_Met l y wsY rm (zPcX D tys (.ref b :: As) wc H.size) (zQvX D tys cd1 w1 (va_A wc H.size)) (zXC D tys cd1 w1 (va_A wc H.size)) mc1 ms1 (va_A wc H.size)) (cw : CallW R s args own C index y bytes maxL ret wsY rm mc1 ms1 n) (N9 : Nat) (rsC rsR : List (Nat × Nat)) (hN : ws.length = N9) (hN1 : ∀ u, (ws' u).length = N9) (hC : z_rng ws rsC = wc) (hC1 : ∀ u, z_rng (ws' u) rsC = w1 u) (hR : z_rng ws rsR = wr) (hR1 : ∀ u, z_rng (ws' u) rsR = wr) (hchk : z_chk N9 rsC rsR = true)
    (hci : vwCl[ci]? = some (C, T, N)) (hq : wc[q0]? = some (b, .inr (ci, fs))) (hAs : As.length = n) (hst : st0 = As.reverse ++ .ref b :: rest) (hcat : (rest.map fun v => v.category).sum ≤ 8) (hdg : decode cc pc = .ok (.invokevirtual index, 3)) (hroom : cells + mc1 ≤ R.cells ∧ slots + ms1 ≤ R.slots)
    (kx : cd1 ≠ 0 → ∀ (u : S1) (H : Heap) (locs : List Loc) (q : Addr) (ce : Cell), zW D tys A s (ws' u) H locs → H[q]? = some ce → ce.vm = .none → s.vm.findClass (zEx cd1) = some ce.cls → vx_W p l e R s m args below meth c H locs (cells + mc1) (slots + ms1) Q (F0 m pc ls rest) q)
    (kk : cd1 = 0 → ∀ (u : S1) (H : Heap) (locs : List Loc), zW D tys A s (ws' u) H locs → W p l e R s m args below meth c H locs (cells + mc1) (slots + ms1) Q (F0 m (pc + 3) ls (rest))) : W p l e R s m args below meth c H locs cells slots Q (F0 m pc ls st0) := by
  obtain ⟨hK, hP, hD, hS, hA⟩ := id hw
  obtain ⟨E, hr, hlocks, ht9, hst9, hT, hSt⟩ := X
  obtain ⟨hb1, hchk⟩ := (Bool.and_eq_true _ _).mp hchk
  obtain ⟨hb2, hchk⟩ := (Bool.and_eq_true _ _).mp hchk
  obtain ⟨hnC, hall⟩ := (Bool.and_eq_true _ _).mp hchk
  have hC := (z_rng_idx ws rsC (by rw [hN]; exact hb1)).trans (by rw [hC])
  have hC1 := fun u => (z_rng_idx (ws' u) rsC (by rw [hN1]; exact hb1)).trans (by rw [hC1])
  have hR := (z_rng_idx ws rsR (by rw [hN]; exact hb2)).trans (by rw [hR])
  have hR1 := fun u => (z_rng_idx (ws' u) rsR (by rw [hN1]; exact hb2)).trans (by rw [hR1])
  have hall : ∀ u, z_covs (z_idx rsC) (z_idx rsR) (ws' u).length = true := fun u => by rw [hN1]; exact hall
  generalize z_idx rsC = isC at hC hC1 hnC hall
  generalize z_idx rsR = isR at hR hR1 hall
  have hPc := z_cut hP isC hC
  have hDc := hD.sub (ws' := wc) isC hnC hC
  have hFc := va_free hD hS hA isC hC
  refine vx_callv (vx_runV (As := As) (rest := rest) E hM cw ⟨zPcX_blind, va_recv hK hPc hci hq, fun U hU hW => ⟨rfl, by rw [hU], by rw [hU]; exact hPc, va_K.moved hW.alike hK, hDc.weaken (fun _ _ _ _ => trivial), hT.warm hW, hSt.call hS hFc hU hW⟩⟩ rfl hAs hl.1 hst (lv_room hcat) hdg hroom) hS (fun q _ h => hFc q h) hFc (fun q _ h => hFc q h)
    (fun E9 ce q9 u t H1 locs1 ht hvm hp hB hz1 hk1 hS1 hce hcv hcl => ?_) (fun u t H1 locs1 ht hvm hp hB hz1 hk1 hS1 => ?_)
  · obtain ⟨hE, hB1, hB2, hB3⟩ := hB
    subst hE
    exact kx hp u H1 locs1 q9 ce (z_after hw isC isR hC (hC1 u) hR (hR1 u) (hall u) ht ⟨hB1, hB2, hB3⟩ hk1 hS1) hce hcv hcl
  exact kk hp u H1 locs1 (z_after hw isC isR hC (hC1 u) hR (hR1 u) (hall u) ht hB hk1 hS1)
theorem z_callXSi {ret0 : Option FieldType} {S1 : Type} (X : zXE p l s m args meth c cc nL ret0 Ts own A) (hl : lv_has ls nL lvs) (hw : zW D tys A s ws H locs) {y : MethodName} {wsY : List Cond} {rm : Room} {mc1 ms1 n index maxL cd1 : Nat} {As : List Value} {wc wr : va_W} {w1 ws' : S1 → va_W} {bytes : ByteArray} {ret : Option FieldType} {r1 : Int32}
    (hM : vx_Met l y wsY rm (zPcX D tys As wc H.size) (zQiX D tys cd1 r1 w1 (va_A wc H.size)) (zXC D tys cd1 w1 (va_A wc H.size)) mc1 ms1 (va_A wc H.size)) (cw : CallB R s args own index y bytes maxL ret wsY rm mc1 ms1 n ∧ (Cond.static y).before args s = true) (N9 : Nat) (rsC rsR : List (Nat × Nat)) (hN : ws.length = N9) (hN1 : ∀ u, (ws' u).length = N9) (hC : z_rng ws rsC = wc) (hC1 : ∀ u, z_rng (ws' u) rsC = w1 u) (hR : z_rng ws rsR = wr) (hR1 : ∀ u, z_rng (ws' u) rsR = wr) (hchk : z_chk N9 rsC rsR = true)
    (hAs : As.length = n) (hst : st0 = As.reverse ++ rest) (hcat : (rest.map fun v => v.category).sum ≤ 8) (hdg : decode cc pc = .ok (.invokestatic index, 3)) (hroom : cells + mc1 ≤ R.cells ∧ slots + ms1 ≤ R.slots)
    (kx : cd1 ≠ 0 → ∀ (u : S1) (H : Heap) (locs : List Loc) (q : Addr) (ce : Cell), zW D tys A s (ws' u) H locs → H[q]? = some ce → ce.vm = .none → s.vm.findClass (zEx cd1) = some ce.cls → vx_W p l e R s m args below meth c H locs (cells + mc1) (slots + ms1) Q (F0 m pc ls rest) q)
    (kk : cd1 = 0 → ∀ (u : S1) (H : Heap) (locs : List Loc), zW D tys A s (ws' u) H locs → W p l e R s m args below meth c H locs (cells + mc1) (slots + ms1) Q (F0 m (pc + 3) ls (.int r1 :: rest))) : W p l e R s m args below meth c H locs cells slots Q (F0 m pc ls st0) := by
  obtain ⟨hK, hP, hD, hS, hA⟩ := id hw
  obtain ⟨E, hr, hlocks, ht9, hst9, hT, hSt⟩ := X
  obtain ⟨hb1, hchk⟩ := (Bool.and_eq_true _ _).mp hchk
  obtain ⟨hb2, hchk⟩ := (Bool.and_eq_true _ _).mp hchk
  obtain ⟨hnC, hall⟩ := (Bool.and_eq_true _ _).mp hchk
  have hC := (z_rng_idx ws rsC (by rw [hN]; exact hb1)).trans (by rw [hC])
  have hC1 := fun u => (z_rng_idx (ws' u) rsC (by rw [hN1]; exact hb1)).trans (by rw [hC1])
  have hR := (z_rng_idx ws rsR (by rw [hN]; exact hb2)).trans (by rw [hR])
  have hR1 := fun u => (z_rng_idx (ws' u) rsR (by rw [hN1]; exact hb2)).trans (by rw [hR1])
  have hall : ∀ u, z_covs (z_idx rsC) (z_idx rsR) (ws' u).length = true := fun u => by rw [hN1]; exact hall
  generalize z_idx rsC = isC at hC hC1 hnC hall
  generalize z_idx rsR = isR at hR hR1 hall
  have hPc := z_cut hP isC hC
  have hDc := hD.sub (ws' := wc) isC hnC hC
  have hFc := va_free hD hS hA isC hC
  refine vx_calli (vx_runS (As := As) (rest := rest) E hM cw ⟨zPcX_blind, fun U hU hW => ⟨rfl, by rw [hU], by rw [hU]; exact hPc, va_K.moved hW.alike hK, hDc.weaken (fun _ _ _ _ => trivial), hT.warm hW, hSt.call hS hFc hU hW⟩⟩ rfl hAs hl.1 hst (lv_room hcat) hdg hroom) hS (fun q _ h => hFc q h) hFc (fun q _ h => hFc q h)
    (fun E9 ce q9 u t H1 locs1 ht hvm hp hB hz1 hk1 hS1 hce hcv hcl => ?_) (fun r u t H1 locs1 ht hvm hp hB hz1 hk1 hS1 => ?_)
  · obtain ⟨hE, hB1, hB2, hB3⟩ := hB
    subst hE
    exact kx hp u H1 locs1 q9 ce (z_after hw isC isR hC (hC1 u) hR (hR1 u) (hall u) ht ⟨hB1, hB2, hB3⟩ hk1 hS1) hce hcv hcl
  obtain ⟨hp1, hp2⟩ := hp
  subst hp2
  exact kk hp1 u H1 locs1 (z_after hw isC isR hC (hC1 u) hR (hR1 u) (hall u) ht hB hk1 hS1)
theorem z_callXSv {ret0 : Option FieldType} {S1 : Type} (X : zXE p l s m args meth c cc nL ret0 Ts own A) (hl : lv_has ls nL lvs) (hw : zW D tys A s ws H locs) {y : MethodName} {wsY : List Cond} {rm : Room} {mc1 ms1 n index maxL cd1 : Nat} {As : List Value} {wc wr : va_W} {w1 ws' : S1 → va_W} {bytes : ByteArray} {ret : Option FieldType}
    (hM : vx_Met l y wsY rm (zPcX D tys As wc H.size) (zQvX D tys cd1 w1 (va_A wc H.size)) (zXC D tys cd1 w1 (va_A wc H.size)) mc1 ms1 (va_A wc H.size)) (cw : CallB R s args own index y bytes maxL ret wsY rm mc1 ms1 n ∧ (Cond.static y).before args s = true) (N9 : Nat) (rsC rsR : List (Nat × Nat)) (hN : ws.length = N9) (hN1 : ∀ u, (ws' u).length = N9) (hC : z_rng ws rsC = wc) (hC1 : ∀ u, z_rng (ws' u) rsC = w1 u) (hR : z_rng ws rsR = wr) (hR1 : ∀ u, z_rng (ws' u) rsR = wr) (hchk : z_chk N9 rsC rsR = true)
    (hAs : As.length = n) (hst : st0 = As.reverse ++ rest) (hcat : (rest.map fun v => v.category).sum ≤ 8) (hdg : decode cc pc = .ok (.invokestatic index, 3)) (hroom : cells + mc1 ≤ R.cells ∧ slots + ms1 ≤ R.slots)
    (kx : cd1 ≠ 0 → ∀ (u : S1) (H : Heap) (locs : List Loc) (q : Addr) (ce : Cell), zW D tys A s (ws' u) H locs → H[q]? = some ce → ce.vm = .none → s.vm.findClass (zEx cd1) = some ce.cls → vx_W p l e R s m args below meth c H locs (cells + mc1) (slots + ms1) Q (F0 m pc ls rest) q)
    (kk : cd1 = 0 → ∀ (u : S1) (H : Heap) (locs : List Loc), zW D tys A s (ws' u) H locs → W p l e R s m args below meth c H locs (cells + mc1) (slots + ms1) Q (F0 m (pc + 3) ls (rest))) : W p l e R s m args below meth c H locs cells slots Q (F0 m pc ls st0) := by
  obtain ⟨hK, hP, hD, hS, hA⟩ := id hw
  obtain ⟨E, hr, hlocks, ht9, hst9, hT, hSt⟩ := X
  obtain ⟨hb1, hchk⟩ := (Bool.and_eq_true _ _).mp hchk
  obtain ⟨hb2, hchk⟩ := (Bool.and_eq_true _ _).mp hchk
  obtain ⟨hnC, hall⟩ := (Bool.and_eq_true _ _).mp hchk
  have hC := (z_rng_idx ws rsC (by rw [hN]; exact hb1)).trans (by rw [hC])
  have hC1 := fun u => (z_rng_idx (ws' u) rsC (by rw [hN1]; exact hb1)).trans (by rw [hC1])
  have hR := (z_rng_idx ws rsR (by rw [hN]; exact hb2)).trans (by rw [hR])
  have hR1 := fun u => (z_rng_idx (ws' u) rsR (by rw [hN1]; exact hb2)).trans (by rw [hR1])
  have hall : ∀ u, z_covs (z_idx rsC) (z_idx rsR) (ws' u).length = true := fun u => by rw [hN1]; exact hall
  generalize z_idx rsC = isC at hC hC1 hnC hall
  generalize z_idx rsR = isR at hR hR1 hall
  have hPc := z_cut hP isC hC
  have hDc := hD.sub (ws' := wc) isC hnC hC
  have hFc := va_free hD hS hA isC hC
  refine vx_callv (vx_runS (As := As) (rest := rest) E hM cw ⟨zPcX_blind, fun U hU hW => ⟨rfl, by rw [hU], by rw [hU]; exact hPc, va_K.moved hW.alike hK, hDc.weaken (fun _ _ _ _ => trivial), hT.warm hW, hSt.call hS hFc hU hW⟩⟩ rfl hAs hl.1 hst (lv_room hcat) hdg hroom) hS (fun q _ h => hFc q h) hFc (fun q _ h => hFc q h)
    (fun E9 ce q9 u t H1 locs1 ht hvm hp hB hz1 hk1 hS1 hce hcv hcl => ?_) (fun u t H1 locs1 ht hvm hp hB hz1 hk1 hS1 => ?_)
  · obtain ⟨hE, hB1, hB2, hB3⟩ := hB
    subst hE
    exact kx hp u H1 locs1 q9 ce (z_after hw isC isR hC (hC1 u) hR (hR1 u) (hall u) ht ⟨hB1, hB2, hB3⟩ hk1 hS1) hce hcv hcl
  exact kk hp u H1 locs1 (z_after hw isC isR hC (hC1 u) hR (hR1 u) (hall u) ht hB hk1 hS1)
end ZX
