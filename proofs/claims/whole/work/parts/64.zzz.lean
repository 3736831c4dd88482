/-! A method that throws and reads texts: load. -/
section ZXG
variable {p : Program} {l : Launch} {e : Env} {s : State} {m : MethodId} {args : Array Value} {below : List Frame} {meth : Method} {c : Code} {D : va_G} {tys : List (ClassId × FieldType)} {ws : va_W} {cc : ByteArray} {mc ms : Nat} {adK adV : Nat → Nat}
def zPcXG (D : va_G) (tys : List (ClassId × FieldType)) (av : List Value) (ws : va_W) (sz : Nat) (adK adV : Nat → Nat) : Array Value → State → Prop :=
  va_Pc av (fun U => U.heap.size = sz ∧ va_P D vwCl ws U.heap ∧ va_K D vwCl tys U ∧ va_D (fun _ => True) ws ∧ (zTh U ∧ zSt (va_A ws sz) U U.heap) ∧ zTn U ∧ zLt adK U ∧ zSg adK adV (va_A ws sz) U U.heap)
theorem zPcXG_blind {av : List Value} {sz : Nat} : FrameBlind (zPcXG D tys av ws sz adK adV) := fun a U g mk q => by
  obtain ⟨q0, q1, qP, qK, qD, ⟨qTh, qS⟩, qT, qL, qG⟩ := q
  exact ⟨q0, q1, qP, va_K.moved (u := U) (U := U.calling g mk a) (Vm.Alike.refl U.vm) qK, qD, ⟨qTh.same rfl, vx_Zq.moved (u := U) (U := U.calling g mk a) (Vm.Alike.refl U.vm) qS.1, vx_Zq.moved (u := U) (U := U.calling g mk a) (Vm.Alike.refl U.vm) qS.2⟩, qT.same rfl, qL.same rfl, vk_S.moved (u := U) (U := U.calling g mk a) (Vm.Alike.refl U.vm) qG.1, va_Z.moved (u := U) (U := U.calling g mk a) (Vm.Alike.refl U.vm) qG.2.1, va_Zq.moved (u := U) (U := U.calling g mk a) (Vm.Alike.refl U.vm) qG.2.2⟩
theorem z_metXG {y : MethodName} {wsY ws1 : List Cond} {rm : Room} {av : List Value} {W0 : va_W} {sz : Nat} {Qc : Array Value → State → Outcome → State → Prop} {XC : String → State → State → Prop} {maxL : Nat} {ret : Option FieldType} (hst : l.stackTraces = false) (hy : plainName y.cls = true) (hw : wsY = Cond.code y cc maxL ret :: ws1) (hle : (lg_sl av).length ≤ maxL)
    (body : ∀ (p : Program) (e : Env) (s : State) (m : MethodId) (below : List Frame) (meth : Method) (c : Code) (ls : Array Slot), zXE p l s m av.toArray meth c cc maxL ret wsY y.cls (va_A W0 sz) → zTn s → zLt adK s → zSg adK adV (va_A W0 sz) s s.heap → s.heap.size = sz → zW D tys (va_A W0 sz) s W0 s.heap [] → lv_has ls maxL (lv_args 0 av) →
      W p l e rm s m av.toArray below meth c s.heap [] 0 0 (vx_MQ below Qc XC av.toArray s mc ms (va_A W0 sz)) (F0 m 0 ls [])) : vx_Met l y wsY rm (zPcXG D tys av W0 sz adK adV) Qc XC mc ms (va_A W0 sz) := by
  refine vx_ofW (cc := cc) (maxL := maxL) (ret := ret) hy hw ?_
  intro p e s m args below meth c s₁ B hml ht hv
  obtain ⟨rfl, hsz, hP, hK, hD0, ⟨hTh, hSt⟩, hT, hLt, hG⟩ := hv
  have hl := lv_entry av (n := maxL) hle
  rw [lg_entry_eq]
  refine body p e s m below meth c _ ⟨⟨B.exec, B.bytes, hml, findClass_of_methodNamed B.named, atoms_spec (ws := wsY) B.pre⟩, B.returns, B.notSynchronized, ht, hst, hTh, hSt⟩ hT hLt hG hsz ⟨hK, hP, hD0.self, va_S.rf, fun q h => Or.inr (by rw [← hsz]; exact h)⟩ hl
end ZXG
