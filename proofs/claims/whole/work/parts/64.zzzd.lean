/-! Methods that answer a double. -/
section ZD
variable {p : Program} {l : Launch} {e : Env} {R : Room} {s : State} {m : MethodId} {args : Array Value} {below : List Frame} {meth : Method} {c : Code} {H : Heap} {locs : List Loc} {cells slots : Nat} {Q : State → Prop} {cc : ByteArray} {pc nL : Nat} {ls : Array Slot} {rest : List Value} {D : va_G} {tys : List (ClassId × FieldType)} {ws : va_W} {A : Nat → Prop} {Ts : List Cond} {own : String} {mc ms : Nat}
theorem z_topd {x y : UInt64} (h : y = x) (k : W p l e R s m args below meth c H locs cells slots Q (F0 m pc ls (.double y :: rest))) : W p l e R s m args below meth c H locs cells slots Q (F0 m pc ls (.double x :: rest)) := by subst h; exact k
def zQd (D : va_G) (tys : List (ClassId × FieldType)) (r : UInt64) (ws : va_W) (A : Nat → Prop) : Array Value → State → Outcome → State → Prop :=
  va_Qd (S := Unit) (fun r' _ => r' = r) (fun _ t => va_P D vwCl ws t.heap ∧ va_K D vwCl tys t ∧ va_D A ws) A
def zQdX {S : Type} (D : va_G) (tys : List (ClassId × FieldType)) (cd : Nat) (r : UInt64) (wsf : S → va_W) (A : Nat → Prop) : Array Value → State → Outcome → State → Prop :=
  va_Qd (S := S) (fun r' _ => cd = 0 ∧ r' = r) (fun u t => va_P D vwCl (wsf u) t.heap ∧ va_K D vwCl tys t ∧ va_D A (wsf u)) A
theorem z_dret {ret : Option FieldType} {v : UInt64} (E : zE p s m args meth c cc nL ret Ts own) (hret : ret = some .double) (hw : zW D tys A s ws H locs) (hdg : decode cc pc = .ok (.dreturn, 1)) : W p l e R s m args below meth c H locs cells slots (MQ below (zQd D tys v ws A) args s cells slots A) (F0 m pc ls [.double v]) := by
  obtain ⟨hK, hP, hD, hS, hA⟩ := hw
  obtain ⟨⟨hx, hb, -, -, -⟩, hr, hlocks⟩ := E
  exact W.dret hx hb (hr.trans hret) (fun t ht hW => ⟨⟨v, (), rfl, rfl, by rw [ht]; exact hP, va_K.moved hW.alike hK, hD⟩, hS.F ht⟩) hS.2.2 hdg hlocks
theorem z_dretX {S : Type} {wsf : S → va_W} {r0 : UInt64} {ret : Option FieldType} {XC : String → State → State → Prop} (X : zXE p l s m args meth c cc nL ret Ts own A) (hret : ret = some .double) (hw : zW D tys A s ws H locs) (u : S) (hu : wsf u = ws) (hc : cells ≤ mc) (hs : slots ≤ ms) (hdg : decode cc pc = .ok (.dreturn, 1)) : W p l e R s m args below meth c H locs cells slots (vx_MQ below (zQdX D tys 0 r0 wsf A) XC args s mc ms A) (F0 m pc ls [.double r0]) := by
  obtain ⟨hK, hP, hD, hS, hA⟩ := hw
  obtain ⟨⟨hx, hb, -, -, -⟩, hr, hlocks, -⟩ := X
  subst hu
  refine vx_ret (W.widen hc hs ?_)
  exact W.dret hx hb (hr.trans hret) (fun t ht hW => ⟨⟨r0, u, rfl, ⟨rfl, rfl⟩, by rw [ht]; exact hP, va_K.moved hW.alike hK, hD⟩, hS.F ht⟩) hS.2.2 hdg hlocks
end ZD
