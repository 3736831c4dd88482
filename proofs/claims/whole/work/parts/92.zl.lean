section ZL
variable {p : Program} {l : Launch} {e : Env} {R : Room} {s : State} {m : MethodId} {args : Array Value} {below : List Frame} {meth : Method} {c : Code} {H : Heap} {locs : List Loc} {cells slots : Nat} {Q : State → Prop} {cc : ByteArray} {pc nL a : Nat} {ls : Array Slot} {rest st0 : List Value} {lvs : List (Nat × Value)} {D : va_G} {tys tysC : List (ClassId × FieldType)} {ws ws' : va_W} {A : Nat → Prop} {Ts : List Cond} {own : String} {mc ms : Nat} {adK adV : Nat → Nat} {hh : List (Nat × Nat × Nat × Nat)}
abbrev zTL (cI cZ cM cJ cD : ClassId) : List (ClassId × FieldType) := [(cI, .int), (cZ, .boolean), (cM, .object "StreetMarket$Market"), (cJ, .long), (cD, .double)]
theorem zTL_K {cI cZ cM cJ cD : ClassId} (U : State) (h : va_K D vwCl (zTL cI cZ cM cJ cD) U) : va_K D vwCl (zT cI cZ cM) U := h.sub [0, 1, 2] rfl
/-- which exception is not of another's class -/
def zNc (s : State) : Prop := va_Nc (zEx 2) (zEx 1) s ∧ va_Nc (zEx 3) (zEx 1) s ∧ va_Nc (zEx 3) (zEx 2) s
theorem zNc.moved {u U : State} (hv : u.vm.Alike U.vm) (h : zNc u) : zNc U := ⟨h.1.moved hv, h.2.1.moved hv, h.2.2.moved hv⟩
def zHE (p : Program) (l : Launch) (s : State) (m : MethodId) (args : Array Value) (meth : Method) (c : Code) (cc : ByteArray) (nL : Nat) (ret : Option FieldType) (Ts : List Cond) (own : String) (A : Nat → Prop) (hh : List (Nat × Nat × Nat × Nat)) (adK adV : Nat → Nat) : Prop :=
  CallFix p m c cc nL s args Ts own ∧ meth.sig.returnType = ret ∧ meth.locks = false ∧ c.exceptionTable.toList = tableOf hh ∧ zTh s ∧ zSt A s s.heap ∧ zNc s ∧ zTn s ∧ zLt adK s ∧ zSg adK adV A s s.heap
def zPcH (D : va_G) (tys : List (ClassId × FieldType)) (av : List Value) (ws : va_W) (sz : Nat) (adK adV : Nat → Nat) : Array Value → State → Prop :=
  va_Pc av (fun U => U.heap.size = sz ∧ va_P D vwCl ws U.heap ∧ va_K D vwCl tys U ∧ va_D (fun _ => True) ws ∧ (zTh U ∧ zSt (va_A ws sz) U U.heap ∧ zNc U) ∧ zTn U ∧ zLt adK U ∧ zSg adK adV (va_A ws sz) U U.heap)
theorem zPcH_blind {av : List Value} {sz : Nat} : FrameBlind (zPcH D tys av ws sz adK adV) := fun a U g mk q => by
  obtain ⟨q0, q1, qP, qK, qD, ⟨qTh, qS, qN⟩, qT, qL, qG⟩ := q
  exact ⟨q0, q1, qP, va_K.moved (u := U) (U := U.calling g mk a) (Vm.Alike.refl U.vm) qK, qD, ⟨qTh.same rfl, ⟨vx_Zq.moved (u := U) (U := U.calling g mk a) (Vm.Alike.refl U.vm) qS.1, vx_Zq.moved (u := U) (U := U.calling g mk a) (Vm.Alike.refl U.vm) qS.2⟩, qN.moved (u := U) (U := U.calling g mk a) (Vm.Alike.refl U.vm)⟩, qT.same rfl, qL.same rfl, vk_S.moved (u := U) (U := U.calling g mk a) (Vm.Alike.refl U.vm) qG.1, va_Z.moved (u := U) (U := U.calling g mk a) (Vm.Alike.refl U.vm) qG.2.1, va_Zq.moved (u := U) (U := U.calling g mk a) (Vm.Alike.refl U.vm) qG.2.2⟩
theorem z_metH {y : MethodName} {wsY ws1 : List Cond} {rm : Room} {av : List Value} {W0 : va_W} {sz : Nat} {Qc : Array Value → State → Outcome → State → Prop} {XC : String → State → State → Prop} {maxL : Nat} {ret : Option FieldType} (hy : plainName y.cls = true) (hw : wsY = Cond.codeWith y cc maxL ret hh :: ws1) (hle : (lg_sl av).length ≤ maxL)
    (body : ∀ (p : Program) (e : Env) (s : State) (m : MethodId) (below : List Frame) (meth : Method) (c : Code) (ls : Array Slot), zHE p l s m av.toArray meth c cc maxL ret wsY y.cls (va_A W0 sz) hh adK adV → s.heap.size = sz → zW D tys (va_A W0 sz) s W0 s.heap [] → lv_has ls maxL (lv_args 0 av) →
      W p l e rm s m av.toArray below meth c s.heap [] 0 0 (vx_MQ below Qc XC av.toArray s mc ms (va_A W0 sz)) (F0 m 0 ls [])) : vx_Met l y wsY rm (zPcH D tys av W0 sz adK adV) Qc XC mc ms (va_A W0 sz) := by
  refine vx_ofWH (cc := cc) (maxL := maxL) (ret := ret) hy hw ?_
  intro p e s m args below meth c s₁ B hml hv
  obtain ⟨rfl, hsz, hP, hK, hD0, ⟨hTh, hSt, hNc⟩, hT, hLt, hG⟩ := hv
  have hl := lv_entry av (n := maxL) hle
  have hts := atoms_spec (ws := wsY) B.pre
  have htab := vx_table (x := y) B (hts _ (by rw [hw]; exact List.mem_cons_self))
  rw [lg_entry_eq]
  refine body p e s m below meth c _ ⟨⟨B.exec, B.bytes, hml, findClass_of_methodNamed B.named, hts⟩, B.returns, B.notSynchronized, htab, hTh, hSt, hNc, hT, hLt, hG⟩ hsz ⟨hK, hP, hD0.self, va_S.rf, fun q h => Or.inr (by rw [← hsz]; exact h)⟩ hl
theorem z_iretH {S : Type} {wsf : S → va_W} {r0 : Int32} {ret : Option FieldType} {XC : String → State → State → Prop} (X : zHE p l s m args meth c cc nL ret Ts own A hh adK adV) (hret : ret = some .int) (hw : zW D tys A s ws H locs) (u : S) (hu : wsf u = ws) (hc : cells ≤ mc) (hs : slots ≤ ms) (hdg : decode cc pc = .ok (.ireturn, 1)) : W p l e R s m args below meth c H locs cells slots (vx_MQ below (zQiX D tys 0 r0 wsf A) XC args s mc ms A) (F0 m pc ls [.int r0]) := by
  obtain ⟨hK, hP, hD, hS, hA⟩ := hw
  obtain ⟨⟨hx, hb, -, -, -⟩, hr, hlocks, -⟩ := X
  subst hu
  refine vx_ret (W.widen hc hs ?_)
  exact W.iret hx hb (hr.trans hret) (fun t ht hW => ⟨⟨r0, u, rfl, ⟨rfl, rfl⟩, by rw [ht]; exact hP, va_K.moved hW.alike hK, hD⟩, hS.F ht⟩) hS.2.2 hdg hlocks
theorem z_last (E : CallFix p m c cc nL s args Ts own) (hw : zW D tys A s ws H locs) (q0 t0 : Nat) {cA : ClassId} {n : Nat} {f : Nat → Int64} (ha : ws[q0]? = some (a, .inl (cA, n, .inr (.inl f)))) (ht : tys[t0]? = some (cA, .long)) {i : Int32} {x : Int64} (hin : ¬ (i < 0 ∨ n ≤ i.toNatClampNeg)) (hs : ws.set q0 (a, .inl (cA, n, .inr (.inl (vp_updL f i.toNatClampNeg x)))) = ws') (hdg : decode cc pc = .ok (.lastore, 1))
    (kk : ∀ (H : Heap) (locs : List Loc), zW D tys A s ws' H locs → W p l e R s m args below meth c H locs cells slots Q (F0 m (pc + 1) ls rest)) : W p l e R s m args below meth c H locs cells slots Q (F0 m pc ls (.long x :: .int i :: .ref a :: rest)) := by
  obtain ⟨hK, hP, hD, hS, hA⟩ := hw
  subst hs
  exact va_last E.1 E.2.1 hK hP hD hS q0 t0 ha ht hin hdg (fun H1 l1 h1 h2 h3 => kk H1 l1 ⟨hK, h1, h2, h3, hA⟩)
theorem z_dast (E : CallFix p m c cc nL s args Ts own) (hw : zW D tys A s ws H locs) (q0 t0 : Nat) {cA : ClassId} {n : Nat} {f : Nat → UInt64} (ha : ws[q0]? = some (a, .inl (cA, n, .inr (.inr (.inr (.inl f)))))) (ht : tys[t0]? = some (cA, .double)) {i : Int32} {x : UInt64} (hin : ¬ (i < 0 ∨ n ≤ i.toNatClampNeg)) (hs : ws.set q0 (a, .inl (cA, n, .inr (.inr (.inr (.inl (vf_upd f i.toNatClampNeg x)))))) = ws') (hdg : decode cc pc = .ok (.dastore, 1))
    (kk : ∀ (H : Heap) (locs : List Loc), zW D tys A s ws' H locs → W p l e R s m args below meth c H locs cells slots Q (F0 m (pc + 1) ls rest)) : W p l e R s m args below meth c H locs cells slots Q (F0 m pc ls (.double x :: .int i :: .ref a :: rest)) := by
  obtain ⟨hK, hP, hD, hS, hA⟩ := hw
  subst hs
  exact va_dast E.1 E.2.1 hK hP hD hS q0 t0 ha ht hin hdg (fun H1 l1 h1 h2 h3 => kk H1 l1 ⟨hK, h1, h2, h3, hA⟩)
/-- a word that was told once, told of these arguments -/
theorem zNw {w : Cond} (hw : w.onTables = true) (h : va_Nw w s) : w.before args s = true := va_tabs hw rfl h
theorem z_pass1 {E n1 : String} {x1 : ExceptionTableEntry} (h1 : x1.catchType ≠ 0) (k1 : (Cond.classLink own x1.catchType n1).before args s = true) (c1 : va_Nc E n1 s) : ∀ z ∈ [x1], covers z pc = false ∨ (z.catchType ≠ 0 ∧ ∃ nm : String, (Cond.classLink own z.catchType nm).before args s = true ∧ va_Nc E nm s) := fun z h => by
  cases List.mem_singleton.mp h
  exact Or.inr ⟨h1, n1, k1, c1⟩
theorem z_pass2 {E n1 n2 : String} {x1 x2 : ExceptionTableEntry} (h1 : x1.catchType ≠ 0) (k1 : (Cond.classLink own x1.catchType n1).before args s = true) (c1 : va_Nc E n1 s) (h2 : x2.catchType ≠ 0) (k2 : (Cond.classLink own x2.catchType n2).before args s = true) (c2 : va_Nc E n2 s) : ∀ z ∈ [x1, x2], covers z pc = false ∨ (z.catchType ≠ 0 ∧ ∃ nm : String, (Cond.classLink own z.catchType nm).before args s = true ∧ va_Nc E nm s) := fun z h => by
  rcases List.mem_cons.mp h with h | h
  · cases h
    exact Or.inr ⟨h1, n1, k1, c1⟩
  · cases List.mem_singleton.mp h
    exact Or.inr ⟨h2, n2, k2, c2⟩
theorem z_callYVi {S1 : Type} (E : CallFix p m c cc nL s args Ts own) (hTh : zTh s) (hSt : zSt A s s.heap) (hty : ∀ U, va_K D vwCl tys U → va_K D vwCl tysC U) (hl : lv_has ls nL lvs) (hw : zW D tys A s ws H locs) {y : MethodName} {wsY : List Cond} {rm : Room} {mc1 ms1 n index maxL cd1 : Nat} {As : List Value} {wc wr : va_W} {w1 ws' : S1 → va_W} {bytes : ByteArray} {ret : Option FieldType} {b ci q0 : Nat} {C : String} {T : u_T} {N : Nat} {fs : List Value} {r1 : Int32}
    (hM : vx_Met l y wsY rm (zPcX D tysC (.ref b :: As) wc H.size) (zQiX D tysC cd1 r1 w1 (va_A wc H.size)) (zXC D tysC cd1 w1 (va_A wc H.size)) mc1 ms1 (va_A wc H.size)) (cw : CallW R s args own C index y bytes maxL ret wsY rm mc1 ms1 n) (N9 : Nat) (rsC rsR : List (Nat × Nat)) (hN : ws.length = N9) (hN1 : ∀ u, (ws' u).length = N9) (hC : z_rng ws rsC = wc) (hC1 : ∀ u, z_rng (ws' u) rsC = w1 u) (hR : z_rng ws rsR = wr) (hR1 : ∀ u, z_rng (ws' u) rsR = wr) (hchk : z_chk N9 rsC rsR = true)
    (hci : vwCl[ci]? = some (C, T, N)) (hq : wc[q0]? = some (b, .inr (ci, fs))) (hAs : As.length = n) (hst : st0 = As.reverse ++ .ref b :: rest) (hcat : (rest.map fun v => v.category).sum ≤ 8) (hdg : decode cc pc = .ok (.invokevirtual index, 3)) (hroom : cells + mc1 ≤ R.cells ∧ slots + ms1 ≤ R.slots)
    (kx : cd1 ≠ 0 → ∀ (u : S1) (H : Heap) (locs : List Loc) (q : Addr) (ce : Cell), zW D tys A s (ws' u) H locs → H[q]? = some ce → ce.vm = .none → s.vm.findClass (zEx cd1) = some ce.cls → vx_W p l e R s m args below meth c H locs (cells + mc1) (slots + ms1) Q (F0 m pc ls rest) q)
    (kk : cd1 = 0 → ∀ (u : S1) (H : Heap) (locs : List Loc), zW D tys A s (ws' u) H locs → W p l e R s m args below meth c H locs (cells + mc1) (slots + ms1) Q (F0 m (pc + 3) ls (.int r1 :: rest))) : W p l e R s m args below meth c H locs cells slots Q (F0 m pc ls st0) := by
  obtain ⟨hK, hP, hD, hS, hA⟩ := id hw
  obtain ⟨hb1, hchk⟩ := (Bool.and_eq_true _ _).mp hchk
  obtain ⟨hb2, hchk⟩ := (Bool.and_eq_true _ _).mp hchk
  obtain ⟨hnC, hall⟩ := (Bool.and_eq_true _ _).mp hchk
  have hC := (z_rng_idx ws rsC (by rw [hN]; exact hb1)).trans (by rw [hC])
  have hC1 := fun u => (z_rng_idx (ws' u) rsC (by rw [hN1]; exact hb1)).trans (by rw [hC1])
  have hR := (z_rng_idx ws rsR (by rw [hN]; exact hb2)).trans (by rw [hR])
  have hR1 := fun u => (z_rng_idx (ws' u) rsR (by rw [hN1]; exact hb2)).trans (by rw [hR1])
  have hall : ∀ u, z_covs (z_idx rsC) (z_idx rsR) (ws' u).length = true := fun u => by rw [hN1]; exact hall
  generalize z_idx rsC = isC at hC hC1 hnC hall
  generalize z_idx rsR = isR at hR hR1 hall
  have hPc := z_cut hP isC hC
  have hDc := hD.sub (ws' := wc) isC hnC hC
  have hFc := va_free hD hS hA isC hC
  refine vx_calli (vx_runV (As := As) (rest := rest) E hM cw ⟨zPcX_blind, va_recv hK hPc hci hq, fun U hU hW => ⟨rfl, by rw [hU], by rw [hU]; exact hPc, hty _ (va_K.moved hW.alike hK), hDc.weaken (fun _ _ _ _ => trivial), hTh.warm hW, hSt.call hS hFc hU hW⟩⟩ rfl hAs hl.1 hst (lv_room hcat) hdg hroom) hS (fun q _ h => hFc q h) hFc (fun q _ h => hFc q h)
    (fun E9 ce q9 u t H1 locs1 ht hvm hp hB hz1 hk1 hS1 hce hcv hcl => ?_) (fun r u t H1 locs1 ht hvm hp hB hz1 hk1 hS1 => ?_)
  · obtain ⟨hE, hB1, hB2, hB3⟩ := hB
    subst hE
    exact kx hp u H1 locs1 q9 ce (z_after hw isC isR hC (hC1 u) hR (hR1 u) (hall u) ht ⟨hB1, va_K.moved hvm hK, hB3⟩ hk1 hS1) hce hcv hcl
  obtain ⟨hp1, hp2⟩ := hp
  subst hp2
  exact kk hp1 u H1 locs1 (z_after hw isC isR hC (hC1 u) hR (hR1 u) (hall u) ht ⟨hB.1, va_K.moved hvm hK, hB.2.2⟩ hk1 hS1)
theorem z_callYVv {S1 : Type} (E : CallFix p m c cc nL s args Ts own) (hTh : zTh s) (hSt : zSt A s s.heap) (hty : ∀ U, va_K D vwCl tys U → va_K D vwCl tysC U) (hl : lv_has ls nL lvs) (hw : zW D tys A s ws H locs) {y : MethodName} {wsY : List Cond} {rm : Room} {mc1 ms1 n index maxL cd1 : Nat} {As : List Value} {wc wr : va_W} {w1 ws' : S1 → va_W} {bytes : ByteArray} {ret : Option FieldType} {b ci q0 : Nat} {C : String} {T : u_T} {N : Nat} {fs : List Value}
    (hM : vx_Met l y wsY rm (zPcX D tysC (.ref b :: As) wc H.size) (zQvX D tysC cd1 w1 (va_A wc H.size)) (zXC D tysC cd1 w1 (va_A wc H.size)) mc1 ms1 (va_A wc H.size)) (cw : CallW R s args own C index y bytes maxL ret wsY rm mc1 ms1 n) (N9 : Nat) (rsC rsR : List (Nat × Nat)) (hN : ws.length = N9) (hN1 : ∀ u, (ws' u).length = N9) (hC : z_rng ws rsC = wc) (hC1 : ∀ u, z_rng (ws' u) rsC = w1 u) (hR : z_rng ws rsR = wr) (hR1 : ∀ u, z_rng (ws' u) rsR = wr) (hchk : z_chk N9 rsC rsR = true)
    (hci : vwCl[ci]? = some (C, T, N)) (hq : wc[q0]? = some (b, .inr (ci, fs))) (hAs : As.length = n) (hst : st0 = As.reverse ++ .ref b :: rest) (hcat : (rest.map fun v => v.category).sum ≤ 8) (hdg : decode cc pc = .ok (.invokevirtual index, 3)) (hroom : cells + mc1 ≤ R.cells ∧ slots + ms1 ≤ R.slots)
    (kx : cd1 ≠ 0 → ∀ (u : S1) (H : Heap) (locs : List Loc) (q : Addr) (ce : Cell), zW D tys A s (ws' u) H locs → H[q]? = some ce → ce.vm = .none → s.vm.findClass (zEx cd1) = some ce.cls → vx_W p l e R s m args below meth c H locs (cells + mc1) (slots + ms1) Q (F0 m pc ls rest) q)
    (kk : cd1 = 0 → ∀ (u : S1) (H : Heap) (locs : List Loc), zW D tys A s (ws' u) H locs → W p l e R s m args below meth c H locs (cells + mc1) (slots + ms1) Q (F0 m (pc + 3) ls (rest))) : W p l e R s m args below meth c H locs cells slots Q (F0 m pc ls st0) := by
  obtain ⟨hK, hP, hD, hS, hA⟩ := id hw
  obtain ⟨hb1, hchk⟩ := (Bool.and_eq_true _ _).mp hchk
  obtain ⟨hb2, hchk⟩ := (Bool.and_eq_true _ _).mp hchk
  obtain ⟨hnC, hall⟩ := (Bool.and_eq_true _ _).mp hchk
  have hC := (z_rng_idx ws rsC (by rw [hN]; exact hb1)).trans (by rw [hC])
  have hC1 := fun u => (z_rng_idx (ws' u) rsC (by rw [hN1]; exact hb1)).trans (by rw [hC1])
  have hR := (z_rng_idx ws rsR (by rw [hN]; exact hb2)).trans (by rw [hR])
  have hR1 := fun u => (z_rng_idx (ws' u) rsR (by rw [hN1]; exact hb2)).trans (by rw [hR1])
  have hall : ∀ u, z_covs (z_idx rsC) (z_idx rsR) (ws' u).length = true := fun u => by rw [hN1]; exact hall
  generalize z_idx rsC = isC at hC hC1 hnC hall
  generalize z_idx rsR = isR at hR hR1 hall
  have hPc := z_cut hP isC hC
  have hDc := hD.sub (ws' := wc) isC hnC hC
  have hFc := va_free hD hS hA isC hC
  refine vx_callv (vx_runV (As := As) (rest := rest) E hM cw ⟨zPcX_blind, va_recv hK hPc hci hq, fun U hU hW => ⟨rfl, by rw [hU], by rw [hU]; exact hPc, hty _ (va_K.moved hW.alike hK), hDc.weaken (fun _ _ _ _ => trivial), hTh.warm hW, hSt.call hS hFc hU hW⟩⟩ rfl hAs hl.1 hst (lv_room hcat) hdg hroom) hS (fun q _ h => hFc q h) hFc (fun q _ h => hFc q h)
    (fun E9 ce q9 u t H1 locs1 ht hvm hp hB hz1 hk1 hS1 hce hcv hcl => ?_) (fun u t H1 locs1 ht hvm hp hB hz1 hk1 hS1 => ?_)
  · obtain ⟨hE, hB1, hB2, hB3⟩ := hB
    subst hE
    exact kx hp u H1 locs1 q9 ce (z_after hw isC isR hC (hC1 u) hR (hR1 u) (hall u) ht ⟨hB1, va_K.moved hvm hK, hB3⟩ hk1 hS1) hce hcv hcl
  exact kk hp u H1 locs1 (z_after hw isC isR hC (hC1 u) hR (hR1 u) (hall u) ht ⟨hB.1, va_K.moved hvm hK, hB.2.2⟩ hk1 hS1)
theorem z_callYVd {S1 : Type} (E : CallFix p m c cc nL s args Ts own) (hTh : zTh s) (hSt : zSt A s s.heap) (hty : ∀ U, va_K D vwCl tys U → va_K D vwCl tysC U) (hl : lv_has ls nL lvs) (hw : zW D tys A s ws H locs) {y : MethodName} {wsY : List Cond} {rm : Room} {mc1 ms1 n index maxL cd1 : Nat} {As : List Value} {wc wr : va_W} {w1 ws' : S1 → va_W} {bytes : ByteArray} {ret : Option FieldType} {b ci q0 : Nat} {C : String} {T : u_T} {N : Nat} {fs : List Value} {r1 : UInt64}
    (hM : vx_Met l y wsY rm (zPcX D tysC (.ref b :: As) wc H.size) (zQdX D tysC cd1 r1 w1 (va_A wc H.size)) (zXC D tysC cd1 w1 (va_A wc H.size)) mc1 ms1 (va_A wc H.size)) (cw : CallW R s args own C index y bytes maxL ret wsY rm mc1 ms1 n) (N9 : Nat) (rsC rsR : List (Nat × Nat)) (hN : ws.length = N9) (hN1 : ∀ u, (ws' u).length = N9) (hC : z_rng ws rsC = wc) (hC1 : ∀ u, z_rng (ws' u) rsC = w1 u) (hR : z_rng ws rsR = wr) (hR1 : ∀ u, z_rng (ws' u) rsR = wr) (hchk : z_chk N9 rsC rsR = true)
    (hci : vwCl[ci]? = some (C, T, N)) (hq : wc[q0]? = some (b, .inr (ci, fs))) (hAs : As.length = n) (hst : st0 = As.reverse ++ .ref b :: rest) (hcat : (rest.map fun v => v.category).sum ≤ 8) (hdg : decode cc pc = .ok (.invokevirtual index, 3)) (hroom : cells + mc1 ≤ R.cells ∧ slots + ms1 ≤ R.slots)
    (kx : cd1 ≠ 0 → ∀ (u : S1) (H : Heap) (locs : List Loc) (q : Addr) (ce : Cell), zW D tys A s (ws' u) H locs → H[q]? = some ce → ce.vm = .none → s.vm.findClass (zEx cd1) = some ce.cls → vx_W p l e R s m args below meth c H locs (cells + mc1) (slots + ms1) Q (F0 m pc ls rest) q)
    (kk : cd1 = 0 → ∀ (u : S1) (H : Heap) (locs : List Loc), zW D tys A s (ws' u) H locs → W p l e R s m args below meth c H locs (cells + mc1) (slots + ms1) Q (F0 m (pc + 3) ls (.double r1 :: rest))) : W p l e R s m args below meth c H locs cells slots Q (F0 m pc ls st0) := by
  obtain ⟨hK, hP, hD, hS, hA⟩ := id hw
  obtain ⟨hb1, hchk⟩ := (Bool.and_eq_true _ _).mp hchk
  obtain ⟨hb2, hchk⟩ := (Bool.and_eq_true _ _).mp hchk
  obtain ⟨hnC, hall⟩ := (Bool.and_eq_true _ _).mp hchk
  have hC := (z_rng_idx ws rsC (by rw [hN]; exact hb1)).trans (by rw [hC])
  have hC1 := fun u => (z_rng_idx (ws' u) rsC (by rw [hN1]; exact hb1)).trans (by rw [hC1])
  have hR := (z_rng_idx ws rsR (by rw [hN]; exact hb2)).trans (by rw [hR])
  have hR1 := fun u => (z_rng_idx (ws' u) rsR (by rw [hN1]; exact hb2)).trans (by rw [hR1])
  have hall : ∀ u, z_covs (z_idx rsC) (z_idx rsR) (ws' u).length = true := fun u => by rw [hN1]; exact hall
  generalize z_idx rsC = isC at hC hC1 hnC hall
  generalize z_idx rsR = isR at hR hR1 hall
  have hPc := z_cut hP isC hC
  have hDc := hD.sub (ws' := wc) isC hnC hC
  have hFc := va_free hD hS hA isC hC
  refine vx_calld (vx_runV (As := As) (rest := rest) E hM cw ⟨zPcX_blind, va_recv hK hPc hci hq, fun U hU hW => ⟨rfl, by rw [hU], by rw [hU]; exact hPc, hty _ (va_K.moved hW.alike hK), hDc.weaken (fun _ _ _ _ => trivial), hTh.warm hW, hSt.call hS hFc hU hW⟩⟩ rfl hAs hl.1 hst (lv_room hcat) hdg hroom) hS (fun q _ h => hFc q h) hFc (fun q _ h => hFc q h)
    (fun E9 ce q9 u t H1 locs1 ht hvm hp hB hz1 hk1 hS1 hce hcv hcl => ?_) (fun r u t H1 locs1 ht hvm hp hB hz1 hk1 hS1 => ?_)
  · obtain ⟨hE, hB1, hB2, hB3⟩ := hB
    subst hE
    exact kx hp u H1 locs1 q9 ce (z_after hw isC isR hC (hC1 u) hR (hR1 u) (hall u) ht ⟨hB1, va_K.moved hvm hK, hB3⟩ hk1 hS1) hce hcv hcl
  obtain ⟨hp1, hp2⟩ := hp
  subst hp2
  exact kk hp1 u H1 locs1 (z_after hw isC isR hC (hC1 u) hR (hR1 u) (hall u) ht ⟨hB.1, va_K.moved hvm hK, hB.2.2⟩ hk1 hS1)
theorem z_callYGVi {S1 : Type} (E : CallFix p m c cc nL s args Ts own) (hTh : zTh s) (hSt : zSt A s s.heap) (hT : zTn s) (hLt : zLt adK s) (hG : zSg adK adV A s s.heap) (hty : ∀ U, va_K D vwCl tys U → va_K D vwCl tysC U) (hl : lv_has ls nL lvs) (hw : zW D tys A s ws H locs) {y : MethodName} {wsY : List Cond} {rm : Room} {mc1 ms1 n index maxL cd1 : Nat} {As : List Value} {wc wr : va_W} {w1 ws' : S1 → va_W} {bytes : ByteArray} {ret : Option FieldType} {b ci q0 : Nat} {C : String} {T : u_T} {N : Nat} {fs : List Value} {r1 : Int32}
    (hM : vx_Met l y wsY rm (zPcXG D tysC (.ref b :: As) wc H.size adK adV) (zQiX D tysC cd1 r1 w1 (va_A wc H.size)) (zXC D tysC cd1 w1 (va_A wc H.size)) mc1 ms1 (va_A wc H.size)) (cw : CallW R s args own C index y bytes maxL ret wsY rm mc1 ms1 n) (N9 : Nat) (rsC rsR : List (Nat × Nat)) (hN : ws.length = N9) (hN1 : ∀ u, (ws' u).length = N9) (hC : z_rng ws rsC = wc) (hC1 : ∀ u, z_rng (ws' u) rsC = w1 u) (hR : z_rng ws rsR = wr) (hR1 : ∀ u, z_rng (ws' u) rsR = wr) (hchk : z_chk N9 rsC rsR = true)
    (hci : vwCl[ci]? = some (C, T, N)) (hq : wc[q0]? = some (b, .inr (ci, fs))) (hAs : As.length = n) (hst : st0 = As.reverse ++ .ref b :: rest) (hcat : (rest.map fun v => v.category).sum ≤ 8) (hdg : decode cc pc = .ok (.invokevirtual index, 3)) (hroom : cells + mc1 ≤ R.cells ∧ slots + ms1 ≤ R.slots)
    (kx : cd1 ≠ 0 → ∀ (u : S1) (H : Heap) (locs : List Loc) (q : Addr) (ce : Cell), zW D tys A s (ws' u) H locs → H[q]? = some ce → ce.vm = .none → s.vm.findClass (zEx cd1) = some ce.cls → vx_W p l e R s m args below meth c H locs (cells + mc1) (slots + ms1) Q (F0 m pc ls rest) q)
    (kk : cd1 = 0 → ∀ (u : S1) (H : Heap) (locs : List Loc), zW D tys A s (ws' u) H locs → W p l e R s m args below meth c H locs (cells + mc1) (slots + ms1) Q (F0 m (pc + 3) ls (.int r1 :: rest))) : W p l e R s m args below meth c H locs cells slots Q (F0 m pc ls st0) := by
  obtain ⟨hK, hP, hD, hS, hA⟩ := id hw
  obtain ⟨hb1, hchk⟩ := (Bool.and_eq_true _ _).mp hchk
  obtain ⟨hb2, hchk⟩ := (Bool.and_eq_true _ _).mp hchk
  obtain ⟨hnC, hall⟩ := (Bool.and_eq_true _ _).mp hchk
  have hC := (z_rng_idx ws rsC (by rw [hN]; exact hb1)).trans (by rw [hC])
  have hC1 := fun u => (z_rng_idx (ws' u) rsC (by rw [hN1]; exact hb1)).trans (by rw [hC1])
  have hR := (z_rng_idx ws rsR (by rw [hN]; exact hb2)).trans (by rw [hR])
  have hR1 := fun u => (z_rng_idx (ws' u) rsR (by rw [hN1]; exact hb2)).trans (by rw [hR1])
  have hall : ∀ u, z_covs (z_idx rsC) (z_idx rsR) (ws' u).length = true := fun u => by rw [hN1]; exact hall
  generalize z_idx rsC = isC at hC hC1 hnC hall
  generalize z_idx rsR = isR at hR hR1 hall
  have hPc := z_cut hP isC hC
  have hDc := hD.sub (ws' := wc) isC hnC hC
  have hFc := va_free hD hS hA isC hC
  refine vx_calli (vx_runV (As := As) (rest := rest) E hM cw ⟨zPcXG_blind, va_recv hK hPc hci hq, fun U hU hW => ⟨rfl, by rw [hU], by rw [hU]; exact hPc, hty _ (va_K.moved hW.alike hK), hDc.weaken (fun _ _ _ _ => trivial), ⟨hTh.warm hW, hSt.call hS hFc hU hW⟩, hT.warm hW, hLt.warm hW, hG.call hS hFc hU hW.alike⟩⟩ rfl hAs hl.1 hst (lv_room hcat) hdg hroom) hS (fun q _ h => hFc q h) hFc (fun q _ h => hFc q h)
    (fun E9 ce q9 u t H1 locs1 ht hvm hp hB hz1 hk1 hS1 hce hcv hcl => ?_) (fun r u t H1 locs1 ht hvm hp hB hz1 hk1 hS1 => ?_)
  · obtain ⟨hE, hB1, hB2, hB3⟩ := hB
    subst hE
    exact kx hp u H1 locs1 q9 ce (z_after hw isC isR hC (hC1 u) hR (hR1 u) (hall u) ht ⟨hB1, va_K.moved hvm hK, hB3⟩ hk1 hS1) hce hcv hcl
  obtain ⟨hp1, hp2⟩ := hp
  subst hp2
  exact kk hp1 u H1 locs1 (z_after hw isC isR hC (hC1 u) hR (hR1 u) (hall u) ht ⟨hB.1, va_K.moved hvm hK, hB.2.2⟩ hk1 hS1)
theorem z_callMVi (E : CallFix p m c cc nL s args Ts own) (hty : ∀ U, va_K D vwCl tys U → va_K D vwCl tysC U) (hl : lv_has ls nL lvs) (hw : zW D tys A s ws H locs) {y : MethodName} {wsY : List Cond} {rm : Room} {mc1 ms1 n index maxL : Nat} {As : List Value} {wc w1 wr : va_W} {bytes : ByteArray} {ret : Option FieldType} {b ci q0 : Nat} {C : String} {T : u_T} {N : Nat} {fs : List Value} {r1 : Int32}
    (hM : Met l y wsY rm (zPc D tysC (.ref b :: As) wc H.size) (zQi D tysC r1 w1 (va_A wc H.size)) mc1 ms1 (va_A wc H.size)) (cw : CallW R s args own C index y bytes maxL ret wsY rm mc1 ms1 n) (N9 : Nat) (rsC rsR : List (Nat × Nat)) (hN : ws.length = N9) (hN1 : ws'.length = N9) (hC : z_rng ws rsC = wc) (hC1 : z_rng ws' rsC = w1) (hR : z_rng ws rsR = wr) (hR1 : z_rng ws' rsR = wr) (hchk : z_chk N9 rsC rsR = true)
    (hci : vwCl[ci]? = some (C, T, N)) (hq : wc[q0]? = some (b, .inr (ci, fs))) (hAs : As.length = n) (hst : st0 = As.reverse ++ .ref b :: rest) (hcat : (rest.map fun v => v.category).sum ≤ 8) (hdg : decode cc pc = .ok (.invokevirtual index, 3)) (hroom : cells + mc1 ≤ R.cells ∧ slots + ms1 ≤ R.slots)
    (kk : ∀ (H : Heap) (locs : List Loc), zW D tys A s ws' H locs → W p l e R s m args below meth c H locs (cells + mc1) (slots + ms1) Q (F0 m (pc + 3) ls (.int r1 :: rest))) : W p l e R s m args below meth c H locs cells slots Q (F0 m pc ls st0) := by
  obtain ⟨hK, hP, hD, hS, hA⟩ := id hw
  obtain ⟨hb1, hchk⟩ := (Bool.and_eq_true _ _).mp hchk
  obtain ⟨hb2, hchk⟩ := (Bool.and_eq_true _ _).mp hchk
  obtain ⟨hnC, hall⟩ := (Bool.and_eq_true _ _).mp hchk
  have hC := (z_rng_idx ws rsC (by rw [hN]; exact hb1)).trans (by rw [hC])
  have hC1 := (z_rng_idx ws' rsC (by rw [hN1]; exact hb1)).trans (by rw [hC1])
  have hR := (z_rng_idx ws rsR (by rw [hN]; exact hb2)).trans (by rw [hR])
  have hR1 := (z_rng_idx ws' rsR (by rw [hN1]; exact hb2)).trans (by rw [hR1])
  rw [← hN1] at hall
  generalize z_idx rsC = isC at hC hC1 hnC hall
  generalize z_idx rsR = isR at hR hR1 hall
  have hPc := z_cut hP isC hC
  have hDc := hD.sub (ws' := wc) isC hnC hC
  have hFc := va_free hD hS hA isC hC
  refine va_calli (va_runV (As := As) (rest := rest) E hM cw ⟨zPc_blind, va_recv hK hPc hci hq, fun U hU hW => ⟨rfl, by rw [hU], by rw [hU]; exact hPc, hty _ (va_K.moved hW.alike hK), hDc.weaken (fun _ _ _ _ => trivial)⟩⟩ rfl hAs hl.1 hst (lv_room hcat) hdg hroom) hS (fun q _ h => hFc q h) hFc (fun r u t H1 locs1 ht hvm hp hB hz1 hk1 hS1 => ?_)
  cases hp
  exact kk H1 locs1 (z_after hw isC isR hC hC1 hR hR1 hall ht ⟨hB.1, va_K.moved hvm hK, hB.2.2⟩ hk1 hS1)
theorem z_callMVv (E : CallFix p m c cc nL s args Ts own) (hty : ∀ U, va_K D vwCl tys U → va_K D vwCl tysC U) (hl : lv_has ls nL lvs) (hw : zW D tys A s ws H locs) {y : MethodName} {wsY : List Cond} {rm : Room} {mc1 ms1 n index maxL : Nat} {As : List Value} {wc w1 wr : va_W} {bytes : ByteArray} {ret : Option FieldType} {b ci q0 : Nat} {C : String} {T : u_T} {N : Nat} {fs : List Value}
    (hM : Met l y wsY rm (zPc D tysC (.ref b :: As) wc H.size) (zQv D tysC w1 (va_A wc H.size)) mc1 ms1 (va_A wc H.size)) (cw : CallW R s args own C index y bytes maxL ret wsY rm mc1 ms1 n) (N9 : Nat) (rsC rsR : List (Nat × Nat)) (hN : ws.length = N9) (hN1 : ws'.length = N9) (hC : z_rng ws rsC = wc) (hC1 : z_rng ws' rsC = w1) (hR : z_rng ws rsR = wr) (hR1 : z_rng ws' rsR = wr) (hchk : z_chk N9 rsC rsR = true)
    (hci : vwCl[ci]? = some (C, T, N)) (hq : wc[q0]? = some (b, .inr (ci, fs))) (hAs : As.length = n) (hst : st0 = As.reverse ++ .ref b :: rest) (hcat : (rest.map fun v => v.category).sum ≤ 8) (hdg : decode cc pc = .ok (.invokevirtual index, 3)) (hroom : cells + mc1 ≤ R.cells ∧ slots + ms1 ≤ R.slots)
    (kk : ∀ (H : Heap) (locs : List Loc), zW D tys A s ws' H locs → W p l e R s m args below meth c H locs (cells + mc1) (slots + ms1) Q (F0 m (pc + 3) ls (rest))) : W p l e R s m args below meth c H locs cells slots Q (F0 m pc ls st0) := by
  obtain ⟨hK, hP, hD, hS, hA⟩ := id hw
  obtain ⟨hb1, hchk⟩ := (Bool.and_eq_true _ _).mp hchk
  obtain ⟨hb2, hchk⟩ := (Bool.and_eq_true _ _).mp hchk
  obtain ⟨hnC, hall⟩ := (Bool.and_eq_true _ _).mp hchk
  have hC := (z_rng_idx ws rsC (by rw [hN]; exact hb1)).trans (by rw [hC])
  have hC1 := (z_rng_idx ws' rsC (by rw [hN1]; exact hb1)).trans (by rw [hC1])
  have hR := (z_rng_idx ws rsR (by rw [hN]; exact hb2)).trans (by rw [hR])
  have hR1 := (z_rng_idx ws' rsR (by rw [hN1]; exact hb2)).trans (by rw [hR1])
  rw [← hN1] at hall
  generalize z_idx rsC = isC at hC hC1 hnC hall
  generalize z_idx rsR = isR at hR hR1 hall
  have hPc := z_cut hP isC hC
  have hDc := hD.sub (ws' := wc) isC hnC hC
  have hFc := va_free hD hS hA isC hC
  refine va_callv (va_runV (As := As) (rest := rest) E hM cw ⟨zPc_blind, va_recv hK hPc hci hq, fun U hU hW => ⟨rfl, by rw [hU], by rw [hU]; exact hPc, hty _ (va_K.moved hW.alike hK), hDc.weaken (fun _ _ _ _ => trivial)⟩⟩ rfl hAs hl.1 hst (lv_room hcat) hdg hroom) hS (fun q _ h => hFc q h) hFc (fun u t H1 locs1 ht hvm hp hB hz1 hk1 hS1 => ?_)
  exact kk H1 locs1 (z_after hw isC isR hC hC1 hR hR1 hall ht ⟨hB.1, va_K.moved hvm hK, hB.2.2⟩ hk1 hS1)
theorem z_callMVd (E : CallFix p m c cc nL s args Ts own) (hty : ∀ U, va_K D vwCl tys U → va_K D vwCl tysC U) (hl : lv_has ls nL lvs) (hw : zW D tys A s ws H locs) {y : MethodName} {wsY : List Cond} {rm : Room} {mc1 ms1 n index maxL : Nat} {As : List Value} {wc w1 wr : va_W} {bytes : ByteArray} {ret : Option FieldType} {b ci q0 : Nat} {C : String} {T : u_T} {N : Nat} {fs : List Value} {r1 : UInt64}
    (hM : Met l y wsY rm (zPc D tysC (.ref b :: As) wc H.size) (zQd D tysC r1 w1 (va_A wc H.size)) mc1 ms1 (va_A wc H.size)) (cw : CallW R s args own C index y bytes maxL ret wsY rm mc1 ms1 n) (N9 : Nat) (rsC rsR : List (Nat × Nat)) (hN : ws.length = N9) (hN1 : ws'.length = N9) (hC : z_rng ws rsC = wc) (hC1 : z_rng ws' rsC = w1) (hR : z_rng ws rsR = wr) (hR1 : z_rng ws' rsR = wr) (hchk : z_chk N9 rsC rsR = true)
    (hci : vwCl[ci]? = some (C, T, N)) (hq : wc[q0]? = some (b, .inr (ci, fs))) (hAs : As.length = n) (hst : st0 = As.reverse ++ .ref b :: rest) (hcat : (rest.map fun v => v.category).sum ≤ 8) (hdg : decode cc pc = .ok (.invokevirtual index, 3)) (hroom : cells + mc1 ≤ R.cells ∧ slots + ms1 ≤ R.slots)
    (kk : ∀ (H : Heap) (locs : List Loc), zW D tys A s ws' H locs → W p l e R s m args below meth c H locs (cells + mc1) (slots + ms1) Q (F0 m (pc + 3) ls (.double r1 :: rest))) : W p l e R s m args below meth c H locs cells slots Q (F0 m pc ls st0) := by
  obtain ⟨hK, hP, hD, hS, hA⟩ := id hw
  obtain ⟨hb1, hchk⟩ := (Bool.and_eq_true _ _).mp hchk
  obtain ⟨hb2, hchk⟩ := (Bool.and_eq_true _ _).mp hchk
  obtain ⟨hnC, hall⟩ := (Bool.and_eq_true _ _).mp hchk
  have hC := (z_rng_idx ws rsC (by rw [hN]; exact hb1)).trans (by rw [hC])
  have hC1 := (z_rng_idx ws' rsC (by rw [hN1]; exact hb1)).trans (by rw [hC1])
  have hR := (z_rng_idx ws rsR (by rw [hN]; exact hb2)).trans (by rw [hR])
  have hR1 := (z_rng_idx ws' rsR (by rw [hN1]; exact hb2)).trans (by rw [hR1])
  rw [← hN1] at hall
  generalize z_idx rsC = isC at hC hC1 hnC hall
  generalize z_idx rsR = isR at hR hR1 hall
  have hPc := z_cut hP isC hC
  have hDc := hD.sub (ws' := wc) isC hnC hC
  have hFc := va_free hD hS hA isC hC
  refine va_calld (va_runV (As := As) (rest := rest) E hM cw ⟨zPc_blind, va_recv hK hPc hci hq, fun U hU hW => ⟨rfl, by rw [hU], by rw [hU]; exact hPc, hty _ (va_K.moved hW.alike hK), hDc.weaken (fun _ _ _ _ => trivial)⟩⟩ rfl hAs hl.1 hst (lv_room hcat) hdg hroom) hS (fun q _ h => hFc q h) hFc (fun r u t H1 locs1 ht hvm hp hB hz1 hk1 hS1 => ?_)
  cases hp
  exact kk H1 locs1 (z_after hw isC isR hC hC1 hR hR1 hall ht ⟨hB.1, va_K.moved hvm hK, hB.2.2⟩ hk1 hS1)
theorem z_callHSi {S1 : Type} (E : CallFix p m c cc nL s args Ts own) (hTh : zTh s) (hSt : zSt A s s.heap) (hNc : zNc s) (hT : zTn s) (hLt : zLt adK s) (hG : zSg adK adV A s s.heap) (hl : lv_has ls nL lvs) (hw : zW D tys A s ws H locs) {y : MethodName} {wsY : List Cond} {rm : Room} {mc1 ms1 n index maxL : Nat} {As : List Value} {wc wr : va_W} {w1 ws' : S1 → va_W} {bytes : ByteArray} {ret : Option FieldType} {r1 : Int32}
    (hM : vx_Met l y wsY rm (zPcH D tys As wc H.size adK adV) (zQiX D tys 0 r1 w1 (va_A wc H.size)) (zXC D tys 0 w1 (va_A wc H.size)) mc1 ms1 (va_A wc H.size)) (cw : vx_CSW R s args own index y bytes maxL ret hh wsY rm mc1 ms1 n) (N9 : Nat) (rsC rsR : List (Nat × Nat)) (hN : ws.length = N9) (hN1 : ∀ u, (ws' u).length = N9) (hC : z_rng ws rsC = wc) (hC1 : ∀ u, z_rng (ws' u) rsC = w1 u) (hR : z_rng ws rsR = wr) (hR1 : ∀ u, z_rng (ws' u) rsR = wr) (hchk : z_chk N9 rsC rsR = true)
    (hAs : As.length = n) (hst : st0 = As.reverse ++ rest) (hcat : (rest.map fun v => v.category).sum ≤ 8) (hdg : decode cc pc = .ok (.invokestatic index, 3)) (hroom : cells + mc1 ≤ R.cells ∧ slots + ms1 ≤ R.slots)
    (kk : ∀ (u : S1) (H : Heap) (locs : List Loc), zW D tys A s (ws' u) H locs → W p l e R s m args below meth c H locs (cells + mc1) (slots + ms1) Q (F0 m (pc + 3) ls (.int r1 :: rest))) : W p l e R s m args below meth c H locs cells slots Q (F0 m pc ls st0) := by
  obtain ⟨hK, hP, hD, hS, hA⟩ := id hw
  obtain ⟨hb1, hchk⟩ := (Bool.and_eq_true _ _).mp hchk
  obtain ⟨hb2, hchk⟩ := (Bool.and_eq_true _ _).mp hchk
  obtain ⟨hnC, hall⟩ := (Bool.and_eq_true _ _).mp hchk
  have hC := (z_rng_idx ws rsC (by rw [hN]; exact hb1)).trans (by rw [hC])
  have hC1 := fun u => (z_rng_idx (ws' u) rsC (by rw [hN1]; exact hb1)).trans (by rw [hC1])
  have hR := (z_rng_idx ws rsR (by rw [hN]; exact hb2)).trans (by rw [hR])
  have hR1 := fun u => (z_rng_idx (ws' u) rsR (by rw [hN1]; exact hb2)).trans (by rw [hR1])
  have hall : ∀ u, z_covs (z_idx rsC) (z_idx rsR) (ws' u).length = true := fun u => by rw [hN1]; exact hall
  generalize z_idx rsC = isC at hC hC1 hnC hall
  generalize z_idx rsR = isR at hR hR1 hall
  have hPc := z_cut hP isC hC
  have hDc := hD.sub (ws' := wc) isC hnC hC
  have hFc := va_free hD hS hA isC hC
  refine vx_calli (vx_runSX (As := As) (rest := rest) E hM cw ⟨zPcH_blind, fun U hU hW => ⟨rfl, by rw [hU], by rw [hU]; exact hPc, va_K.moved hW.alike hK, hDc.weaken (fun _ _ _ _ => trivial), ⟨hTh.warm hW, hSt.call hS hFc hU hW, hNc.moved hW.alike⟩, hT.warm hW, hLt.warm hW, hG.call hS hFc hU hW.alike⟩⟩ rfl hAs hl.1 hst (lv_room hcat) hdg hroom) hS (fun q _ h => hFc q h) hFc (fun q _ h => hFc q h)
    (fun E9 ce q9 u t H1 locs1 ht hvm hp hB hz1 hk1 hS1 hce hcv hcl => absurd rfl hp) (fun r u t H1 locs1 ht hvm hp hB hz1 hk1 hS1 => ?_)
  obtain ⟨hp1, hp2⟩ := hp
  subst hp2
  exact kk u H1 locs1 (z_after hw isC isR hC (hC1 u) hR (hR1 u) (hall u) ht hB hk1 hS1)
theorem z_lald (E : CallFix p m c cc nL s args Ts own) (hw : zW D tys A s ws H locs) (q0 t0 : Nat) {cA : ClassId} {n : Nat} {f : Nat → Int64} (ha : ws[q0]? = some (a, .inl (cA, n, .inr (.inl f)))) (ht : tys[t0]? = some (cA, .long)) {i : Int32} (hin : ¬ (i < 0 ∨ n ≤ i.toNatClampNeg)) (hdg : decode cc pc = .ok (.laload, 1))
    (kk : W p l e R s m args below meth c H locs cells slots Q (F0 m (pc + 1) ls (.long (f i.toNatClampNeg) :: rest))) : W p l e R s m args below meth c H locs cells slots Q (F0 m pc ls (.int i :: .ref a :: rest)) := va_lald E.1 E.2.1 hw.1 hw.2.1 q0 t0 ha ht hin hdg kk
theorem z_dald (E : CallFix p m c cc nL s args Ts own) (hw : zW D tys A s ws H locs) (q0 t0 : Nat) {cA : ClassId} {n : Nat} {f : Nat → UInt64} (ha : ws[q0]? = some (a, .inl (cA, n, .inr (.inr (.inr (.inl f)))))) (ht : tys[t0]? = some (cA, .double)) {i : Int32} (hin : ¬ (i < 0 ∨ n ≤ i.toNatClampNeg)) (hdg : decode cc pc = .ok (.daload, 1))
    (kk : W p l e R s m args below meth c H locs cells slots Q (F0 m (pc + 1) ls (.double (f i.toNatClampNeg) :: rest))) : W p l e R s m args below meth c H locs cells slots Q (F0 m pc ls (.int i :: .ref a :: rest)) := va_dald E.1 E.2.1 hw.1 hw.2.1 q0 t0 ha ht hin hdg kk
end ZL
