/-! Texts: the parsers' literals, by their numbers, and the JDK's own methods over them. -/
section ZZ
variable {p : Program} {l : Launch} {e : Env} {R : Room} {s : State} {m : MethodId} {args : Array Value} {below : List Frame} {meth : Method} {c : Code} {H : Heap} {locs : List Loc} {cells slots : Nat} {Q : State → Prop}
variable {pc : Nat} {ls : Array Slot} {rest st0 : List Value} {D : va_G} {tys : List (ClassId × FieldType)} {A : Nat → Prop} {ws : va_W} {cc : ByteArray} {nL : Nat} {Ts : List Cond} {own : String} {a : Nat} {lvs : List (Nat × Value)} {adK adV : Nat → Nat}
/-- the literals' cells, and two statics of the JDK -/
def zSg (adK adV : Nat → Nat) (A : Nat → Prop) (U : State) (H : Heap) : Prop := vk_S jsN jsLen jsByt adK adV A U H ∧ va_Z "java/lang/String" "COMPACT_STRINGS" "Z" (.int 1) A U H ∧ va_Zq "jdk/internal/util/Preconditions" "SIOOBE_FORMATTER" "Ljava/util/function/BiFunction;" A U H
theorem zSg.call {s U : State} {wc : va_W} (h : zSg adK adV A s s.heap) (hS : va_S A s.heap H locs) (hF : ∀ q, va_A wc H.size q → A q) (hU : U.heap = H) (hvm : s.vm.Alike U.vm) : zSg adK adV (va_A wc H.size) U U.heap := by
  rw [hU]
  exact ⟨vk_S.moved hvm (vk_S.narrow (vk_S.kept h.1 (fun a h1 h2 => hS.2.1 a h1 h2)) hF), va_Z.moved hvm (va_Z.narrow (va_Z.kept h.2.1 (fun a h1 h2 => hS.2.1 a h1 h2)) hF), va_Zq.moved hvm (va_Zq.narrow (va_Zq.kept h.2.2 (fun a h1 h2 => hS.2.1 a h1 h2)) hF)⟩
/-- the literals, as ldc finds them -/
def zLt (adK : Nat → Nat) (s : State) : Prop := vk_R RX4 49 "row" (adK 0) s ∧ vk_R RX4 59 "trader" (adK 1) s ∧ vk_R RX4 64 "clash" (adK 2) s ∧ vk_R RX4 69 "covers" (adK 3) s ∧ vk_R RX4 93 "roof" (adK 4) s ∧ vk_R RX4 102 "front" (adK 5) s ∧ vk_R RX4 108 "limit" (adK 6) s ∧ vk_R RX4 110 "cover" (adK 7) s ∧ vk_R RX6 82 " row trader front limit cover clash covers roof " (adK 8) s
theorem zLt.warm {s U : State} (hW : s.WarmedH U.vm) (h : zLt adK s) : zLt adK U := ⟨h.1.warm hW, h.2.1.warm hW, h.2.2.1.warm hW, h.2.2.2.1.warm hW, h.2.2.2.2.1.warm hW, h.2.2.2.2.2.1.warm hW, h.2.2.2.2.2.2.1.warm hW, h.2.2.2.2.2.2.2.1.warm hW, h.2.2.2.2.2.2.2.2.warm hW⟩
theorem zLt.same {u U : State} (hv : U.vm = u.vm) (h : zLt adK u) : zLt adK U := ⟨h.1.same hv, h.2.1.same hv, h.2.2.1.same hv, h.2.2.2.1.same hv, h.2.2.2.2.1.same hv, h.2.2.2.2.2.1.same hv, h.2.2.2.2.2.2.1.same hv, h.2.2.2.2.2.2.2.1.same hv, h.2.2.2.2.2.2.2.2.same hv⟩
def zPcG (D : va_G) (tys : List (ClassId × FieldType)) (av : List Value) (ws : va_W) (sz : Nat) (adK adV : Nat → Nat) : Array Value → State → Prop :=
  va_Pc av (fun U => U.heap.size = sz ∧ va_P D vwCl ws U.heap ∧ va_K D vwCl tys U ∧ va_D (fun _ => True) ws ∧ zTn U ∧ zLt adK U ∧ zSg adK adV (va_A ws sz) U U.heap)
theorem zPcG_blind {av : List Value} {sz : Nat} : FrameBlind (zPcG D tys av ws sz adK adV) := fun a U g mk q => by
  obtain ⟨q0, q1, qP, qK, qD, qT, qL, qG⟩ := q
  exact ⟨q0, q1, qP, va_K.moved (u := U) (U := U.calling g mk a) (Vm.Alike.refl U.vm) qK, qD, qT.same rfl, qL.same rfl, vk_S.moved (u := U) (U := U.calling g mk a) (Vm.Alike.refl U.vm) qG.1, va_Z.moved (u := U) (U := U.calling g mk a) (Vm.Alike.refl U.vm) qG.2.1, va_Zq.moved (u := U) (U := U.calling g mk a) (Vm.Alike.refl U.vm) qG.2.2⟩
theorem z_metG {y : MethodName} {wsY ws1 : List Cond} {rm : Room} {av : List Value} {W0 : va_W} {sz mc ms : Nat} {Qc : Array Value → State → Outcome → State → Prop} {maxL : Nat} {ret : Option FieldType} (hy : plainName y.cls = true) (hw : wsY = Cond.code y cc maxL ret :: ws1) (hle : (lg_sl av).length ≤ maxL)
    (body : ∀ (p : Program) (e : Env) (s : State) (m : MethodId) (below : List Frame) (meth : Method) (c : Code) (ls : Array Slot), zE p s m av.toArray meth c cc maxL ret wsY y.cls → zTn s → zLt adK s → zSg adK adV (va_A W0 sz) s s.heap → s.heap.size = sz → zW D tys (va_A W0 sz) s W0 s.heap [] → lv_has ls maxL (lv_args 0 av) →
      W p l e rm s m av.toArray below meth c s.heap [] 0 0 (MQ below Qc av.toArray s mc ms (va_A W0 sz)) (F0 m 0 ls [])) : Met l y wsY rm (zPcG D tys av W0 sz adK adV) Qc mc ms (va_A W0 sz) := by
  refine Met.ofW (cc := cc) (maxL := maxL) (ret := ret) hy hw ?_
  intro p e s m args below meth c s₁ B hml hv
  obtain ⟨rfl, hsz, hP, hK, hD0, hT, hLt, hG⟩ := hv
  have hl := lv_entry av (n := maxL) hle
  rw [lg_entry_eq]
  exact body p e s m below meth c _ ⟨⟨B.exec, B.bytes, hml, findClass_of_methodNamed B.named, atoms_spec (ws := wsY) B.pre⟩, B.returns, B.notSynchronized⟩ hT hLt hG hsz ⟨hK, hP, hD0.self, va_S.rf, fun q h => Or.inr (by rw [← hsz]; exact h)⟩ hl
theorem z_bret {ret : Option FieldType} {ty : FieldType} {v : Int32} (E : zE p s m args meth c cc nL ret Ts own) (hret : ret = some ty) (hn : narrow ty (.int v) = .int v) (hw : zW D tys A s ws H locs) (hdg : decode cc pc = .ok (.ireturn, 1)) : W p l e R s m args below meth c H locs cells slots (MQ below (zQi D tys v ws A) args s cells slots A) (F0 m pc ls [.int v]) := by
  obtain ⟨hK, hP, hD, hS, hA⟩ := hw
  obtain ⟨⟨hx, hb, -, -, -⟩, hr, hlocks⟩ := E
  exact W.zret hx hb (hr.trans hret) hn (fun t ht hW => ⟨⟨v, (), rfl, rfl, by rw [ht]; exact hP, va_K.moved hW.alike hK, hD⟩, hS.F ht⟩) hS.2.2 hdg hlocks
/-- behind a call over no cells of ours -/
theorem z_after0 {H1 : Heap} {locs1 : List Loc} (hw : zW D tys A s ws H locs) (hk : ∀ q : Nat, q < H.size → ¬ va_A [] H.size q → H1[q]? = H[q]?) (hS1 : va_S A s.heap H1 locs1) : zW D tys A s ws H1 locs1 := by
  obtain ⟨hK, hP, hD, hS, hA⟩ := hw
  refine ⟨hK, hP.kept (fun k q hq => hk q.1 (hP k q hq).lt ?_), hD, hS1, hA⟩
  rintro (⟨j, e9, h⟩ | h)
  · simp at h
  · exact absurd (hP k q hq).lt (Nat.not_lt.mpr h)
theorem z_free0 (hw : zW D tys A s ws H locs) : ∀ q, va_A [] H.size q → A q := by
  rintro q (⟨j, e9, h⟩ | h)
  · simp at h
  · exact hw.2.2.2.2 q (Nat.le_trans hw.2.2.2.1.1 h)
theorem z_noP : va_P D vwCl [] H := fun k q h => by simp at h
theorem z_noD {B : Nat → Prop} : va_D B [] := ⟨fun i j p q h => by simp at h, fun k q h => by simp at h⟩
/-- a String's own method, over a literal -/
theorem z_callJV (E : CallFix p m c cc nL s args Ts own) (hl : lv_has ls nL lvs) (hT : zTn s) (hLt : zLt adK s) (hG : zSg adK adV A s s.heap) (hw : zW D tys A s ws H locs) {y : MethodName} {wsY : List Cond} {rm : Room} {i n index maxL : Nat} {As : List Value} {r0 : Int32} {bytes : ByteArray} {ret : Option FieldType} (hi : i < jsN)
    (hM : Met l y wsY rm (zPcG D tys (.ref (adK i) :: As) [] H.size adK adV) (zQi D tys r0 [] (va_A [] H.size)) 0 0 (va_A [] H.size)) (cw : CallW R s args own "java/lang/String" index y bytes maxL ret wsY rm 0 0 n) (hAs : As.length = n) (hst : st0 = As.reverse ++ .ref (adK i) :: rest) (hcat : (rest.map fun v => v.category).sum ≤ 8) (hdg : decode cc pc = .ok (.invokevirtual index, 3)) (hroom : cells + 0 ≤ R.cells ∧ slots + 0 ≤ R.slots)
    (kk : ∀ (H : Heap) (locs : List Loc), zW D tys A s ws H locs → W p l e R s m args below meth c H locs cells slots Q (F0 m (pc + 3) ls (.int r0 :: rest))) : W p l e R s m args below meth c H locs cells slots Q (F0 m pc ls st0) := by
  have hF := z_free0 hw
  obtain ⟨hK, hP, hD, hS, hA⟩ := id hw
  refine va_calli (va_runV (As := As) (rest := rest) E hM cw ⟨zPcG_blind, vk_recv hG.1 hi hS, fun U hU hW => ⟨rfl, by rw [hU], z_noP, va_K.moved hW.alike hK, z_noD, hT.warm hW, hLt.warm hW, hG.call hS hF hU hW.alike⟩⟩ rfl hAs hl.1 hst (lv_room hcat) hdg hroom) hS (fun q _ h => hF q h) hF (fun r u t H1 locs1 ht hvm hp hB hz1 hk1 hS1 => ?_)
  cases hp
  exact kk H1 locs1 (z_after0 hw hk1 hS1)
theorem z_callJSi (E : CallFix p m c cc nL s args Ts own) (hl : lv_has ls nL lvs) (hT : zTn s) (hLt : zLt adK s) (hG : zSg adK adV A s s.heap) (hw : zW D tys A s ws H locs) {y : MethodName} {wsY : List Cond} {rm : Room} {n index maxL : Nat} {As : List Value} {r0 : Int32} {bytes : ByteArray} {ret : Option FieldType}
    (hM : Met l y wsY rm (zPcG D tys As [] H.size adK adV) (zQi D tys r0 [] (va_A [] H.size)) 0 0 (va_A [] H.size)) (cw : CallB R s args own index y bytes maxL ret wsY rm 0 0 n ∧ (Cond.static y).before args s = true) (hAs : As.length = n) (hst : st0 = As.reverse ++ rest) (hcat : (rest.map fun v => v.category).sum ≤ 8) (hdg : decode cc pc = .ok (.invokestatic index, 3)) (hroom : cells + 0 ≤ R.cells ∧ slots + 0 ≤ R.slots)
    (kk : ∀ (H : Heap) (locs : List Loc), zW D tys A s ws H locs → W p l e R s m args below meth c H locs cells slots Q (F0 m (pc + 3) ls (.int r0 :: rest))) : W p l e R s m args below meth c H locs cells slots Q (F0 m pc ls st0) := by
  have hF := z_free0 hw
  obtain ⟨hK, hP, hD, hS, hA⟩ := id hw
  refine va_calli (va_runS (As := As) (rest := rest) E hM cw ⟨zPcG_blind, fun U hU hW => ⟨rfl, by rw [hU], z_noP, va_K.moved hW.alike hK, z_noD, hT.warm hW, hLt.warm hW, hG.call hS hF hU hW.alike⟩⟩ rfl hAs hl.1 hst (lv_room hcat) hdg hroom) hS (fun q _ h => hF q h) hF (fun r u t H1 locs1 ht hvm hp hB hz1 hk1 hS1 => ?_)
  cases hp
  exact kk H1 locs1 (z_after0 hw hk1 hS1)
theorem z_callJSv (E : CallFix p m c cc nL s args Ts own) (hl : lv_has ls nL lvs) (hT : zTn s) (hLt : zLt adK s) (hG : zSg adK adV A s s.heap) (hw : zW D tys A s ws H locs) {y : MethodName} {wsY : List Cond} {rm : Room} {n index maxL : Nat} {As : List Value} {bytes : ByteArray} {ret : Option FieldType}
    (hM : Met l y wsY rm (zPcG D tys As [] H.size adK adV) (zQv D tys [] (va_A [] H.size)) 0 0 (va_A [] H.size)) (cw : CallB R s args own index y bytes maxL ret wsY rm 0 0 n ∧ (Cond.static y).before args s = true) (hAs : As.length = n) (hst : st0 = As.reverse ++ rest) (hcat : (rest.map fun v => v.category).sum ≤ 8) (hdg : decode cc pc = .ok (.invokestatic index, 3)) (hroom : cells + 0 ≤ R.cells ∧ slots + 0 ≤ R.slots)
    (kk : ∀ (H : Heap) (locs : List Loc), zW D tys A s ws H locs → W p l e R s m args below meth c H locs cells slots Q (F0 m (pc + 3) ls (rest))) : W p l e R s m args below meth c H locs cells slots Q (F0 m pc ls st0) := by
  have hF := z_free0 hw
  obtain ⟨hK, hP, hD, hS, hA⟩ := id hw
  refine va_callv (va_runS (As := As) (rest := rest) E hM cw ⟨zPcG_blind, fun U hU hW => ⟨rfl, by rw [hU], z_noP, va_K.moved hW.alike hK, z_noD, hT.warm hW, hLt.warm hW, hG.call hS hF hU hW.alike⟩⟩ rfl hAs hl.1 hst (lv_room hcat) hdg hroom) hS (fun q _ h => hF q h) hF (fun u t H1 locs1 ht hvm hp hB hz1 hk1 hS1 => ?_)
  exact kk H1 locs1 (z_after0 hw hk1 hS1)
theorem z_callGVi (E : CallFix p m c cc nL s args Ts own) (hl : lv_has ls nL lvs) (hT : zTn s) (hLt : zLt adK s) (hG : zSg adK adV A s s.heap) (hw : zW D tys A s ws H locs) {y : MethodName} {wsY : List Cond} {rm : Room} {mc ms n index maxL : Nat} {As : List Value} {wc w1 wr ws' : va_W} {bytes : ByteArray} {ret : Option FieldType} {b ci q0 : Nat} {C : String} {T : u_T} {N : Nat} {fs : List Value} {r0 : Int32}
    (hM : Met l y wsY rm (zPcG D tys (.ref b :: As) wc H.size adK adV) (zQi D tys r0 w1 (va_A wc H.size)) mc ms (va_A wc H.size)) (cw : CallW R s args own C index y bytes maxL ret wsY rm mc ms n) (N9 : Nat) (rsC rsR : List (Nat × Nat)) (hN : ws.length = N9) (hN1 : ws'.length = N9) (hC : z_rng ws rsC = wc) (hC1 : z_rng ws' rsC = w1) (hR : z_rng ws rsR = wr) (hR1 : z_rng ws' rsR = wr) (hchk : z_chk N9 rsC rsR = true)
    (hci : vwCl[ci]? = some (C, T, N)) (hq : wc[q0]? = some (b, .inr (ci, fs))) (hAs : As.length = n) (hst : st0 = As.reverse ++ .ref b :: rest) (hcat : (rest.map fun v => v.category).sum ≤ 8) (hdg : decode cc pc = .ok (.invokevirtual index, 3)) (hroom : cells + mc ≤ R.cells ∧ slots + ms ≤ R.slots)
    (kk : ∀ (H : Heap) (locs : List Loc), zW D tys A s ws' H locs → W p l e R s m args below meth c H locs (cells + mc) (slots + ms) Q (F0 m (pc + 3) ls (.int r0 :: rest))) : W p l e R s m args below meth c H locs cells slots Q (F0 m pc ls st0) := by
  obtain ⟨hK, hP, hD, hS, hA⟩ := id hw
  obtain ⟨hb1, hchk⟩ := (Bool.and_eq_true _ _).mp hchk
  obtain ⟨hb2, hchk⟩ := (Bool.and_eq_true _ _).mp hchk
  obtain ⟨hnC, hall⟩ := (Bool.and_eq_true _ _).mp hchk
  have hC := (z_rng_idx ws rsC (by rw [hN]; exact hb1)).trans (by rw [hC])
  have hC1 := (z_rng_idx ws' rsC (by rw [hN1]; exact hb1)).trans (by rw [hC1])
  have hR := (z_rng_idx ws rsR (by rw [hN]; exact hb2)).trans (by rw [hR])
  have hR1 := (z_rng_idx ws' rsR (by rw [hN1]; exact hb2)).trans (by rw [hR1])
  rw [← hN1] at hall
  generalize z_idx rsC = isC at hC hC1 hnC hall
  generalize z_idx rsR = isR at hR hR1 hall
  have hPc := z_cut hP isC hC
  have hDc := hD.sub (ws' := wc) isC hnC hC
  have hFc := va_free hD hS hA isC hC
  refine va_calli (va_runV (As := As) (rest := rest) E hM cw ⟨zPcG_blind, va_recv hK hPc hci hq, fun U hU hW => ⟨rfl, by rw [hU], by rw [hU]; exact hPc, va_K.moved hW.alike hK, hDc.weaken (fun _ _ _ _ => trivial), hT.warm hW, hLt.warm hW, hG.call hS hFc hU hW.alike⟩⟩ rfl hAs hl.1 hst (lv_room hcat) hdg hroom) hS (fun q _ h => hFc q h) hFc (fun r u t H1 locs1 ht hvm hp hB hz1 hk1 hS1 => ?_)
  cases hp
  exact kk H1 locs1 (z_after hw isC isR hC hC1 hR hR1 hall ht hB hk1 hS1)
theorem z_callGVv (E : CallFix p m c cc nL s args Ts own) (hl : lv_has ls nL lvs) (hT : zTn s) (hLt : zLt adK s) (hG : zSg adK adV A s s.heap) (hw : zW D tys A s ws H locs) {y : MethodName} {wsY : List Cond} {rm : Room} {mc ms n index maxL : Nat} {As : List Value} {wc w1 wr ws' : va_W} {bytes : ByteArray} {ret : Option FieldType} {b ci q0 : Nat} {C : String} {T : u_T} {N : Nat} {fs : List Value}
    (hM : Met l y wsY rm (zPcG D tys (.ref b :: As) wc H.size adK adV) (zQv D tys w1 (va_A wc H.size)) mc ms (va_A wc H.size)) (cw : CallW R s args own C index y bytes maxL ret wsY rm mc ms n) (N9 : Nat) (rsC rsR : List (Nat × Nat)) (hN : ws.length = N9) (hN1 : ws'.length = N9) (hC : z_rng ws rsC = wc) (hC1 : z_rng ws' rsC = w1) (hR : z_rng ws rsR = wr) (hR1 : z_rng ws' rsR = wr) (hchk : z_chk N9 rsC rsR = true)
    (hci : vwCl[ci]? = some (C, T, N)) (hq : wc[q0]? = some (b, .inr (ci, fs))) (hAs : As.length = n) (hst : st0 = As.reverse ++ .ref b :: rest) (hcat : (rest.map fun v => v.category).sum ≤ 8) (hdg : decode cc pc = .ok (.invokevirtual index, 3)) (hroom : cells + mc ≤ R.cells ∧ slots + ms ≤ R.slots)
    (kk : ∀ (H : Heap) (locs : List Loc), zW D tys A s ws' H locs → W p l e R s m args below meth c H locs (cells + mc) (slots + ms) Q (F0 m (pc + 3) ls (rest))) : W p l e R s m args below meth c H locs cells slots Q (F0 m pc ls st0) := by
  obtain ⟨hK, hP, hD, hS, hA⟩ := id hw
  obtain ⟨hb1, hchk⟩ := (Bool.and_eq_true _ _).mp hchk
  obtain ⟨hb2, hchk⟩ := (Bool.and_eq_true _ _).mp hchk
  obtain ⟨hnC, hall⟩ := (Bool.and_eq_true _ _).mp hchk
  have hC := (z_rng_idx ws rsC (by rw [hN]; exact hb1)).trans (by rw [hC])
  have hC1 := (z_rng_idx ws' rsC (by rw [hN1]; exact hb1)).trans (by rw [hC1])
  have hR := (z_rng_idx ws rsR (by rw [hN]; exact hb2)).trans (by rw [hR])
  have hR1 := (z_rng_idx ws' rsR (by rw [hN1]; exact hb2)).trans (by rw [hR1])
  rw [← hN1] at hall
  generalize z_idx rsC = isC at hC hC1 hnC hall
  generalize z_idx rsR = isR at hR hR1 hall
  have hPc := z_cut hP isC hC
  have hDc := hD.sub (ws' := wc) isC hnC hC
  have hFc := va_free hD hS hA isC hC
  refine va_callv (va_runV (As := As) (rest := rest) E hM cw ⟨zPcG_blind, va_recv hK hPc hci hq, fun U hU hW => ⟨rfl, by rw [hU], by rw [hU]; exact hPc, va_K.moved hW.alike hK, hDc.weaken (fun _ _ _ _ => trivial), hT.warm hW, hLt.warm hW, hG.call hS hFc hU hW.alike⟩⟩ rfl hAs hl.1 hst (lv_room hcat) hdg hroom) hS (fun q _ h => hFc q h) hFc (fun u t H1 locs1 ht hvm hp hB hz1 hk1 hS1 => ?_)
  exact kk H1 locs1 (z_after hw isC isR hC hC1 hR hR1 hall ht hB hk1 hS1)
theorem z_callGSi (E : CallFix p m c cc nL s args Ts own) (hl : lv_has ls nL lvs) (hT : zTn s) (hLt : zLt adK s) (hG : zSg adK adV A s s.heap) (hw : zW D tys A s ws H locs) {y : MethodName} {wsY : List Cond} {rm : Room} {mc ms n index maxL : Nat} {As : List Value} {wc w1 wr ws' : va_W} {bytes : ByteArray} {ret : Option FieldType} {r0 : Int32}
    (hM : Met l y wsY rm (zPcG D tys As wc H.size adK adV) (zQi D tys r0 w1 (va_A wc H.size)) mc ms (va_A wc H.size)) (cw : CallB R s args own index y bytes maxL ret wsY rm mc ms n ∧ (Cond.static y).before args s = true) (N9 : Nat) (rsC rsR : List (Nat × Nat)) (hN : ws.length = N9) (hN1 : ws'.length = N9) (hC : z_rng ws rsC = wc) (hC1 : z_rng ws' rsC = w1) (hR : z_rng ws rsR = wr) (hR1 : z_rng ws' rsR = wr) (hchk : z_chk N9 rsC rsR = true)
    (hAs : As.length = n) (hst : st0 = As.reverse ++ rest) (hcat : (rest.map fun v => v.category).sum ≤ 8) (hdg : decode cc pc = .ok (.invokestatic index, 3)) (hroom : cells + mc ≤ R.cells ∧ slots + ms ≤ R.slots)
    (kk : ∀ (H : Heap) (locs : List Loc), zW D tys A s ws' H locs → W p l e R s m args below meth c H locs (cells + mc) (slots + ms) Q (F0 m (pc + 3) ls (.int r0 :: rest))) : W p l e R s m args below meth c H locs cells slots Q (F0 m pc ls st0) := by
  obtain ⟨hK, hP, hD, hS, hA⟩ := id hw
  obtain ⟨hb1, hchk⟩ := (Bool.and_eq_true _ _).mp hchk
  obtain ⟨hb2, hchk⟩ := (Bool.and_eq_true _ _).mp hchk
  obtain ⟨hnC, hall⟩ := (Bool.and_eq_true _ _).mp hchk
  have hC := (z_rng_idx ws rsC (by rw [hN]; exact hb1)).trans (by rw [hC])
  have hC1 := (z_rng_idx ws' rsC (by rw [hN1]; exact hb1)).trans (by rw [hC1])
  have hR := (z_rng_idx ws rsR (by rw [hN]; exact hb2)).trans (by rw [hR])
  have hR1 := (z_rng_idx ws' rsR (by rw [hN1]; exact hb2)).trans (by rw [hR1])
  rw [← hN1] at hall
  generalize z_idx rsC = isC at hC hC1 hnC hall
  generalize z_idx rsR = isR at hR hR1 hall
  have hPc := z_cut hP isC hC
  have hDc := hD.sub (ws' := wc) isC hnC hC
  have hFc := va_free hD hS hA isC hC
  refine va_calli (va_runS (As := As) (rest := rest) E hM cw ⟨zPcG_blind, fun U hU hW => ⟨rfl, by rw [hU], by rw [hU]; exact hPc, va_K.moved hW.alike hK, hDc.weaken (fun _ _ _ _ => trivial), hT.warm hW, hLt.warm hW, hG.call hS hFc hU hW.alike⟩⟩ rfl hAs hl.1 hst (lv_room hcat) hdg hroom) hS (fun q _ h => hFc q h) hFc (fun r u t H1 locs1 ht hvm hp hB hz1 hk1 hS1 => ?_)
  cases hp
  exact kk H1 locs1 (z_after hw isC isR hC hC1 hR hR1 hall ht hB hk1 hS1)
theorem z_callGSv (E : CallFix p m c cc nL s args Ts own) (hl : lv_has ls nL lvs) (hT : zTn s) (hLt : zLt adK s) (hG : zSg adK adV A s s.heap) (hw : zW D tys A s ws H locs) {y : MethodName} {wsY : List Cond} {rm : Room} {mc ms n index maxL : Nat} {As : List Value} {wc w1 wr ws' : va_W} {bytes : ByteArray} {ret : Option FieldType}
    (hM : Met l y wsY rm (zPcG D tys As wc H.size adK adV) (zQv D tys w1 (va_A wc H.size)) mc ms (va_A wc H.size)) (cw : CallB R s args own index y bytes maxL ret wsY rm mc ms n ∧ (Cond.static y).before args s = true) (N9 : Nat) (rsC rsR : List (Nat × Nat)) (hN : ws.length = N9) (hN1 : ws'.length = N9) (hC : z_rng ws rsC = wc) (hC1 : z_rng ws' rsC = w1) (hR : z_rng ws rsR = wr) (hR1 : z_rng ws' rsR = wr) (hchk : z_chk N9 rsC rsR = true)
    (hAs : As.length = n) (hst : st0 = As.reverse ++ rest) (hcat : (rest.map fun v => v.category).sum ≤ 8) (hdg : decode cc pc = .ok (.invokestatic index, 3)) (hroom : cells + mc ≤ R.cells ∧ slots + ms ≤ R.slots)
    (kk : ∀ (H : Heap) (locs : List Loc), zW D tys A s ws' H locs → W p l e R s m args below meth c H locs (cells + mc) (slots + ms) Q (F0 m (pc + 3) ls (rest))) : W p l e R s m args below meth c H locs cells slots Q (F0 m pc ls st0) := by
  obtain ⟨hK, hP, hD, hS, hA⟩ := id hw
  obtain ⟨hb1, hchk⟩ := (Bool.and_eq_true _ _).mp hchk
  obtain ⟨hb2, hchk⟩ := (Bool.and_eq_true _ _).mp hchk
  obtain ⟨hnC, hall⟩ := (Bool.and_eq_true _ _).mp hchk
  have hC := (z_rng_idx ws rsC (by rw [hN]; exact hb1)).trans (by rw [hC])
  have hC1 := (z_rng_idx ws' rsC (by rw [hN1]; exact hb1)).trans (by rw [hC1])
  have hR := (z_rng_idx ws rsR (by rw [hN]; exact hb2)).trans (by rw [hR])
  have hR1 := (z_rng_idx ws' rsR (by rw [hN1]; exact hb2)).trans (by rw [hR1])
  rw [← hN1] at hall
  generalize z_idx rsC = isC at hC hC1 hnC hall
  generalize z_idx rsR = isR at hR hR1 hall
  have hPc := z_cut hP isC hC
  have hDc := hD.sub (ws' := wc) isC hnC hC
  have hFc := va_free hD hS hA isC hC
  refine va_callv (va_runS (As := As) (rest := rest) E hM cw ⟨zPcG_blind, fun U hU hW => ⟨rfl, by rw [hU], by rw [hU]; exact hPc, va_K.moved hW.alike hK, hDc.weaken (fun _ _ _ _ => trivial), hT.warm hW, hLt.warm hW, hG.call hS hFc hU hW.alike⟩⟩ rfl hAs hl.1 hst (lv_room hcat) hdg hroom) hS (fun q _ h => hFc q h) hFc (fun u t H1 locs1 ht hvm hp hB hz1 hk1 hS1 => ?_)
  exact kk H1 locs1 (z_after hw isC isR hC hC1 hR hR1 hall ht hB hk1 hS1)
/-- a static method of a nest mate over no cells, that answers an int -/
theorem z_callSNi (E : CallFix p m c cc nL s args Ts own) (hl : lv_has ls nL lvs) (hw : zW D tys A s ws H locs) {y : MethodName} {wsY : List Cond} {rm : Room} {n index maxL : Nat} {As : List Value} {r0 : Int32} {bytes : ByteArray} {ret : Option FieldType} {host : String}
    (hM : Met l y wsY rm (zPc D tys As [] H.size) (zQi D tys r0 [] (va_A [] H.size)) 0 0 (va_A [] H.size)) (cw : va_CN R s args own index y host bytes maxL ret wsY rm 0 0 n ∧ (Cond.static y).before args s = true ∧ True) (hAs : As.length = n) (hst : st0 = As.reverse ++ rest) (hcat : (rest.map fun v => v.category).sum ≤ 8) (hdg : decode cc pc = .ok (.invokestatic index, 3)) (hroom : cells + 0 ≤ R.cells ∧ slots + 0 ≤ R.slots)
    (kk : ∀ (H : Heap) (locs : List Loc), zW D tys A s ws H locs → W p l e R s m args below meth c H locs cells slots Q (F0 m (pc + 3) ls (.int r0 :: rest))) : W p l e R s m args below meth c H locs cells slots Q (F0 m pc ls st0) := by
  have hF := z_free0 hw
  obtain ⟨hK, hP, hD, hS, hA⟩ := id hw
  refine va_calli (va_runSN (As := As) (rest := rest) E hM cw ⟨zPc_blind, fun U hU hW => ⟨rfl, by rw [hU], z_noP, va_K.moved hW.alike hK, z_noD⟩⟩ rfl hAs hl.1 hst (lv_room hcat) hdg hroom) hS (fun q _ h => hF q h) hF (fun r u t H1 locs1 ht hvm hp hB hz1 hk1 hS1 => ?_)
  cases hp
  exact kk H1 locs1 (z_after0 hw hk1 hS1)
end ZZ
abbrev zwJ0_coder_7d493 : List Cond := Cond.code yJ0_coder_7d493 cJ0_coder_7d493 1 (some .byte) :: wsAll
abbrev zwJ0_isLatin1_aae02 : List Cond := Cond.code yJ0_isLatin1_aae02 cJ0_isLatin1_aae02 1 (some .boolean) :: wsAll
abbrev zwJ0_length_8abf5 : List Cond := Cond.code yJ0_length_8abf5 cJ0_length_8abf5 1 (some .int) :: wsAll
def rm_J0 : Room := { frames := 0, cells := 0, slots := 0, locals := 0 }
def rm_J1 : Room := { frames := 1, cells := 0, slots := 0, locals := 20 }
set_option maxHeartbeats 4000000 in
set_option maxRecDepth 100000 in
theorem c_J0_coder_7d493 {l : Launch} {D : va_G} {cI cZ cM : ClassId} {adK adV : Nat → Nat} {sz i : Nat} (hi : i < jsN) : Met l yJ0_coder_7d493 zwJ0_coder_7d493 rm_J0 (zPcG D (zT cI cZ cM) [.ref (adK i)] [] sz adK adV) (zQi D (zT cI cZ cM) 0 [] (va_A [] sz)) 0 0 (va_A [] sz) := by
  refine z_metG (cc := cJ0_coder_7d493) (maxL := 1) (ret := (some .byte)) (by decide) rfl (Nat.le_of_ble_eq_true rfl) ?_
  intro p e s m below meth c ls E hT hLt hG hsz hw hl
  obtain ⟨⟨hx, hb, hml, hown, hts⟩, hr, hlocks⟩ := id E
  obtain ⟨hK, hP, hD, hS, hA⟩ := id hw
  have hl : lv_has ls 1 [(0, .ref (adK i))] := hl
  refine va_gets hx hb hG.2.1 hS hown (hts _ mw_315) (fun _ h9 => h9) dJ0_coder_7d493_0 ?_
  refine lv_if_eq (tgt := 13) hx hb dJ0_coder_7d493_3 (by decide) (fun hc => absurd hc (by decide)) (fun _ => ?_)
  refine lv_aload_n hx hb dJ0_coder_7d493_6 rfl (lv_at hl 0 rfl) ?_
  refine vk_getf hx hb (hG.1.1 i hi).2.1 hS hown (hts _ mw_316) (fun _ h9 => h9) dJ0_coder_7d493_7 ?_
  refine lv_goto (tgt := 14) hx hb dJ0_coder_7d493_10 (by decide) ?_
  exact z_bret E rfl rfl hw dJ0_coder_7d493_14
set_option maxHeartbeats 4000000 in
set_option maxRecDepth 100000 in
theorem c_J0_isLatin1_aae02 {l : Launch} {D : va_G} {cI cZ cM : ClassId} {adK adV : Nat → Nat} {sz i : Nat} (hi : i < jsN) : Met l yJ0_isLatin1_aae02 zwJ0_isLatin1_aae02 rm_J0 (zPcG D (zT cI cZ cM) [.ref (adK i)] [] sz adK adV) (zQi D (zT cI cZ cM) 1 [] (va_A [] sz)) 0 0 (va_A [] sz) := by
  refine z_metG (cc := cJ0_isLatin1_aae02) (maxL := 1) (ret := (some .boolean)) (by decide) rfl (Nat.le_of_ble_eq_true rfl) ?_
  intro p e s m below meth c ls E hT hLt hG hsz hw hl
  obtain ⟨⟨hx, hb, hml, hown, hts⟩, hr, hlocks⟩ := id E
  obtain ⟨hK, hP, hD, hS, hA⟩ := id hw
  have hl : lv_has ls 1 [(0, .ref (adK i))] := hl
  refine va_gets hx hb hG.2.1 hS hown (hts _ mw_315) (fun _ h9 => h9) dJ0_isLatin1_aae02_0 ?_
  refine lv_if_eq (tgt := 17) hx hb dJ0_isLatin1_aae02_3 (by decide) (fun hc => absurd hc (by decide)) (fun _ => ?_)
  refine lv_aload_n hx hb dJ0_isLatin1_aae02_6 rfl (lv_at hl 0 rfl) ?_
  refine vk_getf hx hb (hG.1.1 i hi).2.1 hS hown (hts _ mw_316) (fun _ h9 => h9) dJ0_isLatin1_aae02_7 ?_
  refine lv_if_ne (tgt := 17) hx hb dJ0_isLatin1_aae02_10 (by decide) (fun hc => absurd rfl hc) (fun _ => ?_)
  refine lv_iconst (v := 1) hx hb dJ0_isLatin1_aae02_13 (by decide) ?_
  refine lv_goto (tgt := 18) hx hb dJ0_isLatin1_aae02_14 (by decide) ?_
  exact z_bret E rfl rfl hw dJ0_isLatin1_aae02_18
theorem js_shr : ∀ i, i < jsN → Int32.ofNat (jsLen.getD i 0) >>> ((0 : Int32) &&& 31) = Int32.ofNat (jsLen.getD i 0) := by decide +kernel
set_option maxHeartbeats 4000000 in
set_option maxRecDepth 100000 in
theorem c_J0_length_8abf5 {l : Launch} {D : va_G} {cI cZ cM : ClassId} {adK adV : Nat → Nat} {sz i : Nat} (hi : i < jsN) : Met l yJ0_length_8abf5 zwJ0_length_8abf5 rm_J1 (zPcG D (zT cI cZ cM) [.ref (adK i)] [] sz adK adV) (zQi D (zT cI cZ cM) (Int32.ofNat (jsLen.getD i 0)) [] (va_A [] sz)) 0 0 (va_A [] sz) := by
  refine z_metG (cc := cJ0_length_8abf5) (maxL := 1) (ret := (some .int)) (by decide) rfl (Nat.le_of_ble_eq_true rfl) ?_
  intro p e s m below meth c ls E hT hLt hG hsz hw hl
  obtain ⟨⟨hx, hb, hml, hown, hts⟩, hr, hlocks⟩ := id E
  obtain ⟨hK, hP, hD, hS, hA⟩ := id hw
  have hl : lv_has ls 1 [(0, .ref (adK i))] := hl
  refine lv_aload_n hx hb dJ0_length_8abf5_0 rfl (lv_at hl 0 rfl) ?_
  refine vk_getf hx hb (hG.1.1 i hi).2.2.1 hS hown (hts _ mw_310) (fun _ h9 => h9) dJ0_length_8abf5_1 ?_
  refine va_tlen hx hb (hG.1.1 i hi).2.2.2 hS rfl dJ0_length_8abf5_4 ?_
  refine lv_aload_n hx hb dJ0_length_8abf5_5 rfl (lv_at hl 0 rfl) ?_
  refine z_callJV (As := []) (rest := [.int (Int32.ofNat (jsLen.getD i 0))]) E.1 hl hT hLt hG hw hi (c_J0_coder_7d493 hi) (cwV 0 hts (z_gV mw_311 mw_312 mw_313 mw_308 mw_314) rfl rfl rfl (by decide +kernel) ⟨Nat.le_of_ble_eq_true rfl, Nat.le_of_ble_eq_true rfl⟩) rfl rfl (Nat.le_of_ble_eq_true rfl) dJ0_length_8abf5_6 ⟨Nat.le_of_ble_eq_true rfl, Nat.le_of_ble_eq_true rfl⟩ (fun H locs hw => ?_)
  refine lv_ishr hx hb dJ0_length_8abf5_9 ?_
  rw [js_shr i hi]
  exact z_bret E rfl rfl hw dJ0_length_8abf5_10
abbrev zwJ3_checkIndex_8e157 : List Cond := Cond.code yJ3_checkIndex_8e157 cJ3_checkIndex_8e157 3 (some .int) :: wsAll
abbrev zwJ0_checkIndex_df160 : List Cond := Cond.code yJ0_checkIndex_df160 cJ0_checkIndex_df160 2 none :: wsAll
abbrev zwJ1_charAt_3b067 : List Cond := Cond.code yJ1_charAt_3b067 cJ1_charAt_3b067 2 (some .char) :: wsAll
abbrev zwJ0_charAt_5068e : List Cond := Cond.code yJ0_charAt_5068e cJ0_charAt_5068e 2 (some .char) :: wsAll
def rm_J2 : Room := { frames := 1, cells := 0, slots := 0, locals := 30 }
def rm_J3 : Room := { frames := 2, cells := 0, slots := 0, locals := 60 }
def rm_J4 : Room := { frames := 3, cells := 0, slots := 0, locals := 90 }
set_option maxHeartbeats 4000000 in
set_option maxRecDepth 100000 in
theorem c_J3_checkIndex_8e157 {l : Launch} {D : va_G} {cI cZ cM : ClassId} {adK adV : Nat → Nat} {sz j N : Nat} (hj : j < N) (hN : N < 2 ^ 31) {v : Value} (hv : v = .null ∨ ∃ t : Nat, v = .ref t) : Met l yJ3_checkIndex_8e157 zwJ3_checkIndex_8e157 rm_J0 (zPcG D (zT cI cZ cM) [.int (nI j), .int (nI N), v] [] sz adK adV) (zQi D (zT cI cZ cM) (nI j) [] (va_A [] sz)) 0 0 (va_A [] sz) := by
  rcases hv with rfl | ⟨t, rfl⟩
  · refine z_metG (cc := cJ3_checkIndex_8e157) (maxL := 3) (ret := (some .int)) (by decide) rfl (Nat.le_of_ble_eq_true rfl) ?_
    intro p e s m below meth c ls E hT hLt hG hsz hw hl
    obtain ⟨⟨hx, hb, hml, hown, hts⟩, hr, hlocks⟩ := id E
    obtain ⟨hK, hP, hD, hS, hA⟩ := id hw
    have hl : lv_has ls 3 [(0, .int (nI j)), (1, .int (nI N)), (2, .null)] := hl
    refine lv_iload_n hx hb dJ3_checkIndex_8e157_0 rfl (lv_at hl 0 rfl) ?_
    refine lv_if_lt (tgt := 9) hx hb dJ3_checkIndex_8e157_1 (by decide) (fun hc => absurd hc (nI_pos (by omega))) (fun _ => ?_)
    refine lv_iload_n hx hb dJ3_checkIndex_8e157_4 rfl (lv_at hl 0 rfl) ?_
    refine lv_iload_n hx hb dJ3_checkIndex_8e157_5 rfl (lv_at hl 1 rfl) ?_
    refine lv_icmp_lt (tgt := 16) hx hb dJ3_checkIndex_8e157_6 (by decide) (fun _ => ?_) (fun hc => absurd (nI_lt hj hN) hc)
    refine lv_iload_n hx hb dJ3_checkIndex_8e157_16 rfl (lv_at hl 0 rfl) ?_
    exact z_bret E rfl rfl hw dJ3_checkIndex_8e157_17
  · refine z_metG (cc := cJ3_checkIndex_8e157) (maxL := 3) (ret := (some .int)) (by decide) rfl (Nat.le_of_ble_eq_true rfl) ?_
    intro p e s m below meth c ls E hT hLt hG hsz hw hl
    obtain ⟨⟨hx, hb, hml, hown, hts⟩, hr, hlocks⟩ := id E
    obtain ⟨hK, hP, hD, hS, hA⟩ := id hw
    have hl : lv_has ls 3 [(0, .int (nI j)), (1, .int (nI N)), (2, .ref t)] := hl
    refine lv_iload_n hx hb dJ3_checkIndex_8e157_0 rfl (lv_at hl 0 rfl) ?_
    refine lv_if_lt (tgt := 9) hx hb dJ3_checkIndex_8e157_1 (by decide) (fun hc => absurd hc (nI_pos (by omega))) (fun _ => ?_)
    refine lv_iload_n hx hb dJ3_checkIndex_8e157_4 rfl (lv_at hl 0 rfl) ?_
    refine lv_iload_n hx hb dJ3_checkIndex_8e157_5 rfl (lv_at hl 1 rfl) ?_
    refine lv_icmp_lt (tgt := 16) hx hb dJ3_checkIndex_8e157_6 (by decide) (fun _ => ?_) (fun hc => absurd (nI_lt hj hN) hc)
    refine lv_iload_n hx hb dJ3_checkIndex_8e157_16 rfl (lv_at hl 0 rfl) ?_
    exact z_bret E rfl rfl hw dJ3_checkIndex_8e157_17
set_option maxHeartbeats 4000000 in
set_option maxRecDepth 100000 in
theorem c_J0_checkIndex_df160 {l : Launch} {D : va_G} {cI cZ cM : ClassId} {adK adV : Nat → Nat} {sz j N : Nat} (hj : j < N) (hN : N < 2 ^ 31) : Met l yJ0_checkIndex_df160 zwJ0_checkIndex_df160 rm_J2 (zPcG D (zT cI cZ cM) [.int (nI j), .int (nI N)] [] sz adK adV) (zQv D (zT cI cZ cM) [] (va_A [] sz)) 0 0 (va_A [] sz) := by
  refine z_metG (cc := cJ0_checkIndex_df160) (maxL := 2) (ret := none) (by decide) rfl (Nat.le_of_ble_eq_true rfl) ?_
  intro p e s m below meth c ls E hT hLt hG hsz hw hl
  obtain ⟨⟨hx, hb, hml, hown, hts⟩, hr, hlocks⟩ := id E
  obtain ⟨hK, hP, hD, hS, hA⟩ := id hw
  have hl : lv_has ls 2 [(0, .int (nI j)), (1, .int (nI N))] := hl
  refine lv_iload_n hx hb dJ0_checkIndex_df160_0 rfl (lv_at hl 0 rfl) ?_
  refine lv_iload_n hx hb dJ0_checkIndex_df160_1 rfl (lv_at hl 1 rfl) ?_
  rcases hG.2.2 with hz | ⟨t, hz⟩
  · refine va_gets hx hb hz hS hown (hts _ mw_335) (fun _ h9 => h9) dJ0_checkIndex_df160_2 ?_
    refine z_callJSi (As := [.int (nI j), .int (nI N), .null]) (rest := []) E.1 hl hT hLt hG hw (c_J3_checkIndex_8e157 hj hN (Or.inl rfl)) (va_cwS 3 hts (z_gS mw_336 mw_337 mw_338 mw_339) rfl rfl rfl (by decide +kernel) ⟨Nat.le_of_ble_eq_true rfl, Nat.le_of_ble_eq_true rfl⟩) rfl rfl (Nat.le_of_ble_eq_true rfl) dJ0_checkIndex_df160_5 ⟨Nat.le_of_ble_eq_true rfl, Nat.le_of_ble_eq_true rfl⟩ (fun H locs hw => ?_)
    refine lv_pop hx hb dJ0_checkIndex_df160_8 rfl ?_
    exact z_vret E rfl hw dJ0_checkIndex_df160_9
  · refine va_gets hx hb hz hS hown (hts _ mw_335) (fun _ h9 => h9) dJ0_checkIndex_df160_2 ?_
    refine z_callJSi (As := [.int (nI j), .int (nI N), .ref t]) (rest := []) E.1 hl hT hLt hG hw (c_J3_checkIndex_8e157 hj hN (Or.inr ⟨t, rfl⟩)) (va_cwS 3 hts (z_gS mw_336 mw_337 mw_338 mw_339) rfl rfl rfl (by decide +kernel) ⟨Nat.le_of_ble_eq_true rfl, Nat.le_of_ble_eq_true rfl⟩) rfl rfl (Nat.le_of_ble_eq_true rfl) dJ0_checkIndex_df160_5 ⟨Nat.le_of_ble_eq_true rfl, Nat.le_of_ble_eq_true rfl⟩ (fun H locs hw => ?_)
    refine lv_pop hx hb dJ0_checkIndex_df160_8 rfl ?_
    exact z_vret E rfl hw dJ0_checkIndex_df160_9
theorem js_ch : ∀ i, i < jsN → ∀ j, j < jsLen.getD i 0 → ((jsCh i j &&& 255).toUInt32 % 65536).toInt32 = jsCh i j ∧ narrow .char (.int (jsCh i j)) = .int (jsCh i j) := by decide +kernel
theorem js_small : ∀ i, i < jsN → jsLen.getD i 0 < 2 ^ 31 := by decide +kernel
set_option maxHeartbeats 4000000 in
set_option maxRecDepth 100000 in
theorem c_J1_charAt_3b067 {l : Launch} {D : va_G} {cI cZ cM : ClassId} {adK adV : Nat → Nat} {sz i j : Nat} (hi : i < jsN) (hj : j < jsLen.getD i 0) : Met l yJ1_charAt_3b067 zwJ1_charAt_3b067 rm_J3 (zPcG D (zT cI cZ cM) [.ref (adV i), .int (nI j)] [] sz adK adV) (zQi D (zT cI cZ cM) (jsCh i j) [] (va_A [] sz)) 0 0 (va_A [] sz) := by
  have hN := js_small i hi
  refine z_metG (cc := cJ1_charAt_3b067) (maxL := 2) (ret := (some .char)) (by decide) rfl (Nat.le_of_ble_eq_true rfl) ?_
  intro p e s m below meth c ls E hT hLt hG hsz hw hl
  obtain ⟨⟨hx, hb, hml, hown, hts⟩, hr, hlocks⟩ := id E
  obtain ⟨hK, hP, hD, hS, hA⟩ := id hw
  have hl : lv_has ls 2 [(0, .ref (adV i)), (1, .int (nI j))] := hl
  refine lv_iload_n hx hb dJ1_charAt_3b067_0 rfl (lv_at hl 1 rfl) ?_
  refine lv_aload_n hx hb dJ1_charAt_3b067_1 rfl (lv_at hl 0 rfl) ?_
  refine va_tlen (v := nI (jsLen.getD i 0)) hx hb (hG.1.1 i hi).2.2.2 hS rfl dJ1_charAt_3b067_2 ?_
  refine z_callJSv (As := [.int (nI j), .int (nI (jsLen.getD i 0))]) (rest := []) E.1 hl hT hLt hG hw (c_J0_checkIndex_df160 hj hN) (va_cwS 2 hts (z_gS mw_332 mw_333 mw_308 mw_334) rfl rfl rfl (by decide +kernel) ⟨Nat.le_of_ble_eq_true rfl, Nat.le_of_ble_eq_true rfl⟩) rfl rfl (Nat.le_of_ble_eq_true rfl) dJ1_charAt_3b067_3 ⟨Nat.le_of_ble_eq_true rfl, Nat.le_of_ble_eq_true rfl⟩ (fun H locs hw => ?_)
  refine lv_aload_n hx hb dJ1_charAt_3b067_6 rfl (lv_at hl 0 rfl) ?_
  refine lv_iload_n hx hb dJ1_charAt_3b067_7 rfl (lv_at hl 1 rfl) ?_
  refine va_tb (v := .int (jsCh i j)) hx hb (hG.1.1 i hi).2.2.2 hw.2.2.2.1 (vp_in_nI hj hN) (by rw [nI_clamp (by omega)]; rfl) dJ1_charAt_3b067_8 ?_
  refine lv_sipush (v := 255) hx hb dJ1_charAt_3b067_9 (by decide) ?_
  refine lv_iand hx hb dJ1_charAt_3b067_12 ?_
  refine lv_i2c hx hb dJ1_charAt_3b067_13 (js_ch i hi j hj).1 ?_
  exact z_bret E rfl (js_ch i hi j hj).2 hw dJ1_charAt_3b067_14
set_option maxHeartbeats 4000000 in
set_option maxRecDepth 100000 in
theorem c_J0_charAt_5068e {l : Launch} {D : va_G} {cI cZ cM : ClassId} {adK adV : Nat → Nat} {sz i j : Nat} (hi : i < jsN) (hj : j < jsLen.getD i 0) : Met l yJ0_charAt_5068e zwJ0_charAt_5068e rm_J4 (zPcG D (zT cI cZ cM) [.ref (adK i), .int (nI j)] [] sz adK adV) (zQi D (zT cI cZ cM) (jsCh i j) [] (va_A [] sz)) 0 0 (va_A [] sz) := by
  refine z_metG (cc := cJ0_charAt_5068e) (maxL := 2) (ret := (some .char)) (by decide) rfl (Nat.le_of_ble_eq_true rfl) ?_
  intro p e s m below meth c ls E hT hLt hG hsz hw hl
  obtain ⟨⟨hx, hb, hml, hown, hts⟩, hr, hlocks⟩ := id E
  obtain ⟨hK, hP, hD, hS, hA⟩ := id hw
  have hl : lv_has ls 2 [(0, .ref (adK i)), (1, .int (nI j))] := hl
  refine lv_aload_n hx hb dJ0_charAt_5068e_0 rfl (lv_at hl 0 rfl) ?_
  refine z_callJV (As := []) (rest := []) E.1 hl hT hLt hG hw hi (c_J0_isLatin1_aae02 hi) (cwV 0 hts (z_gV mw_324 mw_325 mw_326 mw_308 mw_327) rfl rfl rfl (by decide +kernel) ⟨Nat.le_of_ble_eq_true rfl, Nat.le_of_ble_eq_true rfl⟩) rfl rfl (Nat.le_of_ble_eq_true rfl) dJ0_charAt_5068e_1 ⟨Nat.le_of_ble_eq_true rfl, Nat.le_of_ble_eq_true rfl⟩ (fun H locs hw => ?_)
  refine lv_if_eq (tgt := 16) hx hb dJ0_charAt_5068e_4 (by decide) (fun hc => absurd hc (by decide)) (fun _ => ?_)
  refine lv_aload_n hx hb dJ0_charAt_5068e_7 rfl (lv_at hl 0 rfl) ?_
  refine vk_getf hx hb (hG.1.1 i hi).2.2.1 hw.2.2.2.1 hown (hts _ mw_310) (fun _ h9 => h9) dJ0_charAt_5068e_8 ?_
  refine lv_iload_n hx hb dJ0_charAt_5068e_11 rfl (lv_at hl 1 rfl) ?_
  refine z_callJSi (As := [.ref (adV i), .int (nI j)]) (rest := []) E.1 hl hT hLt hG hw (c_J1_charAt_3b067 hi hj) (va_cwS 2 hts (z_gS mw_328 mw_329 mw_330 mw_331) rfl rfl rfl (by decide +kernel) ⟨Nat.le_of_ble_eq_true rfl, Nat.le_of_ble_eq_true rfl⟩) rfl rfl (Nat.le_of_ble_eq_true rfl) dJ0_charAt_5068e_12 ⟨Nat.le_of_ble_eq_true rfl, Nat.le_of_ble_eq_true rfl⟩ (fun H locs hw => ?_)
  exact z_bret E rfl (js_ch i hi j hj).2 hw dJ0_charAt_5068e_15
