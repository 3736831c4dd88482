def zbo (x : Int32) : Int32 := if x = 0 then 0 else 1
def zboL (x : Int32) : Int64 := if x = 0 then 0 else 1
section ZBO
variable {p : Program} {l : Launch} {e : Env} {R : Room} {s : State} {m : MethodId} {args : Array Value} {below : List Frame} {meth : Method} {c : Code} {H : Heap} {locs : List Loc} {cells slots : Nat} {Q : State → Prop} {cc : ByteArray} {pc : Nat} {ls : Array Slot} {rest : List Value}
theorem z_bool {x : Int32} (hx : p.tables.exec = Jvm.exec) (hb : c.code = cc) (d1 : decode cc pc = .ok (.ifCond .eq 7, 3)) (d2 : decode cc (pc + 3) = .ok (.iconst 1, 1)) (d3 : decode cc (pc + 4) = .ok (.goto 4, 3)) (d4 : decode cc (pc + 7) = .ok (.iconst 0, 1))
    (kk : W p l e R s m args below meth c H locs cells slots Q (F0 m (pc + 8) ls (.int (zbo x) :: rest))) : W p l e R s m args below meth c H locs cells slots Q (F0 m pc ls (.int x :: rest)) := by
  refine lv_if_eq (tgt := pc + 7) hx hb d1 (by omega) (fun hc => ?_) (fun hc => ?_)
  · refine lv_iconst (v := 0) hx hb d4 (by decide) ?_
    rw [show zbo x = 0 from if_pos hc] at kk
    exact kk
  · refine lv_iconst (v := 1) hx hb d2 (by decide) ?_
    refine lv_goto (tgt := pc + 8) hx hb d3 (by omega) ?_
    rw [show zbo x = 1 from if_neg hc] at kk
    exact kk
theorem z_boolL {x : Int32} (hx : p.tables.exec = Jvm.exec) (hb : c.code = cc) (d1 : decode cc pc = .ok (.ifCond .eq 7, 3)) (d2 : decode cc (pc + 3) = .ok (.lconst 1, 1)) (d3 : decode cc (pc + 4) = .ok (.goto 4, 3)) (d4 : decode cc (pc + 7) = .ok (.lconst 0, 1))
    (kk : W p l e R s m args below meth c H locs cells slots Q (F0 m (pc + 8) ls (.long (zboL x) :: rest))) : W p l e R s m args below meth c H locs cells slots Q (F0 m pc ls (.int x :: rest)) := by
  refine lv_if_eq (tgt := pc + 7) hx hb d1 (by omega) (fun hc => ?_) (fun hc => ?_)
  · refine lv_lconst (v := 0) hx hb d4 (by decide) ?_
    rw [show zboL x = 0 from if_pos hc] at kk
    exact kk
  · refine lv_lconst (v := 1) hx hb d2 (by decide) ?_
    refine lv_goto (tgt := pc + 8) hx hb d3 (by omega) ?_
    rw [show zboL x = 1 from if_neg hc] at kk
    exact kk
end ZBO
theorem lg_cmp_self (x : Int64) : lg_cmp x x = 0 := by
  unfold lg_cmp
  simp
theorem z_gSL {k : Cond} {own : String} {idx : Nat} {y : MethodName} {cc : ByteArray} {mL : Nat} {ret : Option FieldType} {hh : List (Nat × Nat × Nat × Nat)} (h1 : Cond.methodLink own idx y ∈ wsLL) (h2 : Cond.static y ∈ wsLL) (h3 : Cond.initialized y.cls ∈ wsLL) (h5 : Cond.codeWith y cc mL ret hh ∈ wsLL) : GoodIn (k :: wsLL) (va_wsS own idx y (Cond.codeWith y cc mL ret hh :: wsLL)) := by
  intro w h
  rcases List.mem_append.mp h with h | h
  · simp only [List.mem_cons, List.not_mem_nil, or_false] at h
    rcases h with h | h | h <;> subst h
    · exact z_goodL h1
    · exact z_goodL h2
    · exact z_goodL h3
  · rcases List.mem_cons.mp h with h | h
    · subst h; exact z_goodL h5
    · exact z_goodL h

section ZMG
variable {p : Program} {l : Launch} {e : Env} {R : Room} {s : State} {m : MethodId} {args : Array Value} {below : List Frame} {meth : Method} {c : Code} {H : Heap} {locs : List Loc} {cells slots : Nat} {Q : State → Prop} {cc : ByteArray} {pc nL a : Nat} {ls : Array Slot} {rest st0 : List Value} {lvs : List (Nat × Value)} {D : va_G} {tys tysC : List (ClassId × FieldType)} {ws ws' : va_W} {A : Nat → Prop} {Ts : List Cond} {own : String} {mc ms : Nat} {adK adV : Nat → Nat} {hh : List (Nat × Nat × Nat × Nat)}
theorem z_callMGVi (E : CallFix p m c cc nL s args Ts own) (hT : zTn s) (hLt : zLt adK s) (hG : zSg adK adV A s s.heap) (hty : ∀ U, va_K D vwCl tys U → va_K D vwCl tysC U) (hl : lv_has ls nL lvs) (hw : zW D tys A s ws H locs) {y : MethodName} {wsY : List Cond} {rm : Room} {mc1 ms1 n index maxL : Nat} {As : List Value} {wc w1 wr : va_W} {bytes : ByteArray} {ret : Option FieldType} {b ci q0 : Nat} {C : String} {T : u_T} {N : Nat} {fs : List Value} {r1 : Int32}
    (hM : Met l y wsY rm (zPcG D tysC (.ref b :: As) wc H.size adK adV) (zQi D tysC r1 w1 (va_A wc H.size)) mc1 ms1 (va_A wc H.size)) (cw : CallW R s args own C index y bytes maxL ret wsY rm mc1 ms1 n) (N9 : Nat) (rsC rsR : List (Nat × Nat)) (hN : ws.length = N9) (hN1 : ws'.length = N9) (hC : z_rng ws rsC = wc) (hC1 : z_rng ws' rsC = w1) (hR : z_rng ws rsR = wr) (hR1 : z_rng ws' rsR = wr) (hchk : z_chk N9 rsC rsR = true)
    (hci : vwCl[ci]? = some (C, T, N)) (hq : wc[q0]? = some (b, .inr (ci, fs))) (hAs : As.length = n) (hst : st0 = As.reverse ++ .ref b :: rest) (hcat : (rest.map fun v => v.category).sum ≤ 8) (hdg : decode cc pc = .ok (.invokevirtual index, 3)) (hroom : cells + mc1 ≤ R.cells ∧ slots + ms1 ≤ R.slots)
    (kk : ∀ (H : Heap) (locs : List Loc), zW D tys A s ws' H locs → W p l e R s m args below meth c H locs (cells + mc1) (slots + ms1) Q (F0 m (pc + 3) ls (.int r1 :: rest))) : W p l e R s m args below meth c H locs cells slots Q (F0 m pc ls st0) := by
  obtain ⟨hK, hP, hD, hS, hA⟩ := id hw
  obtain ⟨hb1, hchk⟩ := (Bool.and_eq_true _ _).mp hchk
  obtain ⟨hb2, hchk⟩ := (Bool.and_eq_true _ _).mp hchk
  obtain ⟨hnC, hall⟩ := (Bool.and_eq_true _ _).mp hchk
  have hC := (z_rng_idx ws rsC (by rw [hN]; exact hb1)).trans (by rw [hC])
  have hC1 := (z_rng_idx ws' rsC (by rw [hN1]; exact hb1)).trans (by rw [hC1])
  have hR := (z_rng_idx ws rsR (by rw [hN]; exact hb2)).trans (by rw [hR])
  have hR1 := (z_rng_idx ws' rsR (by rw [hN1]; exact hb2)).trans (by rw [hR1])
  rw [← hN1] at hall
  generalize z_idx rsC = isC at hC hC1 hnC hall
  generalize z_idx rsR = isR at hR hR1 hall
  have hPc := z_cut hP isC hC
  have hDc := hD.sub (ws' := wc) isC hnC hC
  have hFc := va_free hD hS hA isC hC
  refine va_calli (va_runV (As := As) (rest := rest) E hM cw ⟨zPcG_blind, va_recv hK hPc hci hq, fun U hU hW => ⟨rfl, by rw [hU], by rw [hU]; exact hPc, hty _ (va_K.moved hW.alike hK), hDc.weaken (fun _ _ _ _ => trivial), hT.warm hW, hLt.warm hW, hG.call hS hFc hU hW.alike⟩⟩ rfl hAs hl.1 hst (lv_room hcat) hdg hroom) hS (fun q _ h => hFc q h) hFc (fun r u t H1 locs1 ht hvm hp hB hz1 hk1 hS1 => ?_)
  cases hp
  exact kk H1 locs1 (z_after hw isC isR hC hC1 hR hR1 hall ht ⟨hB.1, va_K.moved hvm hK, hB.2.2⟩ hk1 hS1)

theorem z_newl (E : CallFix p m c cc nL s args Ts own) (hw : zW D tys A s ws H locs) (harr : Cond.arrayClass .long ∈ Ts) (t0 : Nat) {cI : ClassId} (ht0 : tys[t0]? = some (cI, .long)) {n : Int32} (hn : ¬ n < 0) (hb : n.toNatClampNeg ≤ 67108864) (hRc : cells + 1 ≤ R.cells) (hRs : slots + n.toNatClampNeg ≤ R.slots) (hdg : decode cc pc = .ok (.newarray .long, 2))
    (kk : ∀ (q : Nat) (H : Heap), zW D tys A s (ws ++ [(q, .inl (cI, n.toNatClampNeg, .inr (.inl (fun _ => 0))))]) H locs → W p l e R s m args below meth c H locs (cells + 1) (slots + n.toNatClampNeg) Q (F0 m (pc + 2) ls (.ref q :: rest))) : W p l e R s m args below meth c H locs cells slots Q (F0 m pc ls (.int n :: rest)) := by
  obtain ⟨hK, hP, hD, hS, hA⟩ := hw
  obtain ⟨hx, hcc, hml, hown, hts⟩ := E
  refine va_newa (atype := .long) (ty := .long) (a0 := (n.toNatClampNeg, .inr (.inl (fun _ => 0)))) hx hcc (hts _ harr) rfl hK hP hD hS hA (fun cA => rfl) hn rfl (by show n.toNatClampNeg * 8 ≤ _; omega) hRc hRs hdg (fun q cA H1 hK1 hP1 hD1 hS1 => ?_)
  have e1 : s.vm.findClass ("[" ++ (FieldType.long).toString) = some cI := (hK.2 t0 _ ht0).2
  have e2 : s.vm.findClass ("[" ++ (FieldType.long).toString) = some cA := (hK1.2 tys.length (cA, .long) (by rw [List.getElem?_append_right (Nat.le_refl _), Nat.sub_self]; rfl)).2
  have e3 : cA = cI := Option.some.inj (e2.symm.trans e1)
  subst e3
  exact kk q H1 ⟨hK, hP1, hD1, hS1, hA⟩
theorem z_newd (E : CallFix p m c cc nL s args Ts own) (hw : zW D tys A s ws H locs) (harr : Cond.arrayClass .double ∈ Ts) (t0 : Nat) {cI : ClassId} (ht0 : tys[t0]? = some (cI, .double)) {n : Int32} (hn : ¬ n < 0) (hb : n.toNatClampNeg ≤ 67108864) (hRc : cells + 1 ≤ R.cells) (hRs : slots + n.toNatClampNeg ≤ R.slots) (hdg : decode cc pc = .ok (.newarray .double, 2))
    (kk : ∀ (q : Nat) (H : Heap), zW D tys A s (ws ++ [(q, .inl (cI, n.toNatClampNeg, .inr (.inr (.inr (.inl (fun _ => 0))))))]) H locs → W p l e R s m args below meth c H locs (cells + 1) (slots + n.toNatClampNeg) Q (F0 m (pc + 2) ls (.ref q :: rest))) : W p l e R s m args below meth c H locs cells slots Q (F0 m pc ls (.int n :: rest)) := by
  obtain ⟨hK, hP, hD, hS, hA⟩ := hw
  obtain ⟨hx, hcc, hml, hown, hts⟩ := E
  refine va_newa (atype := .double) (ty := .double) (a0 := (n.toNatClampNeg, .inr (.inr (.inr (.inl (fun _ => 0)))))) hx hcc (hts _ harr) rfl hK hP hD hS hA (fun cA => rfl) hn rfl (by show n.toNatClampNeg * 8 ≤ _; omega) hRc hRs hdg (fun q cA H1 hK1 hP1 hD1 hS1 => ?_)
  have e1 : s.vm.findClass ("[" ++ (FieldType.double).toString) = some cI := (hK.2 t0 _ ht0).2
  have e2 : s.vm.findClass ("[" ++ (FieldType.double).toString) = some cA := (hK1.2 tys.length (cA, .double) (by rw [List.getElem?_append_right (Nat.le_refl _), Nat.sub_self]; rfl)).2
  have e3 : cA = cI := Option.some.inj (e2.symm.trans e1)
  subst e3
  exact kk q H1 ⟨hK, hP1, hD1, hS1, hA⟩

end ZMG
