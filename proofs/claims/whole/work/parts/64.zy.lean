/-! Constructors: cells that are made; the world grows. -/
section ZY
variable {p : Program} {l : Launch} {e : Env} {R : Room} {s : State} {m : MethodId} {args : Array Value} {below : List Frame} {meth : Method} {c : Code} {H : Heap} {locs : List Loc} {cells slots : Nat} {Q : State → Prop}
variable {pc : Nat} {ls : Array Slot} {rest st0 : List Value} {D : va_G} {tys : List (ClassId × FieldType)} {A : Nat → Prop} {ws ws' : va_W} {cc : ByteArray} {nL : Nat} {Ts : List Cond} {own : String} {a : Nat} {lvs : List (Nat × Value)} {S : Type} {mc ms : Nat} {wsf : S → va_W} {wsN : Nat → va_W}
/-- what the launch says once for all of arrays of markets and of private members of nest mates -/
def zTn (s : State) : Prop := va_AO "StreetMarket$Market" s ∧ va_Nw (.methodLinkNest RX5 22 yX4_init "StreetMarket") s ∧ va_Nw (.methodLinkNest RX5 46 yX3_init "StreetMarket") s ∧ va_Nw (.methodLinkNest RX5 56 yX1_init "StreetMarket") s ∧ va_Nw (.methodLinkNest RX4 135 yX5_isOutside "StreetMarket") s
theorem zTn.warm {s U : State} (hW : s.WarmedH U.vm) (h : zTn s) : zTn U := ⟨va_AO.moved hW.alike h.1, h.2.1.warmM hW, h.2.2.1.warmM hW, h.2.2.2.1.warmM hW, h.2.2.2.2.warmM hW⟩
theorem zTn.same {u U : State} (hv : U.vm = u.vm) (h : zTn u) : zTn U := ⟨va_AO.moved (by rw [hv]; exact Vm.Alike.refl _) h.1, h.2.1.same rfl hv.symm, h.2.2.1.same rfl hv.symm, h.2.2.2.1.same rfl hv.symm, h.2.2.2.2.same rfl hv.symm⟩
def zPcT (D : va_G) (tys : List (ClassId × FieldType)) (av : List Value) (ws : va_W) (sz : Nat) : Array Value → State → Prop :=
  va_Pc av (fun U => U.heap.size = sz ∧ va_P D vwCl ws U.heap ∧ va_K D vwCl tys U ∧ va_D (fun _ => True) ws ∧ zTn U)
theorem zPcT_blind {av : List Value} {sz : Nat} : FrameBlind (zPcT D tys av ws sz) := fun a U g mk q => by
  obtain ⟨q0, q1, qP, qK, qD, qT⟩ := q
  exact ⟨q0, q1, qP, va_K.moved (u := U) (U := U.calling g mk a) (Vm.Alike.refl U.vm) qK, qD, qT.same rfl⟩
theorem z_kk (a0 a1 a2 a3 a4 a5 : Nat) : va_up (va_up (va_up (va_up (va_up (va_up (fun _ => none) 0 (some a0)) 1 (some a1)) 2 (some a2)) 3 (some a3)) 4 (some a4)) 5 (some a5) = zk a0 a1 a2 a3 a4 a5 := by
  funext i
  match i with
  | 0 => rfl
  | 1 => rfl
  | 2 => rfl
  | 3 => rfl
  | 4 => rfl
  | 5 => rfl
  | k + 6 => simp [va_up, zk]
/-- a new row of markets -/
theorem z_newr (E : CallFix p m c cc nL s args Ts own) (hT : zTn s) (hw : zW D tys A s ws H locs) {index : Nat} (hcl : Cond.classLink own index "StreetMarket$Market" ∈ Ts) (t0 : Nat) {cM : ClassId} (ht0 : tys[t0]? = some (cM, .object "StreetMarket$Market")) {n : Int32} {k : Nat} (hn : ¬ n < 0) (hk : n.toNatClampNeg = k) (hb : k * 4 ≤ 536870912) (hRc : cells + 1 ≤ R.cells) (hRs : slots + k ≤ R.slots) (hs : ∀ q : Nat, ws ++ [(q, .inl (cM, k, .inr (.inr (.inr (.inr (fun _ => none))))))] = wsN q) (hdg : decode cc pc = .ok (.anewarray index, 3))
    (kk : ∀ (q : Nat) (H : Heap), zW D tys A s (wsN q) H locs → W p l e R s m args below meth c H locs (cells + 1) (slots + k) Q (F0 m (pc + 3) ls (.ref q :: rest))) : W p l e R s m args below meth c H locs cells slots Q (F0 m pc ls (.int n :: rest)) := by
  obtain ⟨hK, hP, hD, hS, hA⟩ := hw
  obtain ⟨hx, hcc, hml, hown, hts⟩ := E
  refine va_newq hx hcc hown (hts _ hcl) hT.1 hK hP hD hS hA hn hk hb hRc hRs hdg (fun q cA H1 hK1 hP1 hD1 hS1 => ?_)
  obtain ⟨-, -, -, -, -, e1⟩ := (hK.2 t0 _ ht0).2
  obtain ⟨-, -, -, -, -, e2⟩ := (hK1.2 tys.length (cA, .object "StreetMarket$Market") (by rw [List.getElem?_append_right (Nat.le_refl _), Nat.sub_self]; rfl)).2
  have e3 : cA = cM := Option.some.inj (e2.symm.trans e1)
  subst e3
  exact kk q H1 (by rw [← hs q]; exact ⟨hK, hP1, hD1, hS1, hA⟩)
theorem z_ast (E : CallFix p m c cc nL s args Ts own) (hw : zW D tys A s ws H locs) (q0 t0 qk ci : Nat) {cA : ClassId} {r : vw_C} {n v : Nat} {vs : List Value} {f : Nat → Option Nat} (ha : ws[q0]? = some (a, .inl (cA, n, .inr (.inr (.inr (.inr f)))))) (ht : tys[t0]? = some (cA, .object r.1)) (hv : ws[qk]? = some (v, .inr (ci, vs))) (hc : vwCl[ci]? = some r) {i : Int32} (hin : ¬ (i < 0 ∨ n ≤ i.toNatClampNeg)) (hs : ws.set q0 (a, .inl (cA, n, .inr (.inr (.inr (.inr (va_up f i.toNatClampNeg (some v))))))) = ws') (hdg : decode cc pc = .ok (.aastore, 1))
    (kk : ∀ (H : Heap) (locs : List Loc), zW D tys A s ws' H locs → W p l e R s m args below meth c H locs cells slots Q (F0 m (pc + 1) ls rest)) : W p l e R s m args below meth c H locs cells slots Q (F0 m pc ls (.ref v :: .int i :: .ref a :: rest)) := by
  obtain ⟨hK, hP, hD, hS, hA⟩ := hw
  subst hs
  exact va_astq E.1 E.2.1 hK hP hD hS q0 t0 qk ci ha ht hv hc hin hdg (fun H1 l1 h1 h2 h3 => kk H1 l1 ⟨hK, h1, h2, h3, hA⟩)
def zQvS (D : va_G) (tys : List (ClassId × FieldType)) (wsf : S → va_W) (A : Nat → Prop) : Array Value → State → Outcome → State → Prop :=
  va_Qv (S := S) (fun _ => True) (fun u t => va_P D vwCl (wsf u) t.heap ∧ va_K D vwCl tys t ∧ va_D A (wsf u)) A
theorem z_metI {y : MethodName} {wsY ws1 : List Cond} {rm : Room} {av : List Value} {W0 : va_W} {sz : Nat} {Qc : Array Value → State → Outcome → State → Prop} {maxL : Nat} {ret : Option FieldType} (hyn : y.name = "<init>") (hy : plainName y.cls = true) (hw : wsY = Cond.code y cc maxL ret :: ws1) (hle : (lg_sl av).length ≤ maxL)
    (body : ∀ (p : Program) (e : Env) (s : State) (m : MethodId) (below : List Frame) (meth : Method) (c : Code) (ls : Array Slot), zE p s m av.toArray meth c cc maxL ret wsY y.cls → meth.name = "<init>" → zTn s → s.heap.size = sz → zW D tys (va_A W0 sz) s W0 s.heap [] → lv_has ls maxL (lv_args 0 av) →
      W p l e rm s m av.toArray below meth c s.heap [] 0 0 (MQ below Qc av.toArray s mc ms (va_A W0 sz)) (F0 m 0 ls [])) : Met l y wsY rm (zPcT D tys av W0 sz) Qc mc ms (va_A W0 sz) := by
  refine Met.ofW (cc := cc) (maxL := maxL) (ret := ret) hy hw ?_
  intro p e s m args below meth c s₁ B hml hv
  obtain ⟨rfl, hsz, hP, hK, hD0, hT⟩ := hv
  have hl := lv_entry av (n := maxL) hle
  rw [lg_entry_eq]
  exact body p e s m below meth c _ ⟨⟨B.exec, B.bytes, hml, findClass_of_methodNamed B.named, atoms_spec (ws := wsY) B.pre⟩, B.returns, B.notSynchronized⟩ ((name_of_methodNamed B.named B.method).1.trans hyn) hT hsz ⟨hK, hP, hD0.self, va_S.rf, fun q h => Or.inr (by rw [← hsz]; exact h)⟩ hl
theorem z_obj (E : CallFix p m c cc nL s args Ts own) (hl : lv_has ls nL lvs) {idx : Nat} (hlink : Cond.methodLink own idx objectInit ∈ Ts) (hinst : Cond.instanceMethod objectInit ∈ Ts) (hcode : Cond.code objectInit ⟨#[0xb1]⟩ 1 none ∈ Ts) (hdg : decode cc pc = .ok (.invokespecial idx, 3)) (hframes : 1 ≤ R.frames) (hlocals : (rest.map fun v => v.category).sum + 12 ≤ R.locals)
    (kk : W p l e R s m args below meth c H locs cells slots Q (F0 m (pc + 3) ls rest)) : W p l e R s m args below meth c H locs cells slots Q (F0 m pc ls (.ref a :: rest)) := by
  obtain ⟨hx, hb, hml, hown, hts⟩ := E
  exact W.objInit hx hb hown (hts _ hlink) (hts _ hinst) (hts _ hcode) rfl (by rw [hml]; exact hl.1) rfl hdg hframes (by show 2 * 0 + _ + 12 ≤ _; omega) kk
theorem z_newo (E : CallFix p m c cc nL s args Ts own) (hw : zW D tys A s ws H locs) {C : String} {T : u_T} {N ci index : Nat} (hin : ∀ w ∈ u_ws C T N, w ∈ Ts) (ty : Nat → FieldType) (hty : ∀ k, k < N → parseFieldDescriptor (T k).2.2.1 = some (ty k)) (hcl : Cond.classLink own index C ∈ Ts) (hinst : Cond.instantiable C N ∈ Ts) (hini : Cond.initialized C ∈ Ts) (hc : vwCl[ci]? = some (C, T, N)) {fs : List Value} (hfs : ∀ j, j < N → defaultValue (ty j) = vp_V fs j) (hcells : cells + 1 ≤ R.cells) (hslots : slots + N ≤ R.slots) (hs : ∀ q : Nat, ws ++ [(q, .inr (ci, fs))] = wsN q) (hdg : decode cc pc = .ok (.new index, 3))
    (kk : ∀ (q : Nat) (H : Heap), zW D tys A s (wsN q) H locs → W p l e R s m args below meth c H locs (cells + 1) (slots + N) Q (F0 m (pc + 3) ls (.ref q :: rest))) : W p l e R s m args below meth c H locs cells slots Q (F0 m pc ls rest) := by
  obtain ⟨hK, hP, hD, hS, hA⟩ := hw
  obtain ⟨hx, hb, hml, hown, hts⟩ := E
  exact va_new hx hb hts hin ty hty hown (hts _ hcl) (hts _ hinst) (hts _ hini) hK hP hD hS hA hc hfs hcells hslots hdg (fun q H1 h1 h2 h3 => kk q H1 (by rw [← hs q]; exact ⟨hK, h1, h2, h3, hA⟩))
theorem z_newA {atype : ArrayType} {ty : FieldType} (hty : newarray.typeOf atype = ty) (E : CallFix p m c cc nL s args Ts own) (hw : zW D tys A s ws H locs) (harr : Cond.arrayClass ty ∈ Ts) (t0 : Nat) {cI : ClassId} (ht0 : tys[t0]? = some (cI, ty)) (hf : ∀ (cA : ClassId) (k : Nat), vp_cell cA (k, .inl (fun _ => 0)) = arrV cA k (fun _ => defaultValue ty)) (hra : ∀ (U : State) (cA : ClassId), va_RA U cA ty → U.vm.findClass ("[" ++ ty.toString) = some cA) {n : Int32} {k : Nat} (hn : ¬ n < 0) (hk : n.toNatClampNeg = k) (hb : k * componentBytes ty ≤ 536870912) (hRc : cells + 1 ≤ R.cells) (hRs : slots + k ≤ R.slots) (hs : ∀ q : Nat, ws ++ [(q, .inl (cI, k, .inl (fun _ => 0)))] = wsN q) (hdg : decode cc pc = .ok (.newarray atype, 2))
    (kk : ∀ (q : Nat) (H : Heap), zW D tys A s (wsN q) H locs → W p l e R s m args below meth c H locs (cells + 1) (slots + k) Q (F0 m (pc + 2) ls (.ref q :: rest))) : W p l e R s m args below meth c H locs cells slots Q (F0 m pc ls (.int n :: rest)) := by
  obtain ⟨hK, hP, hD, hS, hA⟩ := hw
  obtain ⟨hx, hcc, hml, hown, hts⟩ := E
  subst hk
  refine va_newa (atype := atype) (ty := ty) (a0 := (n.toNatClampNeg, .inl (fun _ => 0))) hx hcc (by rw [hty]; exact hts _ harr) hty hK hP hD hS hA (fun cA => hf cA _) hn rfl hb hRc hRs hdg (fun q cA H1 hK1 hP1 hD1 hS1 => ?_)
  have e1 := hra s cI (hK.2 t0 _ ht0).2
  have e2 := hra s cA (hK1.2 tys.length (cA, ty) (by rw [List.getElem?_append_right (Nat.le_refl _), Nat.sub_self]; rfl)).2
  have e3 : cA = cI := Option.some.inj (e2.symm.trans e1)
  subst e3
  exact kk q H1 (by rw [← hs q]; exact ⟨hK, hP1, hD1, hS1, hA⟩)
theorem z_ra_int (U : State) (cA : ClassId) (h : va_RA U cA .int) : U.vm.findClass ("[" ++ (FieldType.int).toString) = some cA := h
theorem z_ra_bool (U : State) (cA : ClassId) (h : va_RA U cA .boolean) : U.vm.findClass ("[" ++ (FieldType.boolean).toString) = some cA := h
theorem z_putF (E : CallFix p m c cc nL s args Ts own) (hin2 : meth.name = "<init>") (hw : zW D tys A s ws H locs) {C : String} {T : u_T} {N ci index : Nat} (hin : ∀ w ∈ u_ws C T N, w ∈ Ts) (ty0 : Nat → FieldType) (hty : ∀ k, k < N → parseFieldDescriptor (T k).2.2.1 = some (ty0 k)) (hnm : ∀ a, a < N → ∀ b, b < N → a ≠ b → (T a).2.1 ≠ (T b).2.1) (q0 : Nat) {fs : List Value} (he : ws[q0]? = some (a, .inr (ci, fs))) (hc : vwCl[ci]? = some (C, T, N)) (k : Nat) (hk : k < N) (hlink : Cond.fieldLink own index (T k).1 (T k).2.1 (T k).2.2.1 ∈ Ts) (hfin : (T k).2.2.2 = true) (hdecl : (T k).1 = own) {v : Value} (hn : narrow (ty0 k) v = v) (hfit : fits (ty0 k) v = true) (hl : k < fs.length) (hs : ws.set q0 (a, .inr (ci, fs.set k v)) = ws')
    (hdg : decode cc pc = .ok (.putfield index, 3)) (kk : ∀ (H : Heap) (locs : List Loc), zW D tys A s ws' H locs → W p l e R s m args below meth c H locs cells slots Q (F0 m (pc + 3) ls rest)) : W p l e R s m args below meth c H locs cells slots Q (F0 m pc ls (v :: .ref a :: rest)) := by
  obtain ⟨hK, hP, hD, hS, hA⟩ := hw
  subst hs
  exact va_putF E.1 E.2.1 E.2.2.2.2 hin ty0 hty hnm E.2.2.2.1 hK hP hD hS q0 he hc k hk (E.2.2.2.2 _ hlink) (fun _ h9 => h9) hfin hin2 hdecl (hty k hk) hn hfit hl hdg (fun H1 l1 h1 h2 h3 => kk H1 l1 ⟨hK, h1, h2, h3, hA⟩)
theorem z_vretS {ret : Option FieldType} (E : zE p s m args meth c cc nL ret Ts own) (hret : ret = none) (hw : zW D tys A s ws H locs) (u : S) (hu : wsf u = ws) (hc : cells ≤ mc) (hs : slots ≤ ms) (hdg : decode cc pc = .ok (.return_, 1)) : W p l e R s m args below meth c H locs cells slots (MQ below (zQvS D tys wsf A) args s mc ms A) (F0 m pc ls []) := by
  obtain ⟨hK, hP, hD, hS, hA⟩ := hw
  obtain ⟨⟨hx, hb, -, -, -⟩, hr, hlocks⟩ := E
  subst hu
  refine W.widen hc hs ?_
  exact W.vret hx hb (hr.trans hret) (fun t ht hW => ⟨⟨u, rfl, trivial, by rw [ht]; exact hP, va_K.moved hW.alike hK, hD⟩, hS.F ht⟩) hS.2.2 hdg hlocks
/-- behind a call that made cells: the callee's world lies at isD now, the rest where it was -/
theorem z_afterG {wc w1 wr : va_W} {H1 : Heap} {locs1 : List Loc} {t : State} (hw : zW D tys A s ws H locs) (isC isD isR : List Nat) (hC : isC.map (fun i => ws[i]?) = wc.map some) (hC1 : isD.map (fun i => ws'[i]?) = w1.map some) (hR : isR.map (fun i => ws[i]?) = wr.map some) (hR1 : isR.map (fun i => ws'[i]?) = wr.map some) (hall : z_covs isD isR ws'.length = true) (hsub : ∀ i ∈ isC, i ∈ isD)
    (ht : t.heap = H1) (hB : va_P D vwCl w1 t.heap ∧ va_K D vwCl tys t ∧ va_D (va_A wc H.size) w1) (hk : ∀ q : Nat, q < H.size → ¬ va_A wc H.size q → H1[q]? = H[q]?) (hS1 : va_S A s.heap H1 locs1) : zW D tys A s ws' H1 locs1 := by
  obtain ⟨hK, hP, hD, hS, hA⟩ := hw
  obtain ⟨hP1, hK1, hD1⟩ := hB
  rw [ht] at hP1
  have hin : ∀ (k : Nat) (q : Nat × va_E), ws'[k]? = some q → (∃ j : Nat, isD[j]? = some k ∧ w1[j]? = some q) ∨ (ws[k]? = some q ∧ ¬ va_A wc H.size q.1) := by
    intro k q hq
    by_cases hc : k ∈ isD
    · obtain ⟨j, hj⟩ := List.getElem?_of_mem hc
      have h1 : (isD.map (fun i => ws'[i]?))[j]? = some (some q) := by rw [List.getElem?_map, hj]; exact congrArg some hq
      rw [hC1, List.getElem?_map] at h1
      cases hz : w1[j]? with
      | none => rw [hz] at h1; cases h1
      | some x =>
        rw [hz] at h1
        have h2 : x = q := Option.some.inj (Option.some.inj h1)
        rw [h2] at hz
        exact Or.inl ⟨j, hj, hz⟩
    · have hkl : k < ws'.length := (List.getElem?_eq_some_iff.mp hq).1
      have hr : k ∈ isR := (z_covs_mem hall k hkl).resolve_left hc
      obtain ⟨j, hj⟩ := List.getElem?_of_mem hr
      have h1 : (isR.map (fun i => ws'[i]?))[j]? = some (some q) := by rw [List.getElem?_map, hj]; exact congrArg some hq
      rw [hR1, ← hR, List.getElem?_map, hj] at h1
      have h2 : ws[k]? = some q := Option.some.inj h1
      refine Or.inr ⟨h2, ?_⟩
      rintro (⟨j2, e2, h3⟩ | h3)
      · obtain ⟨i, h4, h5⟩ := z_at hC h3
        have h6 : i = k := hD.1 i k _ _ h5 h2 rfl
        exact hc (h6 ▸ hsub i (List.mem_of_getElem? h4))
      · exact absurd ((hP k q h2).lt) (Nat.not_lt.mpr h3)
  refine ⟨hK, fun k q hq => ?_, ⟨fun i j x y hx hy hxy => ?_, fun k q hq => ?_⟩, hS1, hA⟩
  · rcases hin k q hq with ⟨j, -, h1⟩ | ⟨h1, h2⟩
    · exact hP1 j q h1
    · exact (hP k q h1).kept (hk q.1 ((hP k q h1).lt) h2)
  · rcases hin i x hx with ⟨i1, h1, h2⟩ | ⟨h1, h2⟩
    · rcases hin j y hy with ⟨j1, h3, h4⟩ | ⟨h3, h4⟩
      · have h5 := hD1.1 i1 j1 x y h2 h4 hxy
        rw [h5] at h1
        exact Option.some.inj (h1.symm.trans h3)
      · exact absurd (hxy ▸ hD1.2 i1 x h2) h4
    · rcases hin j y hy with ⟨j1, h3, h4⟩ | ⟨h3, h4⟩
      · exact absurd (hxy.symm ▸ hD1.2 j1 y h4) h2
      · exact hD.1 i j x y h1 h3 hxy
  · rcases hin k q hq with ⟨j, -, h1⟩ | ⟨h1, h2⟩
    · exact va_free hD hS hA isC hC q.1 (hD1.2 j q h1)
    · exact hD.2 k q h1
/-- the closed checks of such a call -/
def z_chkG (N N1 : Nat) (rsC rsD rsR : List (Nat × Nat)) : Bool := z_bnd N rsC && (z_bnd N rsR && (z_bnd N1 rsD && (z_bnd N1 rsR && (va_nd (z_idx rsC) && (z_covs (z_idx rsD) (z_idx rsR) N1 && (z_idx rsC).all (fun i => z_memb i (z_idx rsD)))))))
/-- new C(..): the constructor's call -/
theorem z_callI (E : CallFix p m c cc nL s args Ts own) (hl : lv_has ls nL lvs) (hT : zTn s) (hw : zW D tys A s ws H locs) {y : MethodName} {wsY : List Cond} {rm : Room} {b mc1 ms1 n index maxL : Nat} {As : List Value} {wc wr : va_W} {w1 wsn : S → va_W} {bytes : ByteArray}
    (hM : Met l y wsY rm (zPcT D tys (.ref b :: As) wc H.size) (zQvS D tys w1 (va_A wc H.size)) mc1 ms1 (va_A wc H.size)) (cw : CallB R s args own index y bytes maxL none wsY rm mc1 ms1 n ∧ y.name = "<init>" ∧ (Cond.instanceMethod y).before args s = true) (N N1 : Nat) (rsC rsD rsR : List (Nat × Nat)) (hN : ws.length = N) (hN1 : ∀ u, (wsn u).length = N1) (hC : z_rng ws rsC = wc) (hC1 : ∀ u, z_rng (wsn u) rsD = w1 u) (hR : z_rng ws rsR = wr) (hR1 : ∀ u, z_rng (wsn u) rsR = wr) (hchk : z_chkG N N1 rsC rsD rsR = true)
    (hAs : As.length = n) (hst : st0 = As.reverse ++ .ref b :: rest) (hcat : (rest.map fun v => v.category).sum ≤ 8) (hdg : decode cc pc = .ok (.invokespecial index, 3)) (hroom : cells + mc1 ≤ R.cells ∧ slots + ms1 ≤ R.slots)
    (kk : ∀ (u : S) (H : Heap) (locs : List Loc), zW D tys A s (wsn u) H locs → W p l e R s m args below meth c H locs (cells + mc1) (slots + ms1) Q (F0 m (pc + 3) ls rest)) : W p l e R s m args below meth c H locs cells slots Q (F0 m pc ls st0) := by
  obtain ⟨hK, hP, hD, hS, hA⟩ := id hw
  obtain ⟨hb1, hchk⟩ := (Bool.and_eq_true _ _).mp hchk
  obtain ⟨hb2, hchk⟩ := (Bool.and_eq_true _ _).mp hchk
  obtain ⟨hb3, hchk⟩ := (Bool.and_eq_true _ _).mp hchk
  obtain ⟨hb4, hchk⟩ := (Bool.and_eq_true _ _).mp hchk
  obtain ⟨hnC, hchk⟩ := (Bool.and_eq_true _ _).mp hchk
  obtain ⟨hall, hsub⟩ := (Bool.and_eq_true _ _).mp hchk
  have hsub : ∀ i ∈ z_idx rsC, i ∈ z_idx rsD := fun i hi => z_memb_mem (List.all_eq_true.mp hsub i hi)
  have hC := (z_rng_idx ws rsC (by rw [hN]; exact hb1)).trans (by rw [hC])
  have hC1 := fun u => (z_rng_idx (wsn u) rsD (by rw [hN1]; exact hb3)).trans (by rw [hC1])
  have hR := (z_rng_idx ws rsR (by rw [hN]; exact hb2)).trans (by rw [hR])
  have hR1 := fun u => (z_rng_idx (wsn u) rsR (by rw [hN1]; exact hb4)).trans (by rw [hR1])
  have hall : ∀ u, z_covs (z_idx rsD) (z_idx rsR) (wsn u).length = true := fun u => by rw [hN1]; exact hall
  generalize z_idx rsC = isC at hC hnC hsub
  generalize z_idx rsD = isD at hC1 hall hsub
  generalize z_idx rsR = isR at hR hR1 hall
  have hPc := z_cut hP isC hC
  have hDc := hD.sub (ws' := wc) isC hnC hC
  have hFc := va_free hD hS hA isC hC
  refine va_callv (va_runI (As := As) (rest := rest) E hM cw ⟨zPcT_blind, fun U hU hW => ⟨rfl, by rw [hU], by rw [hU]; exact hPc, va_K.moved hW.alike hK, hDc.weaken (fun _ _ _ _ => trivial), hT.warm hW⟩⟩ rfl hAs hl.1 hst (lv_room hcat) hdg hroom) hS (fun q _ h => hFc q h) hFc (fun u t H1 locs1 ht hvm hp hB hz1 hk1 hS1 => ?_)
  exact kk u H1 locs1 (z_afterG hw isC isD isR hC (hC1 u) hR (hR1 u) (hall u) hsub ht hB hk1 hS1)
/-- .. a private constructor of a nest mate -/
theorem z_callIN (E : CallFix p m c cc nL s args Ts own) (hl : lv_has ls nL lvs) (hT : zTn s) (hw : zW D tys A s ws H locs) {y : MethodName} {wsY : List Cond} {rm : Room} {b mc1 ms1 n index maxL : Nat} {As : List Value} {wc wr : va_W} {w1 wsn : S → va_W} {bytes : ByteArray} {host : String}
    (hM : Met l y wsY rm (zPcT D tys (.ref b :: As) wc H.size) (zQvS D tys w1 (va_A wc H.size)) mc1 ms1 (va_A wc H.size)) (cw : va_CN R s args own index y host bytes maxL none wsY rm mc1 ms1 n ∧ y.name = "<init>" ∧ (Cond.instanceMethod y).before args s = true) (N N1 : Nat) (rsC rsD rsR : List (Nat × Nat)) (hN : ws.length = N) (hN1 : ∀ u, (wsn u).length = N1) (hC : z_rng ws rsC = wc) (hC1 : ∀ u, z_rng (wsn u) rsD = w1 u) (hR : z_rng ws rsR = wr) (hR1 : ∀ u, z_rng (wsn u) rsR = wr) (hchk : z_chkG N N1 rsC rsD rsR = true)
    (hAs : As.length = n) (hst : st0 = As.reverse ++ .ref b :: rest) (hcat : (rest.map fun v => v.category).sum ≤ 8) (hdg : decode cc pc = .ok (.invokespecial index, 3)) (hroom : cells + mc1 ≤ R.cells ∧ slots + ms1 ≤ R.slots)
    (kk : ∀ (u : S) (H : Heap) (locs : List Loc), zW D tys A s (wsn u) H locs → W p l e R s m args below meth c H locs (cells + mc1) (slots + ms1) Q (F0 m (pc + 3) ls rest)) : W p l e R s m args below meth c H locs cells slots Q (F0 m pc ls st0) := by
  obtain ⟨hK, hP, hD, hS, hA⟩ := id hw
  obtain ⟨hb1, hchk⟩ := (Bool.and_eq_true _ _).mp hchk
  obtain ⟨hb2, hchk⟩ := (Bool.and_eq_true _ _).mp hchk
  obtain ⟨hb3, hchk⟩ := (Bool.and_eq_true _ _).mp hchk
  obtain ⟨hb4, hchk⟩ := (Bool.and_eq_true _ _).mp hchk
  obtain ⟨hnC, hchk⟩ := (Bool.and_eq_true _ _).mp hchk
  obtain ⟨hall, hsub⟩ := (Bool.and_eq_true _ _).mp hchk
  have hsub : ∀ i ∈ z_idx rsC, i ∈ z_idx rsD := fun i hi => z_memb_mem (List.all_eq_true.mp hsub i hi)
  have hC := (z_rng_idx ws rsC (by rw [hN]; exact hb1)).trans (by rw [hC])
  have hC1 := fun u => (z_rng_idx (wsn u) rsD (by rw [hN1]; exact hb3)).trans (by rw [hC1])
  have hR := (z_rng_idx ws rsR (by rw [hN]; exact hb2)).trans (by rw [hR])
  have hR1 := fun u => (z_rng_idx (wsn u) rsR (by rw [hN1]; exact hb4)).trans (by rw [hR1])
  have hall : ∀ u, z_covs (z_idx rsD) (z_idx rsR) (wsn u).length = true := fun u => by rw [hN1]; exact hall
  generalize z_idx rsC = isC at hC hnC hsub
  generalize z_idx rsD = isD at hC1 hall hsub
  generalize z_idx rsR = isR at hR hR1 hall
  have hPc := z_cut hP isC hC
  have hDc := hD.sub (ws' := wc) isC hnC hC
  have hFc := va_free hD hS hA isC hC
  refine va_callv (va_runIN (As := As) (rest := rest) E hM cw ⟨zPcT_blind, fun U hU hW => ⟨rfl, by rw [hU], by rw [hU]; exact hPc, va_K.moved hW.alike hK, hDc.weaken (fun _ _ _ _ => trivial), hT.warm hW⟩⟩ rfl hAs hl.1 hst (lv_room hcat) hdg hroom) hS (fun q _ h => hFc q h) hFc (fun u t H1 locs1 ht hvm hp hB hz1 hk1 hS1 => ?_)
  exact kk u H1 locs1 (z_afterG hw isC isD isR hC (hC1 u) hR (hR1 u) (hall u) hsub ht hB hk1 hS1)
end ZY
