def wsE : List Cond := [Cond.initialized RL, Cond.classLink RL 8 RX5, Cond.instantiable RX5 12, Cond.initialized RX5, Cond.methodLink RL 103 yX5_init, Cond.instanceMethod yX5_init, Cond.code yX5_init cX5_init 1 none, Cond.classLink RL 104 RX6, Cond.instantiable RX6 28, Cond.initialized RX6, Cond.methodLink RL 106 yX6_init, Cond.instanceMethod yX6_init, Cond.code yX6_init cX6_init 2 none, Cond.arrayClass .int, Cond.arrayClass .boolean, Cond.arrayClass .long, Cond.arrayClass .double, Cond.arrayOver (.object "StreetMarket$Market"), Cond.castable (zEx 1) (zEx 1), Cond.castable (zEx 2) (zEx 2), Cond.castable (zEx 3) (zEx 3), Cond.declares (Bundle.initS "java/lang/RuntimeException"), Cond.declares (Bundle.initS "java/lang/Exception"), Cond.declares (Bundle.initS Bundle.tN), Cond.methodLinkNest RX5 22 yX4_init "StreetMarket", Cond.methodLinkNest RX5 46 yX3_init "StreetMarket", Cond.methodLinkNest RX5 56 yX1_init "StreetMarket", Cond.methodLinkNest RX4 135 yX5_isOutside "StreetMarket", Cond.laysStatic Bundle.tN "UNASSIGNED_STACK" Bundle.steD, Cond.laysStatic Bundle.tN "SUPPRESSED_SENTINEL" Bundle.listD, Cond.laysStatic "java/lang/String" "COMPACT_STRINGS" "Z", Cond.laysStatic "jdk/internal/util/Preconditions" "SIOOBE_FORMATTER" "Ljava/util/function/BiFunction;", Cond.initialized Bundle.tN, Cond.initialized "java/lang/String", Cond.initialized "jdk/internal/util/Preconditions", Cond.instantiable RX0 3, Cond.instantiable RX1 7, Cond.instantiable RX2 14, Cond.instantiable RX3 10, Cond.instantiable RX4 6, Cond.stringRef RX4 49 "row", Cond.stringRef RX4 59 "trader", Cond.stringRef RX4 64 "clash", Cond.stringRef RX4 69 "covers", Cond.stringRef RX4 93 "roof", Cond.stringRef RX4 102 "front", Cond.stringRef RX4 108 "limit", Cond.stringRef RX4 110 "cover", Cond.stringRef RX6 82 " row trader front limit cover clash covers roof "]
def fl1 : List Cond := flatC (Jvm.Cond.and given_1 narrow_1)
def wsF : List Cond := [Cond.not (.castable (zEx 2) (zEx 1)), Cond.not (.castable (zEx 3) (zEx 1)), Cond.not (.castable (zEx 3) (zEx 2)), Cond.isRef (.static Bundle.tN "UNASSIGNED_STACK" Bundle.steD), Cond.isRef (.static Bundle.tN "SUPPRESSED_SENTINEL" Bundle.listD), Cond.eq (.static "java/lang/String" "COMPACT_STRINGS" "Z") (.int 1), Cond.isRef (.static "jdk/internal/util/Preconditions" "SIOOBE_FORMATTER" "Ljava/util/function/BiFunction;")]
def jsT : List Term := [.string RX4 49, .string RX4 59, .string RX4 64, .string RX4 69, .string RX4 93, .string RX4 102, .string RX4 108, .string RX4 110, .string RX6 82]
theorem sb_wsE : ∀ w ∈ wsE, w ∈ lw_tbl := z_plc (ps := [91, 111, 112, 92, 113, 114, 115, 1116, 1117, 98, 1118, 1119, 1120, 145, 218, 1586, 1587, 226, 790, 620, 540, 542, 544, 546, 121, 241, 280, 733, 565, 567, 666, 686, 99, 105, 107, 220, 279, 147, 240, 120, 652, 741, 757, 766, 736, 746, 751, 752, 1246]) (n := 49) (by decide +kernel) (by decide +kernel)
def jsP : List Nat := [98, 113, 150, 159, 105, 123, 132, 141, 779]
def jsTm (i : Nat) : Term := jsT.getD i (.string RX6 82)
theorem z_mem {l : List Cond} {i : Nat} {w : Cond} (h : l[i]? = some w) : w ∈ l := List.mem_of_getElem? h
theorem js_0 : ∀ i, i < 9 → fl1[jsP.getD i 0]? = some (Cond.exactly (jsTm i) "java/lang/String") := by decide +kernel
theorem js_1 : ∀ i, i < 9 → fl1[jsP.getD i 0 + 1]? = some (Cond.eq (.field (jsTm i) "java/lang/String" "coder" "B") (.int 0)) := by decide +kernel
theorem js_2 : ∀ i, i < 9 → fl1[jsP.getD i 0 + 2]? = some (Cond.arrayOf (.field (jsTm i) "java/lang/String" "value" "[B") .byte) := by decide +kernel
theorem js_3 : ∀ i, i < 9 → fl1[jsP.getD i 0 + 3]? = some (Cond.eq (.length (.field (jsTm i) "java/lang/String" "value" "[B")) (.int (Int32.ofNat (jsLen.getD i 0)))) := by decide +kernel
theorem js_4 : ∀ i, i < 9 → ∀ j, j < jsLen.getD i 0 → fl1[jsP.getD i 0 + 4 + j]? = some (Cond.eq (.elem (.field (jsTm i) "java/lang/String" "value" "[B") (.int (Int32.ofNat j))) (.int ((jsByt.getD i []).getD j 0))) := by decide +kernel
theorem js_5 : ∀ i, i < 9 → jsLen.getD i 0 < 2 ^ 31 := by decide +kernel
theorem js_ne : ∀ i, i < 9 → ∀ j, j < 9 → i ≠ j → Int32.ofNat (jsLen.getD i 0) ≠ Int32.ofNat (jsLen.getD j 0) ∨ (List.range 5).any (fun k => decide (k < jsLen.getD i 0) && (decide (k < jsLen.getD j 0) && decide ((jsByt.getD i []).getD k 0 ≠ (jsByt.getD j []).getD k 0))) = true := by decide +kernel
theorem z_ofu {o n d : String} {v w : Value} {t : Nat} {A : Nat → Prop} {U : State} {H : Heap} (h : va_OF o n d v t A U H) (k : va_OF o n d w t A U H) : v = w := by
  obtain ⟨cf, k1, i, f, cell, a1, a2, a3, a4, a5, a6⟩ := h
  obtain ⟨cf', k1', i', f', cell', b1, b2, b3, b4, b5, b6⟩ := k
  rw [a1] at b1
  cases b1
  rw [a3] at b3
  cases b3
  rw [a5] at b5
  exact Option.some.inj b5
theorem z_texts {args : Array Value} {s : State} {A : Nat → Prop} (hF : ∀ w ∈ fl1, w.before args s = true) (hA : ∀ a : Nat, a < s.heap.size → ¬ A a) : ∃ adK adV : Nat → Nat, vk_S jsN jsLen jsByt adK adV A s s.heap ∧ ∀ i : Nat, i < 9 → (jsTm i).eval args s none [] s = some (.ref (adK i)) := by
  have h0 : ∀ i : Nat, ∃ q : Nat × Nat, i < 9 → (jsTm i).eval args s none [] s = some (.ref q.1) ∧ va_O "java/lang/String" q.1 A s s.heap ∧ va_OF "java/lang/String" "coder" "B" (.int 0) q.1 A s s.heap ∧ va_OF "java/lang/String" "value" "[B" (.ref q.2) q.1 A s s.heap ∧ va_T .byte q.2 (jsLen.getD i 0) (fun j => .int ((jsByt.getD i []).getD j 0)) A s s.heap := by
    intro i
    by_cases hi : i < 9
    · obtain ⟨a, c, cA, kA, q1, q2, q3, q4, q5, q6, -⟩ := Cond.exactly_spec (args := args) (first := s) (o := none) (s := s) (idx := []) (t := jsTm i) (cls := "java/lang/String") (hF _ (z_mem (js_0 i hi)))
      obtain ⟨t, ht, hT⟩ := va_Tof (f := fun j => .int ((jsByt.getD i []).getD j 0)) (A := A) (js_5 i hi) (hF _ (z_mem (js_2 i hi))) (va_eqt (hF _ (z_mem (js_3 i hi)))) (fun j hj => va_eqt (hF _ (z_mem (js_4 i hi j hj)))) hA
      exact ⟨(a, t), fun _ => ⟨q1, ⟨cA, q3, q5, by rw [q6]; exact q2, hA a (Array.getElem?_eq_some_iff.mp q3).1⟩, vk_OFof q1 (va_eqt (hF _ (z_mem (js_1 i hi)))) hA, vk_OFof q1 ht hA, hT⟩⟩
    · exact ⟨(0, 0), fun h => absurd h hi⟩
  obtain ⟨ad, had⟩ := Classical.skolem.mp h0
  refine ⟨fun i => (ad i).1, fun i => (ad i).2, ⟨fun i hi => (had i hi).2, fun i j hi hj e => ?_⟩, fun i hi => (had i hi).1⟩
  by_cases hij : i = j
  · exact hij
  · exfalso
    obtain ⟨-, -, -, o1, t1⟩ := had i hi
    obtain ⟨-, -, -, o2, t2⟩ := had j hj
    have e : (ad i).1 = (ad j).1 := e
    rw [e] at o1
    have e2 : (ad i).2 = (ad j).2 := by
      have e3 := z_ofu o1 o2
      injection e3
    rw [e2] at t1
    obtain ⟨cell, a1, a2, a3, a4, a5, a6, a7⟩ := t1
    obtain ⟨cell', b1, b2, b3, b4, b5, b6, b7⟩ := t2
    rw [a1] at b1
    cases b1
    rcases js_ne i hi j hj hij with h | h
    · exact h (a5.symm.trans b5)
    · obtain ⟨k, hk, h⟩ := List.any_eq_true.mp h
      obtain ⟨h1, h⟩ := (Bool.and_eq_true _ _).mp h
      obtain ⟨h2, h3⟩ := (Bool.and_eq_true _ _).mp h
      have c1 := a6 k (of_decide_eq_true h1)
      have c2 := b6 k (of_decide_eq_true h2)
      rw [c1] at c2
      have c3 := Option.some.inj c2
      injection c3 with c4
      exact (of_decide_eq_true h3) c4
def zsP : List Nat := [579, 627, 826, 862, 863, 894, 903, 904, 948, 958, 967, 978, 986, 1037, 1103, 1111, 797, 844, 875, 1057, 1058]
def zsQ : List Nat := [38, 68, 197, 254, 285, 343, 391, 431, 457, 494, 522, 555, 591, 631, 724, 749, 169, 225, 316, 675, 700]
theorem zs_ok : ∀ i, i < 21 → (zStrs[i]?).all (fun q => decide (lw_tbl[zsP.getD i 0]? = some (Cond.stringRef RX5 q.1 q.2)) && decide (fl1[zsQ.getD i 0]? = some (Cond.exactly (.string RX5 q.1) "java/lang/String"))) = true := by decide +kernel
theorem zs_use {q : Nat × String} (hq : q ∈ zStrs) : Cond.stringRef RX5 q.1 q.2 ∈ lw_tbl ∧ Cond.exactly (.string RX5 q.1) "java/lang/String" ∈ fl1 := by
  obtain ⟨i, hi⟩ := List.getElem?_of_mem hq
  have hl : i < 21 := (List.getElem?_eq_some_iff.mp hi).1
  have h := zs_ok i hl
  rw [hi] at h
  obtain ⟨h1, h2⟩ := (Bool.and_eq_true _ _).mp h
  exact ⟨z_mem (of_decide_eq_true h1), z_mem (of_decide_eq_true h2)⟩
theorem wsF_in : ∀ i, i < 7 → fl1[([37, 36, 27, 4, 5, 6, 7] : List Nat).getD i 0]? = wsF[i]? := by decide +kernel
theorem wsF_sub : ∀ w ∈ wsF, w ∈ fl1 := by
  intro w h
  obtain ⟨i, hi⟩ := List.getElem?_of_mem h
  have hl : i < 7 := (List.getElem?_eq_some_iff.mp hi).1
  exact z_mem ((wsF_in i hl).trans hi)
theorem lw_facts {s : State} {b : Nat} (hts : ∀ w ∈ lw_tbl, w.before #[Value.ref b] s = true) (hE : ∀ w ∈ wsE, w.before #[Value.ref b] s = true) (hF0 : ∀ w ∈ fl1, w.before #[Value.ref b] s = true) : ∃ adK adV : Nat → Nat, zTh s ∧ zSt (fun q : Nat => s.heap.size ≤ q) s s.heap ∧ zNc s ∧ zTn s ∧ zLt adK s ∧ zSg adK adV (fun q : Nat => s.heap.size ≤ q) s s.heap := by
  have hA : ∀ a : Nat, a < s.heap.size → ¬ (fun q : Nat => s.heap.size ≤ q) a := fun a h => Nat.not_le.mpr h
  have hF : ∀ w ∈ wsF, w.before #[Value.ref b] s = true := fun w h => hF0 w (wsF_sub w h)
  obtain ⟨adK, adV, h1, h2⟩ := z_texts (A := fun q : Nat => s.heap.size ≤ q) hF0 hA
  refine ⟨adK, adV, ⟨fun q hq => ?_, va_Nw.of rfl (hE _ (List.mem_of_getElem? (i := 18) rfl)), va_Nw.of rfl (hE _ (List.mem_of_getElem? (i := 19) rfl)), va_Nw.of rfl (hE _ (List.mem_of_getElem? (i := 20) rfl)), va_Nw.of rfl (hE _ (List.mem_of_getElem? (i := 21) rfl)), va_Nw.of rfl (hE _ (List.mem_of_getElem? (i := 22) rfl)), va_Nw.of rfl (hE _ (List.mem_of_getElem? (i := 23) rfl))⟩, ⟨vx_Zqof (hE _ (List.mem_of_getElem? (i := 28) rfl)) (hE _ (List.mem_of_getElem? (i := 32) rfl)) (hF _ (List.mem_of_getElem? (i := 3) rfl)) hA, vx_Zqof (hE _ (List.mem_of_getElem? (i := 29) rfl)) (hE _ (List.mem_of_getElem? (i := 32) rfl)) (hF _ (List.mem_of_getElem? (i := 4) rfl)) hA⟩, ⟨va_Nc.of (hF _ (List.mem_of_getElem? (i := 0) rfl)), va_Nc.of (hF _ (List.mem_of_getElem? (i := 1) rfl)), va_Nc.of (hF _ (List.mem_of_getElem? (i := 2) rfl))⟩, ⟨va_AO.of (hE _ (List.mem_of_getElem? (i := 17) rfl)), va_Nw.of rfl (hE _ (List.mem_of_getElem? (i := 24) rfl)), va_Nw.of rfl (hE _ (List.mem_of_getElem? (i := 25) rfl)), va_Nw.of rfl (hE _ (List.mem_of_getElem? (i := 26) rfl)), va_Nw.of rfl (hE _ (List.mem_of_getElem? (i := 27) rfl))⟩, ?_, ⟨h1, va_Zof (hE _ (List.mem_of_getElem? (i := 30) rfl)) (hE _ (List.mem_of_getElem? (i := 33) rfl)) (va_eqt (hF _ (List.mem_of_getElem? (i := 5) rfl))) hA, va_Zqof (hE _ (List.mem_of_getElem? (i := 31) rfl)) (hE _ (List.mem_of_getElem? (i := 34) rfl)) (hF _ (List.mem_of_getElem? (i := 6) rfl)) hA⟩⟩
  · obtain ⟨k1, k2⟩ := zs_use hq
    obtain ⟨a, c, cA, kA, q1, -⟩ := Cond.exactly_spec (args := #[Value.ref b]) (first := s) (o := none) (s := s) (idx := []) (t := .string RX5 q.1) (cls := "java/lang/String") (hF0 _ k2)
    exact ⟨a, vk_R.of (hts _ k1) q1⟩
  · exact ⟨vk_R.of (hE _ (List.mem_of_getElem? (i := 40) rfl)) (h2 0 (by decide)), vk_R.of (hE _ (List.mem_of_getElem? (i := 41) rfl)) (h2 1 (by decide)), vk_R.of (hE _ (List.mem_of_getElem? (i := 42) rfl)) (h2 2 (by decide)), vk_R.of (hE _ (List.mem_of_getElem? (i := 43) rfl)) (h2 3 (by decide)), vk_R.of (hE _ (List.mem_of_getElem? (i := 44) rfl)) (h2 4 (by decide)), vk_R.of (hE _ (List.mem_of_getElem? (i := 45) rfl)) (h2 5 (by decide)), vk_R.of (hE _ (List.mem_of_getElem? (i := 46) rfl)) (h2 6 (by decide)), vk_R.of (hE _ (List.mem_of_getElem? (i := 47) rfl)) (h2 7 (by decide)), vk_R.of (hE _ (List.mem_of_getElem? (i := 48) rfl)) (h2 8 (by decide))⟩
theorem z_ak {s : State} {args : Array Value} {ty : FieldType} (h : (Cond.arrayClass ty).before args s = true) : ∃ cA : ClassId, ArrOfT s cA ty ∧ s.vm.findClass ("[" ++ ty.toString) = some cA := by
  obtain ⟨cA, kA, comp, f1, f2, f3⟩ := Cond.arrayClass_spec h
  exact ⟨cA, fun n z => ⟨fun k h => (by cases h), kA, f2, comp, f3⟩, f1⟩
theorem lw_types {s : State} {b : Nat} (hAll : ∀ w ∈ wsAll, w.before #[Value.ref b] s = true) (hE : ∀ w ∈ wsE, w.before #[Value.ref b] s = true) : ∃ (D : va_G) (cI cZ cM cJ cD : ClassId), va_K D vwCl (zTL cI cZ cM cJ cD) s := by
  obtain ⟨c0, i0, k0⟩ := u_known (C := RX0) (T := TX0) (N := 3) (n := 3) hAll (fun w h => z_gone (fun {x} => in_wsX00 w h)) (hE _ (List.mem_of_getElem? (i := 35) rfl))
  obtain ⟨c1, i1, k1⟩ := u_known (C := RX1) (T := TX1) (N := 7) (n := 7) hAll (fun w h => z_gone (fun {x} => in_wsX10 w h)) (hE _ (List.mem_of_getElem? (i := 36) rfl))
  obtain ⟨c2, i2, k2⟩ := u_known (C := RX2) (T := TX2) (N := 14) (n := 14) hAll (fun w h => z_gone (fun {x} => in_wsX20 w h)) (hE _ (List.mem_of_getElem? (i := 37) rfl))
  obtain ⟨c3, i3, k3⟩ := u_known (C := RX3) (T := TX3) (N := 10) (n := 10) hAll (fun w h => z_gone (fun {x} => in_wsX30 w h)) (hE _ (List.mem_of_getElem? (i := 38) rfl))
  obtain ⟨c4, i4, k4⟩ := u_known (C := RX4) (T := TX4) (N := 6) (n := 6) hAll (fun w h => z_gone (fun {x} => in_wsX40 w h)) (hE _ (List.mem_of_getElem? (i := 39) rfl))
  obtain ⟨c5, i5, k5⟩ := u_known (C := RX5) (T := TX5) (N := 12) (n := 12) hAll (fun w h => z_gone (fun {x} => in_wsX50 w h)) (hE _ (List.mem_of_getElem? (i := 2) rfl))
  obtain ⟨c6, i6, k6⟩ := u_known (C := RX6) (T := TX6) (N := 28) (n := 28) hAll (fun w h => z_gone (fun {x} => in_wsX60 w h)) (hE _ (List.mem_of_getElem? (i := 8) rfl))
  obtain ⟨tI, aI, fI⟩ := z_ak (hE _ (List.mem_of_getElem? (i := 13) rfl))
  obtain ⟨tZ, aZ, fZ⟩ := z_ak (hE _ (List.mem_of_getElem? (i := 14) rfl))
  obtain ⟨tJ, aJ, fJ⟩ := z_ak (hE _ (List.mem_of_getElem? (i := 15) rfl))
  obtain ⟨tD, aD, fD⟩ := z_ak (hE _ (List.mem_of_getElem? (i := 16) rfl))
  obtain ⟨comp, tM, kM, m1, m2, m3, m4, m5⟩ := Cond.arrayOver_spec (hE _ (List.mem_of_getElem? (i := 17) rfl))
  refine ⟨(fun k => match k with | 0 => c0 | 1 => c1 | 2 => c2 | 3 => c3 | 4 => c4 | 5 => c5 | _ => c6, fun k => match k with | 0 => i0 | 1 => i1 | 2 => i2 | 3 => i3 | 4 => i4 | 5 => i5 | _ => i6), tI, tZ, tM, tJ, tD, ?_, ?_⟩
  · intro k q hq
    match k, hq with
    | 0, hq => cases hq; exact k0
    | 1, hq => cases hq; exact k1
    | 2, hq => cases hq; exact k2
    | 3, hq => cases hq; exact k3
    | 4, hq => cases hq; exact k4
    | 5, hq => cases hq; exact k5
    | 6, hq => cases hq; exact k6
    | k + 7, hq => simp [vwCl] at hq
  · intro k q hq
    match k, hq with
    | 0, hq => cases hq; exact ⟨aI, fI⟩
    | 1, hq => cases hq; exact ⟨aZ, fZ⟩
    | 2, hq => cases hq; exact ⟨fun n z => ⟨fun k h => (by cases h), kM, m3, comp, m4⟩, kM, comp, m3, m4, m1, m5⟩
    | 3, hq => cases hq; exact ⟨aJ, fJ⟩
    | 4, hq => cases hq; exact ⟨aD, fD⟩
    | k + 5, hq => simp [zTL] at hq
