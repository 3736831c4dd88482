/-! load: both sides but for the class's own frame. -/
def Nm (m : BX6) : Prop := 0 ≤ pX6_number m ∧ pX6_number m ≤ 999999
theorem wipe_MF {d : BX2} (hd : W2 d) {f : Int → Int} : MF (mWipe d) (fr0 f 180) 0 := by
  obtain ⟨q1, q2, q3, q4, q5, q6, q7, q8, q9, q10, q11, q12, q13, q14⟩ := mWipe_eqs d
  have hw := mWipe_W2 hd.s
  have hcl : ∀ i j, 0 ≤ j → j < 8 → ¬ cl (mWipe d) i j := by
    intro i j j0 j1
    unfold cl
    rw [q10]
    exact zbit_0 j0 (by omega)
  have hf : ∀ i, 0 ≤ i → i < 180 → ¬ (107 ≤ i ∧ i ≤ 114) → fr0 f 180 i = 0 := fun i i0 i1 h => by unfold fr0; rw [if_pos ⟨i0, i1⟩, if_neg h]
  refine ⟨⟨hw, ?_, ?_, ?_, ?_, ?_⟩, ⟨?_, ?_, ?_, ?_, ?_, ?_, ?_⟩, ?_, hf 0 (by omega) (by omega) (by omega), by omega, ?_⟩
  · intro i j i0 i1 j0 j1
    exact ⟨fun h => absurd h (hcl i j j0 j1), fun h => absurd h (hcl j i i0 i1)⟩
  · intro p p0 p1; rw [q1] at p1; omega
  · intro t t0 t1; rw [q5] at t1; omega
  · rw [q11, q14]; exact Int.le_refl _
  · intro p p0 p1; rw [q1] at p1; omega
  · rw [q1]; exact hf _ (by omega) (by omega) (by omega)
  · rw [q5]; exact hf _ (by omega) (by omega) (by omega)
  · rw [q11]; exact hf _ (by omega) (by omega) (by omega)
  · intro p p0 p1; rw [q1] at p1; omega
  · intro t t0 t1; rw [q5] at t1; omega
  · intro t t0 t1
    rw [q12]
    show fr0 f 180 (107 + t) = (if 0 ≤ t ∧ t < 8 then (-1 : Int) else 0)
    unfold fr0
    rw [if_pos (by omega), if_pos (by omega), if_pos (by omega)]
  · intro i j i0 i1 j0 j1
    rw [zB_neg (hcl i j j0 j1)]
    exact hf _ (by omega) (by omega) (by omega)
  · intro t t0 t1
    rw [q12]
    show (if 0 ≤ t ∧ t < 8 then (-1 : Int) else 0) = -1
    rw [if_pos (by omega)]
  · intro p p0 p1; rw [q1] at p1; omega
def y00 (y : BX4) (v : Int → Int) (l : Int) : BX4 := sX4_errorAt (sX4_error (sX4_rowsRead (sX4_position (sX4_length (sX4_text y v) l) 0) 0) 0) (-1)
theorem load_core {n : Nat} (hn : 1000 ≤ n) {x : BX5} {m : BX6} (I : Inv x m) (hN : Nm m) {len : Int} (l0 : 0 ≤ len) (l1 : len ≤ pX5_textLength x) (y : BX4) : ∃ ans y' b' w m', g_X4_read n y (pX5_text x) len (pX5_draft x) = some (ans, y', b') ∧ g_X6_load n m len = some (w, m') ∧ ans = w ∧ pX6_thrown m' = 0 ∧ Nm m' ∧ pX6_buffered m' = 0 ∧ pX6_errorAt m' = pX4_errorAt y' ∧ pX4_text y' = pX5_text x ∧
    ((0 ≤ ans ∧ MR b' (pX6_a m') ∧ pX6_kept m' = pX6_kept (kKeep m) ∧ pX6_keptMany m' = pX6_keptMany (kKeep m)) ∨ (ans < 0 ∧ W2 b' ∧ pX6_a m' = pX6_a m ∧ pX6_kept m' = pX6_kept m ∧ pX6_keptMany m' = pX6_keptMany m)) := by
  obtain ⟨tx1, tx2, tx3, tx4⟩ := I.2.2.2.1
  have hl : 0 ≤ len ∧ len ≤ 600 := by omega
  unfold g_X4_read g_X6_load g_X6_load_20
  rw [Int.min_eq_left (by omega), oL_def, s_X2_wipe (by omega) I.2.2.1, oB_some, s_X6_isIn, oB_some, zB_pos (by omega), if_neg (c := (1 : Int) = 0) (by omega), if_pos (c := (0 : Int) ≤ 0) (by omega)]
  have hy00 : sX4_errorAt (sX4_error (sX4_rowsRead (sX4_position (sX4_length (sX4_text y (pX5_text x)) len) 0) 0) 0) (-1) = y00 y (pX5_text x) len := rfl
  rw [hy00]
  generalize hr0 : sX6_wrong (sX6_behind (sX6_size (sX6_buffered (sX6_thrown m 0) 0) len) 0) 0 = r0
  have f1 : pX6_a r0 = pX6_a m := by rw [← hr0, eX6_a_wrong, eX6_a_behind, eX6_a_size, eX6_a_buffered, eX6_a_thrown]
  have f2 : pX6_kept r0 = pX6_kept m := by rw [← hr0, eX6_kept_wrong, eX6_kept_behind, eX6_kept_size, eX6_kept_buffered, eX6_kept_thrown]
  have f3 : pX6_keptMany r0 = pX6_keptMany m := by rw [← hr0, eX6_keptMany_wrong, eX6_keptMany_behind, eX6_keptMany_size, eX6_keptMany_buffered, eX6_keptMany_thrown]
  have f4 : pX6_thrown r0 = 0 := by rw [← hr0, eX6_thrown_wrong, eX6_thrown_behind, eX6_thrown_size, eX6_thrown_buffered, eX6_thrown_thrown]
  have f5 : pX6_buffer r0 = pX6_buffer m := by rw [← hr0, eX6_buffer_wrong, eX6_buffer_behind, eX6_buffer_size, eX6_buffer_buffered, eX6_buffer_thrown]
  have f6 : pX6_buffered r0 = 0 := by rw [← hr0, eX6_buffered_wrong, eX6_buffered_behind, eX6_buffered_size, eX6_buffered_buffered]
  have f7 : pX6_size r0 = len := by rw [← hr0, eX6_size_wrong, eX6_size_behind, eX6_size_size]
  have f8 : pX6_behind r0 = 0 := by rw [← hr0, eX6_behind_wrong, eX6_behind_behind]
  have f9 : pX6_wrong r0 = 0 := by rw [← hr0, eX6_wrong_wrong]
  have f10 : pX6_number r0 = pX6_number m := by rw [← hr0, eX6_number_wrong, eX6_number_behind, eX6_number_size, eX6_number_buffered, eX6_number_thrown]
  have h54 := s_load54 n r0 (pX6_fresh r0) n 0 (by omega) (by omega) (by omega)
  have e0 : fr0 (pX6_fresh r0) 0 = pX6_fresh r0 := by funext i; unfold fr0; rw [if_neg (by omega)]
  rw [e0, iX6_fresh] at h54
  rw [h54]
  have hB : Bf (pX5_text x) len (sX6_fresh r0 (fr0 (pX6_fresh r0) 180)) := by
    refine ⟨by rw [eX6_size_fresh]; exact f7, hl, fun q q0 q1 => ?_, fun q q0 q1 => ?_⟩
    · rw [eX6_buffer_fresh, f5]; exact (tx4 q q0 (by omega)).1.symm
    · exact (tx4 q q0 (by omega)).2
  obtain ⟨r2, n1, n2, n3, n4, n5⟩ := s_next hn hB (by rw [eX6_behind_fresh, f8]; exact Int.le_refl _) (by rw [eX6_behind_fresh, f8]; exact l0) (by rw [eX6_number_fresh, f10]; exact hN.1) (by rw [eX6_number_fresh, f10]; exact hN.2)
  rw [eX6_behind_fresh, f8] at n3
  have p1 : pX4_text (y00 y (pX5_text x) len) = pX5_text x := by unfold y00; rw [eX4_text_errorAt, eX4_text_error, eX4_text_rowsRead, eX4_text_position, eX4_text_length, eX4_text_text]
  have p2 : pX4_length (y00 y (pX5_text x) len) = len := by unfold y00; rw [eX4_length_errorAt, eX4_length_error, eX4_length_rowsRead, eX4_length_position, eX4_length_length]
  have p3 : pX4_position (y00 y (pX5_text x) len) = 0 := by unfold y00; rw [eX4_position_errorAt, eX4_position_error, eX4_position_rowsRead, eX4_position_position]
  have p4 : pX4_rowsRead (y00 y (pX5_text x) len) = 0 := by unfold y00; rw [eX4_rowsRead_errorAt, eX4_rowsRead_error, eX4_rowsRead_rowsRead]
  have p5 : pX4_error (y00 y (pX5_text x) len) = 0 := by unfold y00; rw [eX4_error_errorAt, eX4_error_error]
  have p6 : pX4_errorAt (y00 y (pX5_text x) len) = -1 := by unfold y00; rw [eX4_errorAt_errorAt]
  have hq := n2.fq
  have hG : GT (pX5_text x) len (y00 y (pX5_text x) len) r2 := ⟨⟨p1, p2, by rw [p3]; omega⟩, p5, p6, by rw [n2.2.2.2.2.2.2.2.1, eX6_wrong_fresh]; exact f9, n2.bf hB, by rw [p3]; exact n3, n4, n5⟩
  have hfr : pX6_fresh r2 = fr0 (pX6_fresh r0) 180 := by rw [hq.2.2.2.2.2.2.2.2, eX6_fresh_fresh]
  have hMF : MF (mWipe (pX5_draft x)) (pX6_fresh r2) (pX4_rowsRead (y00 y (pX5_text x) len)) := by rw [hfr, p4]; exact wipe_MF I.2.2.1
  obtain ⟨ans, k', y', b', r', i1, i2, i3, i4⟩ := p_loop hn hl (pX5_text x) n n 0 (y00 y (pX5_text x) len) r2 (mWipe (pX5_draft x)) (by omega) (by rw [p3]; exact Int.le_refl _) (by rw [p3]; omega) (by rw [p3]; omega) hG hMF
  have z1 : pX6_a r' = pX6_a m := by rw [i3.1, hq.1, eX6_a_fresh, f1]
  have z2 : pX6_kept r' = pX6_kept m := by rw [i3.2.1, hq.2.1, eX6_kept_fresh, f2]
  have z3 : pX6_keptMany r' = pX6_keptMany m := by rw [i3.2.2.1, hq.2.2.1, eX6_keptMany_fresh, f3]
  have z4 : pX6_thrown r' = 0 := by rw [i3.2.2.2.1, hq.2.2.2.1, eX6_thrown_fresh, f4]
  have z6 : pX6_buffered r' = 0 := by rw [i3.2.2.2.2.2.1, hq.2.2.2.2.2.1, eX6_buffered_fresh, f6]
  rw [i1, n1, oB_some, i2]
  unfold g_X6_load_124 g_X6_load_140
  rcases i4 with ⟨t1, t2, t3, t4, t5⟩ | ⟨t1, t2, t3⟩
  · have hw := t1.2.2.2.1
    have ek := kKeep_e (sX6_errorAt r' (-1))
    have kc := kKeep_c (r := sX6_errorAt r' (-1)) (s := m) (by rw [eX6_kept_errorAt, z2]) (by rw [eX6_keptMany_errorAt, z3]) (by rw [eX6_a_errorAt, z1])
    have hfrk : pX6_fresh (kKeep (sX6_errorAt r' (-1))) = pX6_fresh r' := by unfold kKeep; rw [eX6_fresh_keptMany, eX6_fresh_kept, eX6_fresh_errorAt]
    have hnk : pX6_number (kKeep (sX6_errorAt r' (-1))) = pX6_number r' := by unfold kKeep; rw [eX6_number_keptMany, eX6_number_kept, eX6_number_errorAt]
    have h161 := s_load161 n (kKeep (sX6_errorAt r' (-1))) k' (pX6_a (kKeep (sX6_errorAt r' (-1)))) n 0 (by omega) (by omega) (by omega)
    have e1 : (fun i => if 0 ≤ i ∧ i < 0 then pX6_fresh (kKeep (sX6_errorAt r' (-1))) i else pX6_a (kKeep (sX6_errorAt r' (-1))) i) = pX6_a (kKeep (sX6_errorAt r' (-1))) := by
      funext i; rw [if_neg (by omega)]
    rw [e1, iX6_a] at h161
    rw [if_pos hw, if_pos hw, s_X6_keeps hn _ (by rw [eX6_keptMany_errorAt, z3]; exact I.many.1) (by rw [eX6_keptMany_errorAt, z3]; exact I.many.2), oB_some, h161]
    refine ⟨_, _, _, _, _, rfl, rfl, t3, ?_, ?_, ?_, ?_, t1.1.1, .inl ⟨t4, ?_, ?_, ?_⟩⟩
    · rw [eX6_thrown_a, ek.2.2.2.2.2.2.1, eX6_thrown_errorAt, z4]
    · unfold Nm; rw [eX6_number_a, hnk]; exact t1.2.2.2.2.2.2.2
    · rw [eX6_buffered_a, ek.2.2.2.2.1, eX6_buffered_errorAt, z6]
    · rw [eX6_errorAt_a, ek.2.2.2.2.2.1, eX6_errorAt_errorAt, t1.2.2.1]
    · rw [eX6_a_a, hfrk]
      refine ⟨t2.1, Rl_congr t2.1.s t2.2.1 (fun i i0 i1 => ?_)⟩
      show (if 0 ≤ i ∧ i < 180 then pX6_fresh r' i else _) = _
      rw [if_pos ⟨i0, i1⟩]
    · rw [eX6_kept_a, kc.1]
    · rw [eX6_keptMany_a, kc.2]
  · have he := t1.2.1
    have hw : ¬ pX6_wrong r' = 0 := by have := t1.2.2.1; omega
    rw [if_neg hw, if_neg hw]
    refine ⟨_, _, _, _, _, rfl, rfl, by rw [t3, t1.2.2.1], ?_, ?_, ?_, ?_, t1.1.1, .inr ⟨by omega, t2, ?_, ?_, ?_⟩⟩
    · rw [eX6_thrown_errorAt, z4]
    · unfold Nm; rw [eX6_number_errorAt]; exact t1.2.2.2.2.1
    · rw [eX6_buffered_errorAt, z6]
    · rw [eX6_errorAt_errorAt, t1.2.2.2.1]
    · rw [eX6_a_errorAt, z1]
    · rw [eX6_kept_errorAt, z2]
    · rw [eX6_keptMany_errorAt, z3]
theorem load_bad {n : Nat} {x : BX5} {m : BX6} (I : Inv x m) {len : Int} (h : ¬ (0 ≤ len ∧ len ≤ pX5_textLength x)) : g_X6_load n m len = some (0, sX6_thrown m 1) := by
  have tx1 := I.2.2.2.1.1
  unfold g_X6_load g_X6_load_20
  rw [s_X6_isIn, oB_some, zB_neg (by omega), if_pos rfl, if_neg (c := (1 : Int) ≤ 0) (by omega)]
