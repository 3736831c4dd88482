/-! The start: what the constructors leave. -/
def zI8 : Nat → Int32 := upd (upd (upd (upd (upd (upd (upd (upd (fun _ => 0) (0 : Int32).toNatClampNeg (-1 : Int32)) (1 : Int32).toNatClampNeg (-1 : Int32)) (2 : Int32).toNatClampNeg (-1 : Int32)) (3 : Int32).toNatClampNeg (-1 : Int32)) (4 : Int32).toNatClampNeg (-1 : Int32)) (5 : Int32).toNatClampNeg (-1 : Int32)) (6 : Int32).toNatClampNeg (-1 : Int32)) (7 : Int32).toNatClampNeg (-1 : Int32)
theorem zI8_v (k : Nat) : (zI8 k).toInt = if 0 ≤ (k : Int) ∧ (k : Int) < 8 then -1 else 0 := by
  rcases (show k = 0 ∨ k = 1 ∨ k = 2 ∨ k = 3 ∨ k = 4 ∨ k = 5 ∨ k = 6 ∨ k = 7 ∨ (k < 0 ∨ 8 ≤ k) by omega) with rfl | rfl | rfl | rfl | rfl | rfl | rfl | rfl | h
  · rfl
  · rfl
  · rfl
  · rfl
  · rfl
  · rfl
  · rfl
  · rfl
  · rw [if_neg (by omega)]
    unfold zI8 upd
    rw [if_neg (show ¬ k = (7 : Int32).toNatClampNeg from fun e => by have e : k = 7 := e; omega), if_neg (show ¬ k = (6 : Int32).toNatClampNeg from fun e => by have e : k = 6 := e; omega), if_neg (show ¬ k = (5 : Int32).toNatClampNeg from fun e => by have e : k = 5 := e; omega), if_neg (show ¬ k = (4 : Int32).toNatClampNeg from fun e => by have e : k = 4 := e; omega), if_neg (show ¬ k = (3 : Int32).toNatClampNeg from fun e => by have e : k = 3 := e; omega), if_neg (show ¬ k = (2 : Int32).toNatClampNeg from fun e => by have e : k = 2 := e; omega), if_neg (show ¬ k = (1 : Int32).toNatClampNeg from fun e => by have e : k = 1 := e; omega), if_neg (show ¬ k = (0 : Int32).toNatClampNeg from fun e => by have e : k = 0 := e; omega)]
    rfl
def zI24 : Nat → Int32 := upd (upd (upd (upd (upd (upd (upd (upd (upd (upd (upd (upd (upd (upd (upd (upd (upd (upd (upd (upd (upd (upd (upd (upd (fun _ => 0) (0 : Int32).toNatClampNeg (-1 : Int32)) (1 : Int32).toNatClampNeg (-1 : Int32)) (2 : Int32).toNatClampNeg (-1 : Int32)) (3 : Int32).toNatClampNeg (-1 : Int32)) (4 : Int32).toNatClampNeg (-1 : Int32)) (5 : Int32).toNatClampNeg (-1 : Int32)) (6 : Int32).toNatClampNeg (-1 : Int32)) (7 : Int32).toNatClampNeg (-1 : Int32)) (8 : Int32).toNatClampNeg (-1 : Int32)) (9 : Int32).toNatClampNeg (-1 : Int32)) (10 : Int32).toNatClampNeg (-1 : Int32)) (11 : Int32).toNatClampNeg (-1 : Int32)) (12 : Int32).toNatClampNeg (-1 : Int32)) (13 : Int32).toNatClampNeg (-1 : Int32)) (14 : Int32).toNatClampNeg (-1 : Int32)) (15 : Int32).toNatClampNeg (-1 : Int32)) (16 : Int32).toNatClampNeg (-1 : Int32)) (17 : Int32).toNatClampNeg (-1 : Int32)) (18 : Int32).toNatClampNeg (-1 : Int32)) (19 : Int32).toNatClampNeg (-1 : Int32)) (20 : Int32).toNatClampNeg (-1 : Int32)) (21 : Int32).toNatClampNeg (-1 : Int32)) (22 : Int32).toNatClampNeg (-1 : Int32)) (23 : Int32).toNatClampNeg (-1 : Int32)
theorem zI24_v (k : Nat) : (zI24 k).toInt = if 0 ≤ (k : Int) ∧ (k : Int) < 24 then -1 else 0 := by
  rcases (show k = 0 ∨ k = 1 ∨ k = 2 ∨ k = 3 ∨ k = 4 ∨ k = 5 ∨ k = 6 ∨ k = 7 ∨ k = 8 ∨ k = 9 ∨ k = 10 ∨ k = 11 ∨ k = 12 ∨ k = 13 ∨ k = 14 ∨ k = 15 ∨ k = 16 ∨ k = 17 ∨ k = 18 ∨ k = 19 ∨ k = 20 ∨ k = 21 ∨ k = 22 ∨ k = 23 ∨ (k < 0 ∨ 24 ≤ k) by omega) with rfl | rfl | rfl | rfl | rfl | rfl | rfl | rfl | rfl | rfl | rfl | rfl | rfl | rfl | rfl | rfl | rfl | rfl | rfl | rfl | rfl | rfl | rfl | rfl | h
  · rfl
  · rfl
  · rfl
  · rfl
  · rfl
  · rfl
  · rfl
  · rfl
  · rfl
  · rfl
  · rfl
  · rfl
  · rfl
  · rfl
  · rfl
  · rfl
  · rfl
  · rfl
  · rfl
  · rfl
  · rfl
  · rfl
  · rfl
  · rfl
  · rw [if_neg (by omega)]
    unfold zI24 upd
    rw [if_neg (show ¬ k = (23 : Int32).toNatClampNeg from fun e => by have e : k = 23 := e; omega), if_neg (show ¬ k = (22 : Int32).toNatClampNeg from fun e => by have e : k = 22 := e; omega), if_neg (show ¬ k = (21 : Int32).toNatClampNeg from fun e => by have e : k = 21 := e; omega), if_neg (show ¬ k = (20 : Int32).toNatClampNeg from fun e => by have e : k = 20 := e; omega), if_neg (show ¬ k = (19 : Int32).toNatClampNeg from fun e => by have e : k = 19 := e; omega), if_neg (show ¬ k = (18 : Int32).toNatClampNeg from fun e => by have e : k = 18 := e; omega), if_neg (show ¬ k = (17 : Int32).toNatClampNeg from fun e => by have e : k = 17 := e; omega), if_neg (show ¬ k = (16 : Int32).toNatClampNeg from fun e => by have e : k = 16 := e; omega), if_neg (show ¬ k = (15 : Int32).toNatClampNeg from fun e => by have e : k = 15 := e; omega), if_neg (show ¬ k = (14 : Int32).toNatClampNeg from fun e => by have e : k = 14 := e; omega), if_neg (show ¬ k = (13 : Int32).toNatClampNeg from fun e => by have e : k = 13 := e; omega), if_neg (show ¬ k = (12 : Int32).toNatClampNeg from fun e => by have e : k = 12 := e; omega), if_neg (show ¬ k = (11 : Int32).toNatClampNeg from fun e => by have e : k = 11 := e; omega), if_neg (show ¬ k = (10 : Int32).toNatClampNeg from fun e => by have e : k = 10 := e; omega), if_neg (show ¬ k = (9 : Int32).toNatClampNeg from fun e => by have e : k = 9 := e; omega), if_neg (show ¬ k = (8 : Int32).toNatClampNeg from fun e => by have e : k = 8 := e; omega), if_neg (show ¬ k = (7 : Int32).toNatClampNeg from fun e => by have e : k = 7 := e; omega), if_neg (show ¬ k = (6 : Int32).toNatClampNeg from fun e => by have e : k = 6 := e; omega), if_neg (show ¬ k = (5 : Int32).toNatClampNeg from fun e => by have e : k = 5 := e; omega), if_neg (show ¬ k = (4 : Int32).toNatClampNeg from fun e => by have e : k = 4 := e; omega), if_neg (show ¬ k = (3 : Int32).toNatClampNeg from fun e => by have e : k = 3 := e; omega), if_neg (show ¬ k = (2 : Int32).toNatClampNeg from fun e => by have e : k = 2 := e; omega), if_neg (show ¬ k = (1 : Int32).toNatClampNeg from fun e => by have e : k = 1 := e; omega), if_neg (show ¬ k = (0 : Int32).toNatClampNeg from fun e => by have e : k = 0 := e; omega)]
    rfl
def zI107 : Nat → Int32 := upd (upd (upd (upd (upd (upd (upd (upd (fun _ => 0) (107 : Int32).toNatClampNeg (-1 : Int32)) (108 : Int32).toNatClampNeg (-1 : Int32)) (109 : Int32).toNatClampNeg (-1 : Int32)) (110 : Int32).toNatClampNeg (-1 : Int32)) (111 : Int32).toNatClampNeg (-1 : Int32)) (112 : Int32).toNatClampNeg (-1 : Int32)) (113 : Int32).toNatClampNeg (-1 : Int32)) (114 : Int32).toNatClampNeg (-1 : Int32)
theorem zI107_v (k : Nat) : (zI107 k).toInt = if 107 ≤ (k : Int) ∧ (k : Int) < 115 then -1 else 0 := by
  rcases (show k = 107 ∨ k = 108 ∨ k = 109 ∨ k = 110 ∨ k = 111 ∨ k = 112 ∨ k = 113 ∨ k = 114 ∨ (k < 107 ∨ 115 ≤ k) by omega) with rfl | rfl | rfl | rfl | rfl | rfl | rfl | rfl | h
  · rfl
  · rfl
  · rfl
  · rfl
  · rfl
  · rfl
  · rfl
  · rfl
  · rw [if_neg (by omega)]
    unfold zI107 upd
    rw [if_neg (show ¬ k = (114 : Int32).toNatClampNeg from fun e => by have e : k = 114 := e; omega), if_neg (show ¬ k = (113 : Int32).toNatClampNeg from fun e => by have e : k = 113 := e; omega), if_neg (show ¬ k = (112 : Int32).toNatClampNeg from fun e => by have e : k = 112 := e; omega), if_neg (show ¬ k = (111 : Int32).toNatClampNeg from fun e => by have e : k = 111 := e; omega), if_neg (show ¬ k = (110 : Int32).toNatClampNeg from fun e => by have e : k = 110 := e; omega), if_neg (show ¬ k = (109 : Int32).toNatClampNeg from fun e => by have e : k = 109 := e; omega), if_neg (show ¬ k = (108 : Int32).toNatClampNeg from fun e => by have e : k = 108 := e; omega), if_neg (show ¬ k = (107 : Int32).toNatClampNeg from fun e => by have e : k = 107 := e; omega)]
    rfl
def fz : Int → Int := fun _ => 0
def s8 : Int → Int := fun z => if 0 ≤ z ∧ z < 8 then -1 else 0
def s24 : Int → Int := fun z => if 0 ≤ z ∧ z < 24 then -1 else 0
def s107 : Int → Int := fun z => if 107 ≤ z ∧ z < 115 then -1 else 0
def b0 : BX2 := (0, fz, fz, fz, 0, fz, fz, fz, fz, fz, 0, s8, s24, 0)
def q0 : BX3 := (b0, fz, 1024, 1, 1, 1, fz, fz, fz, fz, fz)
def x0 : BX5 := (fz, 0, -1, (fz, 0, 0, 0, 0, -1), b0, b0, ((fun _ => b0), 0, 0), q0, q0, (b0, b0, -1, 0, fz, fz, fz), fz, 0)
def m0 : BX6 := (s107, fz, fz, 0, 0, fz, 0, 0, 0, 0, 0, 0, 0, -1, 0, fz, fz, fz, fz, fz, fz, fz, fz, fz, fz, 0, 0, 0)
theorem b0_W : W2 b0 := by
  refine ⟨⟨by decide, by decide, by decide, ?_, ?_, ?_, ?_, ?_, ?_⟩, ?_, ?_, ?_, ?_⟩
  · intro p h0 h1
    have h1 : p < 0 := h1
    omega
  · exact fun _ => .inl rfl
  · intro p h0 h1
    have h1 : p < 0 := h1
    omega
  · exact fun _ => .inl rfl
  · exact fun _ => ⟨(by decide : (0 : Int) ≤ 0), (by decide : (0 : Int) ≤ 255)⟩
  · refine ⟨fun _ _ => rfl, fun _ _ => rfl, fun _ _ => rfl, fun _ _ => rfl, fun _ _ => rfl, fun _ _ => rfl, fun _ _ => rfl, fun _ _ => rfl, fun i h => ?_, fun i h => ?_⟩
    · show s8 i = 0
      unfold s8
      rw [if_neg (by omega)]
    · show s24 i = 0
      unfold s24
      rw [if_neg (by omega)]
  · intro t h0 h1
    exact .inl (if_pos ⟨h0, h1⟩)
  · intro t h0 h1
    exact .inl (if_pos ⟨h0, h1⟩)
  · intro t p h0 h1
    have h1 : t < 0 := h1
    omega
  · exact (zr_nil (Int.le_refl 0)).symm
theorem b0_cl {i j : Int} (h0 : 0 ≤ j) (h1 : j < 8) : ¬ cl b0 i j := zbit_0 h0 (by omega)
theorem b0_V : V2 b0 := by
  refine ⟨b0_W, ?_, ?_, ?_, by decide, ?_⟩
  · intro i j i0 i1 j0 j1
    exact ⟨fun h => absurd h (b0_cl j0 j1), fun h => absurd h (b0_cl i0 i1)⟩
  · intro p h0 h1
    have h1 : p + 1 < 0 := h1
    omega
  · intro t h0 h1
    have h1 : t < 0 := h1
    omega
  · intro p h0 h1
    have h1 : p + 1 < 0 := h1
    omega
theorem b0_R : Rl b0 s107 := by
  refine ⟨rfl, rfl, rfl, ?_, ?_, ?_, ?_⟩
  · intro p h0 h1
    have h1 : p < 0 := h1
    omega
  · intro p h0 h1
    have h1 : p < 0 := h1
    omega
  · intro t h0 h1
    show s107 (107 + t) = s8 t
    unfold s107 s8
    rw [if_pos (by omega), if_pos (by omega)]
  · intro i j i0 i1 j0 j1
    rw [zB_neg (b0_cl j0 j1)]
    unfold s107
    rw [if_neg (by omega)]
theorem q0_P : P3 q0 := ⟨b0_W.1, by decide, by decide⟩
theorem Inv_0 : Inv x0 m0 := by
  refine ⟨⟨b0_V, b0_R⟩, ⟨⟨fun _ => b0_W.1, by decide, by decide⟩, rfl, ?_⟩, b0_W, ⟨rfl, by decide, by decide, ?_⟩, rfl, ⟨q0_P, q0_P, .inl rfl⟩, b0_W, b0_W⟩
  · intro j h0 h1
    have h1 : j < 0 := h1
    omega
  · intro j h0 h1
    have h1 : j < 0 := h1
    omega
theorem Nm_0 : Nm m0 := ⟨by decide, by decide⟩
theorem AX_0 : AX (fun _ => 0) (0 : Int32) (-1 : Int32) (0 : Int32) (0 : Int32) (0 : Int32) (0 : Int32) (-1 : Int32) (0 : Int32) (fun _ => 0) (fun _ => 0) (fun _ => 0) (0 : Int32) (fun _ => 0) (fun _ => 0) (fun _ => 0) (fun _ => 0) (fun _ => 0) (0 : Int32) zI8 zI24 (0 : Int32) (0 : Int32) (fun _ => 0) (fun _ => 0) (fun _ => 0) (0 : Int32) (fun _ => 0) (fun _ => 0) (fun _ => 0) (fun _ => 0) (fun _ => 0) (0 : Int32) zI8 zI24 (0 : Int32) (fun _ => (0 : Int32)) (fun _ => fun _ => 0) (fun _ => fun _ => 0) (fun _ => fun _ => 0) (fun _ => (0 : Int32)) (fun _ => fun _ => 0) (fun _ => fun _ => 0) (fun _ => fun _ => 0) (fun _ => fun _ => 0) (fun _ => fun _ => 0) (fun _ => (0 : Int32)) (fun _ => zI8) (fun _ => zI24) (fun _ => (0 : Int32)) (0 : Int32) (0 : Int32) (0 : Int32) (fun _ => 0) (fun _ => 0) (fun _ => 0) (0 : Int32) (fun _ => 0) (fun _ => 0) (fun _ => 0) (fun _ => 0) (fun _ => 0) (0 : Int32) zI8 zI24 (0 : Int32) (fun _ => 0) 1024 (1 : Int32) (1 : Int32) (1 : Int32) (fun _ => 0) (fun _ => 0) (fun _ => 0) (fun _ => 0) (fun _ => 0) (0 : Int32) (fun _ => 0) (fun _ => 0) (fun _ => 0) (0 : Int32) (fun _ => 0) (fun _ => 0) (fun _ => 0) (fun _ => 0) (fun _ => 0) (0 : Int32) zI8 zI24 (0 : Int32) (fun _ => 0) 1024 (1 : Int32) (1 : Int32) (1 : Int32) (fun _ => 0) (fun _ => 0) (fun _ => 0) (fun _ => 0) (fun _ => 0) (0 : Int32) (fun _ => 0) (fun _ => 0) (fun _ => 0) (0 : Int32) (fun _ => 0) (fun _ => 0) (fun _ => 0) (fun _ => 0) (fun _ => 0) (0 : Int32) zI8 zI24 (0 : Int32) (0 : Int32) (fun _ => 0) (fun _ => 0) (fun _ => 0) (0 : Int32) (fun _ => 0) (fun _ => 0) (fun _ => 0) (fun _ => 0) (fun _ => 0) (0 : Int32) zI8 zI24 (0 : Int32) (-1 : Int32) (0 : Int32) (fun _ => 0) (fun _ => 0) (fun _ => 0) (fun _ => 0) (0 : Int32) x0 := ⟨(fun _ => rfl), rfl, rfl, rfl, rfl, rfl, rfl, rfl, rfl, (fun _ => rfl), (fun _ => rfl), (fun _ => rfl), rfl, (fun _ => rfl), (fun _ => rfl), (fun _ => rfl), (fun _ => rfl), (fun _ => rfl), rfl, (fun i => zI8_v i), (fun i => zI24_v i), rfl, rfl, (fun _ => rfl), (fun _ => rfl), (fun _ => rfl), rfl, (fun _ => rfl), (fun _ => rfl), (fun _ => rfl), (fun _ => rfl), (fun _ => rfl), rfl, (fun i => zI8_v i), (fun i => zI24_v i), rfl, (fun _ => rfl), (fun _ _ => rfl), (fun _ _ => rfl), (fun _ _ => rfl), (fun _ => rfl), (fun _ _ => rfl), (fun _ _ => rfl), (fun _ _ => rfl), (fun _ _ => rfl), (fun _ _ => rfl), (fun _ => rfl), (fun i j => zI8_v j), (fun i j => zI24_v j), (fun _ => rfl), rfl, rfl, rfl, (fun _ => rfl), (fun _ => rfl), (fun _ => rfl), rfl, (fun _ => rfl), (fun _ => rfl), (fun _ => rfl), (fun _ => rfl), (fun _ => rfl), rfl, (fun i => zI8_v i), (fun i => zI24_v i), rfl, (fun _ => rfl), rfl, rfl, rfl, rfl, (fun _ => rfl), (fun _ => rfl), (fun _ => rfl), (fun _ => rfl), (fun _ => rfl), rfl, (fun _ => rfl), (fun _ => rfl), (fun _ => rfl), rfl, (fun _ => rfl), (fun _ => rfl), (fun _ => rfl), (fun _ => rfl), (fun _ => rfl), rfl, (fun i => zI8_v i), (fun i => zI24_v i), rfl, (fun _ => rfl), rfl, rfl, rfl, rfl, (fun _ => rfl), (fun _ => rfl), (fun _ => rfl), (fun _ => rfl), (fun _ => rfl), rfl, (fun _ => rfl), (fun _ => rfl), (fun _ => rfl), rfl, (fun _ => rfl), (fun _ => rfl), (fun _ => rfl), (fun _ => rfl), (fun _ => rfl), rfl, (fun i => zI8_v i), (fun i => zI24_v i), rfl, rfl, (fun _ => rfl), (fun _ => rfl), (fun _ => rfl), rfl, (fun _ => rfl), (fun _ => rfl), (fun _ => rfl), (fun _ => rfl), (fun _ => rfl), rfl, (fun i => zI8_v i), (fun i => zI24_v i), rfl, rfl, rfl, (fun _ => rfl), (fun _ => rfl), (fun _ => rfl), (fun _ => rfl), rfl⟩
theorem AM_0 : AM zI107 (fun _ => 0) (fun _ => 0) 0 0 (fun _ => 0) 0 0 0 0 0 0 0 (-1 : Int32) 0 (fun _ => 0) (fun _ => 0) (fun _ => 0) (fun _ => 0) (fun _ => 0) (fun _ => 0) (fun _ => 0) (fun _ => 0) (fun _ => 0) (fun _ => 0) 0 0 0 m0 := ⟨(fun i => zI107_v i), (fun _ => rfl), (fun _ => rfl), rfl, rfl, (fun _ => rfl), rfl, rfl, rfl, rfl, rfl, rfl, rfl, rfl, rfl, (fun _ => rfl), (fun _ => rfl), (fun _ => rfl), (fun _ => rfl), (fun _ => rfl), (fun _ => rfl), (fun _ => rfl), (fun _ => rfl), (fun _ => rfl), (fun _ => rfl), rfl, rfl, rfl⟩
