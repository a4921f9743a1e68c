/-! the law: the cells at the start, one by one -/
def lfA (E : on_E) (z : Nat) : List va_E := [.inr (11, [.ref (z + 1), .int 0, .ref (z + 2), .ref (z + 27), .ref (z + 52), .ref (z + 53), .ref (z + 54), .ref (z + 55), .ref (z + 59), .ref (z + 63), .ref (z + 65), .ref (z + 67)]), .inl (on_ca E 1, (1400, .inl fun _ => 0)), .inr (9, [.int 0, .int 0, .int 0, .int 0, .ref (z + 3), .ref (z + 4), .ref (z + 5), .int 0, .ref (z + 6), .ref (z + 7), .ref (z + 8), .ref (z + 9), .ref (z + 10), .ref (z + 16), .ref (z + 22), .ref (z + 26)]), .inl (on_ca E 0, (9, .inl fun _ => 0)), .inl (on_ca E 0, (9, .inl fun _ => 0)), .inl (on_ca E 0, (9, .inl fun _ => 0)), .inl (on_ca E 0, (9, .inl fun _ => 0)), .inl (on_ca E 0, (9, .inl fun _ => 0)), .inl (on_ca E 0, (16, .inl fun _ => 0)), .inl (on_ca E 0, (16, .inl fun _ => 0)), .inr (3, [.int 0, .ref (z + 11), .ref (z + 12), .ref (z + 13), .ref (z + 14), .ref (z + 15)]), .inl (on_ca E 0, (9, .inl fun _ => 0)), .inl (on_ca E 0, (9, .inl fun _ => 0)), .inl (on_ca E 0, (9, .inl fun _ => 0)), .inl (on_ca E 0, (9, .inl fun _ => 0)), .inl (on_ca E 0, (81, .inl fun _ => 0)), .inr (4, [.int 0, .ref (z + 17), .ref (z + 18), .ref (z + 19), .ref (z + 20), .ref (z + 21)]), .inl (on_ca E 0, (2, .inl fun _ => 0)), .inl (on_ca E 0, (2, .inl fun _ => 0)), .inl (on_ca E 0, (2, .inl fun _ => 0)), .inl (on_ca E 0, (8, .inl fun _ => 0)), .inl (on_ca E 0, (8, .inl fun _ => 0)), .inr (2, [.int 0, .ref (z + 23), .ref (z + 24), .ref (z + 25)]), .inl (on_ca E 0, (60, .inl fun _ => 0)), .inl (on_ca E 0, (60, .inl fun _ => 0)), .inl (on_ca E 0, (240, .inl fun _ => 0)), .inl (on_ca E 0, (8, .inl fun _ => 0)), .inr (9, [.int 0, .int 0, .int 0, .int 0, .ref (z + 28), .ref (z + 29), .ref (z + 30), .int 0, .ref (z + 31), .ref (z + 32), .ref (z + 33), .ref (z + 34), .ref (z + 35), .ref (z + 41), .ref (z + 47), .ref (z + 51)]), .inl (on_ca E 0, (9, .inl fun _ => 0)), .inl (on_ca E 0, (9, .inl fun _ => 0)), .inl (on_ca E 0, (9, .inl fun _ => 0)), .inl (on_ca E 0, (9, .inl fun _ => 0)), .inl (on_ca E 0, (9, .inl fun _ => 0)), .inl (on_ca E 0, (16, .inl fun _ => 0)), .inl (on_ca E 0, (16, .inl fun _ => 0)), .inr (3, [.int 0, .ref (z + 36), .ref (z + 37), .ref (z + 38), .ref (z + 39), .ref (z + 40)]), .inl (on_ca E 0, (9, .inl fun _ => 0)), .inl (on_ca E 0, (9, .inl fun _ => 0)), .inl (on_ca E 0, (9, .inl fun _ => 0)), .inl (on_ca E 0, (9, .inl fun _ => 0)), .inl (on_ca E 0, (81, .inl fun _ => 0)), .inr (4, [.int 0, .ref (z + 42), .ref (z + 43), .ref (z + 44), .ref (z + 45), .ref (z + 46)]), .inl (on_ca E 0, (2, .inl fun _ => 0)), .inl (on_ca E 0, (2, .inl fun _ => 0)), .inl (on_ca E 0, (2, .inl fun _ => 0)), .inl (on_ca E 0, (8, .inl fun _ => 0)), .inl (on_ca E 0, (8, .inl fun _ => 0)), .inr (2, [.int 0, .ref (z + 48), .ref (z + 49), .ref (z + 50)]), .inl (on_ca E 0, (60, .inl fun _ => 0)), .inl (on_ca E 0, (60, .inl fun _ => 0)), .inl (on_ca E 0, (240, .inl fun _ => 0)), .inl (on_ca E 0, (8, .inl fun _ => 0)), .inr (6, [.ref (z + 1), .ref (z + 27), .int 0, .int 0, .int 0, .int 0, .int 0, .int 0, .int 0, .int (on_i (-1))]), .inl (on_ca E 4, (3, .inr (.inr (.inr (.inr fun _ => none))))), .inl (on_ca E 5, (4, .inr (.inr (.inr (.inr (va_up (va_up (va_up (va_up (fun _ => none) (0 : Int).toNat (some (z + 69))) (1 : Int).toNat (some (z + 71))) (2 : Int).toNat (some (z + 73))) (3 : Int).toNat (some (z + 75)))))))), .inr (7, [.ref (z + 2), .ref (z + 56), .ref (z + 57), .ref (z + 58), .int 0, .int 0]), .inl (on_ca E 0, (378, .inl fun x : Nat => on_i (bRow x))), .inl (on_ca E 0, (9, .inl fun _ => 0)), .inl (on_ca E 0, (16, .inl fun _ => 0)), .inr (1, [.ref (z + 2), .ref (z + 55), .ref (z + 60), .ref (z + 61), .ref (z + 62), .int 0, .int 0, .int 0, .int 0]), .inl (on_ca E 0, (1024, .inl fun _ => 0)), .inl (on_ca E 0, (1024, .inl fun _ => 0)), .inl (on_ca E 0, (1024, .inl fun _ => 0)), .inr (0, [.ref (z + 2), .ref (z + 64)]), .inl (on_ca E 0, (16, .inl fun _ => 0)), .inr (5, [.ref (z + 2), .ref (z + 66), .int 0, .int 0]), .inl (on_ca E 0, (8, .inl fun _ => 0)), .inr (10, [.ref (z + 2), .ref (z + 68), .int 0, .int 0, .int 0]), .inl (on_ca E 0, (4, .inl fun _ => 0)), .inr (8, [.int (on_i (-1)), .int 0, .ref (z + 70)]), .inl (on_ca E 2, (60, .inr (.inl fun _ => 0))), .inr (8, [.int (on_i (-1)), .int 0, .ref (z + 72)]), .inl (on_ca E 2, (60, .inr (.inl fun _ => 0))), .inr (8, [.int (on_i (-1)), .int 0, .ref (z + 74)]), .inl (on_ca E 2, (60, .inr (.inl fun _ => 0))), .inr (8, [.int (on_i (-1)), .int 0, .ref (z + 76)]), .inl (on_ca E 2, (60, .inr (.inl fun _ => 0)))]
def lfB (E : on_E) (z : Nat) : List va_E := [.inr (12, [.int 0, .ref (z + 78), .ref (z + 79), .ref (z + 80), .ref (z + 81), .int 0, .ref (z + 82), .int 0, .int 0, .int 0, .int 0, .int 0, .int 0, .int (on_i (-1)), .ref (z + 83), .ref (z + 84), .int 0, .ref (z + 85), .int 0, .ref (z + 86), .ref (z + 87), .ref (z + 88), .ref (z + 89), .ref (z + 90), .int 0, .int 0, .ref (z + 91), .ref (z + 92), .ref (z + 93), .ref (z + 94), .ref (z + 95), .int 0, .int 0, .ref (z + 96), .ref (z + 97), .ref (z + 98), .ref (z + 99)]), .inl (on_ca E 0, (687, .inl fun _ => 0)), .inl (on_ca E 0, (2061, .inl fun _ => 0)), .inl (on_ca E 3, (3, .inl fun _ => 0)), .inl (on_ca E 1, (1400, .inl fun _ => 0)), .inl (on_ca E 0, (5, .inl fun _ => 0)), .inl (on_ca E 0, (687, .inl fun _ => 0)), .inl (on_ca E 0, (4, .inl fun _ => 0)), .inl (on_ca E 0, (8, .inl fun _ => 0)), .inl (on_ca E 0, (4, .inl fun _ => 0)), .inl (on_ca E 0, (6200, .inl fun _ => 0)), .inl (on_ca E 0, (24800, .inl fun _ => 0)), .inl (on_ca E 0, (6200, .inl fun _ => 0)), .inl (on_ca E 0, (2, .inl fun _ => 0)), .inl (on_ca E 0, (2, .inl fun _ => 0)), .inl (on_ca E 0, (4, .inl fun _ => 0)), .inl (on_ca E 0, (4, .inl fun _ => 0)), .inl (on_ca E 0, (2, .inl fun _ => 0)), .inl (on_ca E 0, (16, .inl fun _ => 0)), .inl (on_ca E 0, (4, .inl (upd (upd (upd (upd (fun _ => 0) (0 : Int).toNat (on_i (-1))) (1 : Int).toNat (on_i (-1))) (2 : Int).toNat (on_i (-1))) (3 : Int).toNat (on_i (-1))))), .inl (on_ca E 0, (4, .inl fun _ => 0)), .inl (on_ca E 2, (240, .inr (.inl fun _ => 0))), .inl (on_ca E 2, (60, .inr (.inl fun _ => 0)))]
set_option maxRecDepth 20000 in
set_option maxHeartbeats 4000000 in
theorem lfA_eq (E : on_E) (z : Nat) : lfX11 E z 0 = lfA E z := by
  simp only [lfX11, lfX9, lfX3, lfX4, lfX2, lfX6, lfX7, lfX1, lfX0, lfX5, lfX10, lfX8, lfA, List.nil_append, List.cons_append, List.set_cons_succ, List.set_cons_zero, on_ai, on_ag, on_qa, Nat.reduceAdd, Nat.zero_add]
set_option maxRecDepth 20000 in
set_option maxHeartbeats 4000000 in
theorem lfB_eq (E : on_E) (z : Nat) : lfX12 E z 77 = lfB E z := by
  simp only [lfX12, lfB, List.nil_append, List.cons_append, List.set_cons_succ, List.set_cons_zero, on_ai, on_ag, on_qa, Nat.reduceAdd, Nat.zero_add]
theorem s0_z {c : Nat} (h : c ≠ 56 ∧ c ≠ 96 ∧ c ≠ 69 ∧ c ≠ 71 ∧ c ≠ 73 ∧ c ≠ 75 ∧ c ≠ 77 ∧ c ≠ 52) : on_s0 c = fun _ => 0 := funext fun i => on_s0_z h
theorem s0_56 : on_s0 56 = fun i => bRow i.toNat := funext fun i => by unfold on_s0; rw [if_pos rfl]
theorem s0_96 : on_s0 96 = fun _ => -1 := funext fun i => on_s0_m (by omega) (by omega)
theorem s0_sl {c : Nat} (h : c = 69 ∨ c = 71 ∨ c = 73 ∨ c = 75) : on_s0 c = fun i => if i = 0 then -1 else 0 := funext fun i => by
  by_cases e : i = 0
  · rw [if_pos e]; exact on_s0_m (by omega) (by omega)
  · rw [if_neg e]; exact on_s0_n (by omega) (by omega)
theorem s0_77 : on_s0 77 = fun i => if i = 13 then -1 else 0 := funext fun i => by
  by_cases e : i = 13
  · rw [if_pos e]; exact on_s0_m (by omega) (by omega)
  · rw [if_neg e]; exact on_s0_n (by omega) (by omega)
theorem s0_52 : on_s0 52 = fun i => if i = 9 then -1 else 0 := funext fun i => by
  by_cases e : i = 9
  · rw [if_pos e]; exact on_s0_m (by omega) (by omega)
  · rw [if_neg e]; exact on_s0_n (by omega) (by omega)
set_option maxRecDepth 20000 in
theorem st_0 (E : on_E) (z : Nat) : ∀ k : Nat, 0 ≤ k → k < 27 → (lfA E z)[k]? = some (on_ce E z k (on_s0 k)) := by
  intro k h1 h2
  rcases (show k = 0 ∨ k = 1 ∨ k = 2 ∨ k = 3 ∨ k = 4 ∨ k = 5 ∨ k = 6 ∨ k = 7 ∨ k = 8 ∨ k = 9 ∨ k = 10 ∨ k = 11 ∨ k = 12 ∨ k = 13 ∨ k = 14 ∨ k = 15 ∨ k = 16 ∨ k = 17 ∨ k = 18 ∨ k = 19 ∨ k = 20 ∨ k = 21 ∨ k = 22 ∨ k = 23 ∨ k = 24 ∨ k = 25 ∨ k = 26 by omega) with h | h | h | h | h | h | h | h | h | h | h | h | h | h | h | h | h | h | h | h | h | h | h | h | h | h | h <;> subst h
  · rw [s0_z (c := 0) (by decide)]; rfl
  · rw [s0_z (c := 1) (by decide)]; rfl
  · rw [s0_z (c := 2) (by decide)]; rfl
  · rw [s0_z (c := 3) (by decide)]; rfl
  · rw [s0_z (c := 4) (by decide)]; rfl
  · rw [s0_z (c := 5) (by decide)]; rfl
  · rw [s0_z (c := 6) (by decide)]; rfl
  · rw [s0_z (c := 7) (by decide)]; rfl
  · rw [s0_z (c := 8) (by decide)]; rfl
  · rw [s0_z (c := 9) (by decide)]; rfl
  · rw [s0_z (c := 10) (by decide)]; rfl
  · rw [s0_z (c := 11) (by decide)]; rfl
  · rw [s0_z (c := 12) (by decide)]; rfl
  · rw [s0_z (c := 13) (by decide)]; rfl
  · rw [s0_z (c := 14) (by decide)]; rfl
  · rw [s0_z (c := 15) (by decide)]; rfl
  · rw [s0_z (c := 16) (by decide)]; rfl
  · rw [s0_z (c := 17) (by decide)]; rfl
  · rw [s0_z (c := 18) (by decide)]; rfl
  · rw [s0_z (c := 19) (by decide)]; rfl
  · rw [s0_z (c := 20) (by decide)]; rfl
  · rw [s0_z (c := 21) (by decide)]; rfl
  · rw [s0_z (c := 22) (by decide)]; rfl
  · rw [s0_z (c := 23) (by decide)]; rfl
  · rw [s0_z (c := 24) (by decide)]; rfl
  · rw [s0_z (c := 25) (by decide)]; rfl
  · rw [s0_z (c := 26) (by decide)]; rfl
set_option maxRecDepth 20000 in
theorem st_1 (E : on_E) (z : Nat) : ∀ k : Nat, 27 ≤ k → k < 52 → (lfA E z)[k]? = some (on_ce E z k (on_s0 k)) := by
  intro k h1 h2
  rcases (show k = 27 ∨ k = 28 ∨ k = 29 ∨ k = 30 ∨ k = 31 ∨ k = 32 ∨ k = 33 ∨ k = 34 ∨ k = 35 ∨ k = 36 ∨ k = 37 ∨ k = 38 ∨ k = 39 ∨ k = 40 ∨ k = 41 ∨ k = 42 ∨ k = 43 ∨ k = 44 ∨ k = 45 ∨ k = 46 ∨ k = 47 ∨ k = 48 ∨ k = 49 ∨ k = 50 ∨ k = 51 by omega) with h | h | h | h | h | h | h | h | h | h | h | h | h | h | h | h | h | h | h | h | h | h | h | h | h <;> subst h
  · rw [s0_z (c := 27) (by decide)]; rfl
  · rw [s0_z (c := 28) (by decide)]; rfl
  · rw [s0_z (c := 29) (by decide)]; rfl
  · rw [s0_z (c := 30) (by decide)]; rfl
  · rw [s0_z (c := 31) (by decide)]; rfl
  · rw [s0_z (c := 32) (by decide)]; rfl
  · rw [s0_z (c := 33) (by decide)]; rfl
  · rw [s0_z (c := 34) (by decide)]; rfl
  · rw [s0_z (c := 35) (by decide)]; rfl
  · rw [s0_z (c := 36) (by decide)]; rfl
  · rw [s0_z (c := 37) (by decide)]; rfl
  · rw [s0_z (c := 38) (by decide)]; rfl
  · rw [s0_z (c := 39) (by decide)]; rfl
  · rw [s0_z (c := 40) (by decide)]; rfl
  · rw [s0_z (c := 41) (by decide)]; rfl
  · rw [s0_z (c := 42) (by decide)]; rfl
  · rw [s0_z (c := 43) (by decide)]; rfl
  · rw [s0_z (c := 44) (by decide)]; rfl
  · rw [s0_z (c := 45) (by decide)]; rfl
  · rw [s0_z (c := 46) (by decide)]; rfl
  · rw [s0_z (c := 47) (by decide)]; rfl
  · rw [s0_z (c := 48) (by decide)]; rfl
  · rw [s0_z (c := 49) (by decide)]; rfl
  · rw [s0_z (c := 50) (by decide)]; rfl
  · rw [s0_z (c := 51) (by decide)]; rfl
set_option maxRecDepth 20000 in
theorem st_2 (E : on_E) (z : Nat) : ∀ k : Nat, 52 ≤ k → k < 77 → k ≠ 54 → (lfA E z)[k]? = some (on_ce E z k (on_s0 k)) := by
  intro k h1 h2 h54
  rcases (show k = 52 ∨ k = 53 ∨ k = 55 ∨ k = 56 ∨ k = 57 ∨ k = 58 ∨ k = 59 ∨ k = 60 ∨ k = 61 ∨ k = 62 ∨ k = 63 ∨ k = 64 ∨ k = 65 ∨ k = 66 ∨ k = 67 ∨ k = 68 ∨ k = 69 ∨ k = 70 ∨ k = 71 ∨ k = 72 ∨ k = 73 ∨ k = 74 ∨ k = 75 ∨ k = 76 by omega) with h | h | h | h | h | h | h | h | h | h | h | h | h | h | h | h | h | h | h | h | h | h | h | h <;> subst h
  · rw [s0_52]; rfl
  · rw [s0_z (c := 53) (by decide)]; rfl
  · rw [s0_z (c := 55) (by decide)]; rfl
  · rw [s0_56]; rfl
  · rw [s0_z (c := 57) (by decide)]; rfl
  · rw [s0_z (c := 58) (by decide)]; rfl
  · rw [s0_z (c := 59) (by decide)]; rfl
  · rw [s0_z (c := 60) (by decide)]; rfl
  · rw [s0_z (c := 61) (by decide)]; rfl
  · rw [s0_z (c := 62) (by decide)]; rfl
  · rw [s0_z (c := 63) (by decide)]; rfl
  · rw [s0_z (c := 64) (by decide)]; rfl
  · rw [s0_z (c := 65) (by decide)]; rfl
  · rw [s0_z (c := 66) (by decide)]; rfl
  · rw [s0_z (c := 67) (by decide)]; rfl
  · rw [s0_z (c := 68) (by decide)]; rfl
  · rw [s0_sl (by decide)]; rfl
  · rw [s0_z (c := 70) (by decide)]; rfl
  · rw [s0_sl (by decide)]; rfl
  · rw [s0_z (c := 72) (by decide)]; rfl
  · rw [s0_sl (by decide)]; rfl
  · rw [s0_z (c := 74) (by decide)]; rfl
  · rw [s0_sl (by decide)]; rfl
  · rw [s0_z (c := 76) (by decide)]; rfl
set_option maxRecDepth 20000 in
theorem st_3 (E : on_E) (z : Nat) : ∀ k : Nat, 77 ≤ k → k < 100 → k ≠ 96 → (lfB E z)[k - 77]? = some (on_ce E z k (on_s0 k)) := by
  intro k h1 h2 h96
  rcases (show k = 77 ∨ k = 78 ∨ k = 79 ∨ k = 80 ∨ k = 81 ∨ k = 82 ∨ k = 83 ∨ k = 84 ∨ k = 85 ∨ k = 86 ∨ k = 87 ∨ k = 88 ∨ k = 89 ∨ k = 90 ∨ k = 91 ∨ k = 92 ∨ k = 93 ∨ k = 94 ∨ k = 95 ∨ k = 97 ∨ k = 98 ∨ k = 99 by omega) with h | h | h | h | h | h | h | h | h | h | h | h | h | h | h | h | h | h | h | h | h | h <;> subst h
  · rw [s0_77]; rfl
  · rw [s0_z (c := 78) (by decide)]; rfl
  · rw [s0_z (c := 79) (by decide)]; rfl
  · rw [s0_z (c := 80) (by decide)]; rfl
  · rw [s0_z (c := 81) (by decide)]; rfl
  · rw [s0_z (c := 82) (by decide)]; rfl
  · rw [s0_z (c := 83) (by decide)]; rfl
  · rw [s0_z (c := 84) (by decide)]; rfl
  · rw [s0_z (c := 85) (by decide)]; rfl
  · rw [s0_z (c := 86) (by decide)]; rfl
  · rw [s0_z (c := 87) (by decide)]; rfl
  · rw [s0_z (c := 88) (by decide)]; rfl
  · rw [s0_z (c := 89) (by decide)]; rfl
  · rw [s0_z (c := 90) (by decide)]; rfl
  · rw [s0_z (c := 91) (by decide)]; rfl
  · rw [s0_z (c := 92) (by decide)]; rfl
  · rw [s0_z (c := 93) (by decide)]; rfl
  · rw [s0_z (c := 94) (by decide)]; rfl
  · rw [s0_z (c := 95) (by decide)]; rfl
  · rw [s0_z (c := 97) (by decide)]; rfl
  · rw [s0_z (c := 98) (by decide)]; rfl
  · rw [s0_z (c := 99) (by decide)]; rfl
theorem on_cellq {c : ClassId} {n : Nat} {f g : Nat → Option Nat} (h : ∀ j, j < n → f j = g j) : vp_cell c (n, .inr (.inr (.inr (.inr f)))) = vp_cell c (n, .inr (.inr (.inr (.inr g)))) := by
  rw [vp_cell_q, vp_cell_q]
  have e : (fun j : Fin n => va_rf (f j.val)) = fun j : Fin n => va_rf (g j.val) := funext fun j => by rw [h j.1 j.2]
  show ({ cls := c, slots := Array.ofFn (n := n) fun j : Fin n => va_rf (f j.val), vm := .none } : Cell) = { cls := c, slots := Array.ofFn (n := n) fun j : Fin n => va_rf (g j.val), vm := .none }
  rw [e]
theorem on_celli {c : ClassId} {n : Nat} {f g : Nat → Int32} (h : ∀ j, j < n → f j = g j) : vp_cell c (n, .inl f) = vp_cell c (n, .inl g) := by
  rw [vp_cell_i, vp_cell_i]
  have e : (fun j : Fin n => Value.int (f j.val)) = fun j : Fin n => Value.int (g j.val) := funext fun j => by rw [h j.1 j.2]
  show ({ cls := c, slots := Array.ofFn (n := n) fun j : Fin n => Value.int (f j.val), vm := .none } : Cell) = { cls := c, slots := Array.ofFn (n := n) fun j : Fin n => Value.int (g j.val), vm := .none }
  rw [e]
theorem on_start {E : on_E} {z : Nat} {H : Heap} (h1 : va_P E.2.1 vwCl (on_wl z 0 (lfX11 E z 0)) H) (h2 : on_Rj E z 77 (lfX12 E z 77) H) : on_Rep E z 100 on_s0 H := by
  have hs := h2.1
  have h2 := h2.2
  rw [lfA_eq] at h1
  rw [lfB_eq] at h2 hs
  have hsz : H.size = z + 100 := hs
  refine ⟨hsz, fun k q hq => ?_⟩
  have hk : k < 100 := by
    have := (List.getElem?_eq_some_iff.mp hq).1
    simpa [on_ws] using this
  rw [on_ws_at E z on_s0 hk] at hq
  cases hq
  by_cases h54 : k = 54
  · subst h54
    have h9 : H[z + (0 + 54)]? = some _ := h1 54 _ (on_wl_at z _ 0 54 _ rfl)
    show H[z + 54]? = some (vp_cell (on_ca E 5) (4, .inr (.inr (.inr (.inr fun j => some (z + (69 + 2 * j)))))))
    rw [show z + 54 = z + (0 + 54) from rfl, h9]
    refine congrArg some (on_cellq fun j hj => ?_)
    rcases (show j = 0 ∨ j = 1 ∨ j = 2 ∨ j = 3 by omega) with h | h | h | h <;> subst h <;> rfl
  · by_cases h96 : k = 96
    · subst h96
      have h9 : H[z + (77 + 19)]? = some _ := h2 19 _ (on_wl_at z _ 77 19 _ rfl)
      show va_at E.2.1 vwCl (z + 96, on_ce E z 96 (on_s0 96)) H
      rw [s0_96]
      show H[z + 96]? = some (vp_cell (on_ca E 0) (4, .inl fun _ => on_i (-1)))
      rw [show z + 96 = z + (77 + 19) from rfl, h9]
      refine congrArg some (on_celli fun j hj => ?_)
      rcases (show j = 0 ∨ j = 1 ∨ j = 2 ∨ j = 3 by omega) with h | h | h | h <;> subst h <;> rfl
    · by_cases h77 : k < 77
      · have e : (lfA E z)[k]? = some (on_ce E z k (on_s0 k)) := by
          by_cases a : k < 27
          · exact st_0 E z k (by omega) a
          · by_cases a2 : k < 52
            · exact st_1 E z k (by omega) a2
            · exact st_2 E z k (by omega) h77 h54
        have := h1 k _ (on_wl_at z _ 0 k _ e)
        rw [Nat.zero_add] at this
        exact this
      · have e := st_3 E z k (by omega) hk h96
        have := h2 (k - 77) _ (on_wl_at z _ 77 (k - 77) _ e)
        rw [show 77 + (k - 77) = k by omega] at this
        exact this
