/-! the pure world: cell, place, number; what a cell is, by its number -/
abbrev on_S : Type := Nat → Int → Int
abbrev on_O : Type := Int × on_S
def on_i (a : Int) : Int32 := Int32.ofInt a
def on_l (a : Int) : Int64 := Int64.ofInt a
def on_shT : List (Nat × Nat) := [(0, 11), (2, 1400), (0, 9), (1, 9), (1, 9), (1, 9), (1, 9), (1, 9), (1, 16), (1, 16), (0, 3), (1, 9), (1, 9), (1, 9), (1, 9), (1, 81), (0, 4), (1, 2), (1, 2), (1, 2), (1, 8), (1, 8), (0, 2), (1, 60), (1, 60), (1, 240), (1, 8), (0, 9), (1, 9), (1, 9), (1, 9), (1, 9), (1, 9), (1, 16), (1, 16), (0, 3), (1, 9), (1, 9), (1, 9), (1, 9), (1, 81), (0, 4), (1, 2), (1, 2), (1, 2), (1, 8), (1, 8), (0, 2), (1, 60), (1, 60), (1, 240), (1, 8), (0, 6), (5, 3), (6, 4), (0, 7), (1, 378), (1, 9), (1, 16), (0, 1), (1, 1024), (1, 1024), (1, 1024), (0, 0), (1, 16), (0, 5), (1, 8), (0, 10), (1, 4), (0, 8), (3, 60), (0, 8), (3, 60), (0, 8), (3, 60), (0, 8), (3, 60), (0, 12), (1, 687), (1, 2061), (4, 3), (2, 1400), (1, 5), (1, 687), (1, 4), (1, 8), (1, 4), (1, 6200), (1, 24800), (1, 6200), (1, 2), (1, 2), (1, 4), (1, 4), (1, 2), (1, 16), (1, 4), (1, 4), (3, 240), (3, 60)]
def on_shS : List (Nat × Nat) := [(0, 9), (1, 9), (1, 9), (1, 9), (1, 9), (1, 9), (1, 16), (1, 16), (0, 3), (1, 9), (1, 9), (1, 9), (1, 9), (1, 81), (0, 4), (1, 2), (1, 2), (1, 2), (1, 8), (1, 8), (0, 2), (1, 60), (1, 60), (1, 240), (1, 8)]
def on_sh (c : Nat) : Nat × Nat := if c < 100 then on_shT.getD c (9, 0) else on_shS.getD ((c - 100) % 25) (9, 0)
def on_fl (z c ci : Nat) (r : Int → Int) : List Value := match ci with
  | 0 => [.ref (z + 2), .ref (z + 64)]
  | 1 => [.ref (z + 2), .ref (z + 55), .ref (z + 60), .ref (z + 61), .ref (z + 62), .int (on_i (r 5)), .int (on_i (r 6)), .int (on_i (r 7)), .int (on_i (r 8))]
  | 2 => [.int (on_i (r 0)), .ref (z + (c + 1)), .ref (z + (c + 2)), .ref (z + (c + 3))]
  | 3 => [.int (on_i (r 0)), .ref (z + (c + 1)), .ref (z + (c + 2)), .ref (z + (c + 3)), .ref (z + (c + 4)), .ref (z + (c + 5))]
  | 4 => [.int (on_i (r 0)), .ref (z + (c + 1)), .ref (z + (c + 2)), .ref (z + (c + 3)), .ref (z + (c + 4)), .ref (z + (c + 5))]
  | 5 => [.ref (z + 2), .ref (z + 66), .int (on_i (r 2)), .int (on_i (r 3))]
  | 6 => [.ref (z + 1), .ref (z + 27), .int (on_i (r 2)), .int (on_i (r 3)), .int (on_i (r 4)), .int (on_i (r 5)), .int (on_i (r 6)), .int (on_i (r 7)), .int (on_i (r 8)), .int (on_i (r 9))]
  | 7 => [.ref (z + 2), .ref (z + 56), .ref (z + 57), .ref (z + 58), .int (on_i (r 4)), .int (on_i (r 5))]
  | 8 => [.int (on_i (r 0)), .int (on_i (r 1)), .ref (z + (c + 1))]
  | 9 => [.int (on_i (r 0)), .int (on_i (r 1)), .int (on_i (r 2)), .int (on_i (r 3)), .ref (z + (c + 1)), .ref (z + (c + 2)), .ref (z + (c + 3)), .int (on_i (r 7)), .ref (z + (c + 4)), .ref (z + (c + 5)), .ref (z + (c + 6)), .ref (z + (c + 7)), .ref (z + (c + 8)), .ref (z + (c + 14)), .ref (z + (c + 20)), .ref (z + (c + 24))]
  | 10 => [.ref (z + 2), .ref (z + 68), .int (on_i (r 2)), .int (on_i (r 3)), .int (on_i (r 4))]
  | 11 => [.ref (z + 1), .int (on_i (r 1)), .ref (z + 2), .ref (z + 27), .ref (z + 52), .ref (z + 53), .ref (z + 54), .ref (z + 55), .ref (z + 59), .ref (z + 63), .ref (z + 65), .ref (z + 67)]
  | 12 => [.int (on_i (r 0)), .ref (z + 78), .ref (z + 79), .ref (z + 80), .ref (z + 81), .int (on_i (r 5)), .ref (z + 82), .int (on_i (r 7)), .int (on_i (r 8)), .int (on_i (r 9)), .int (on_i (r 10)), .int (on_i (r 11)), .int (on_i (r 12)), .int (on_i (r 13)), .ref (z + 83), .ref (z + 84), .int (on_i (r 16)), .ref (z + 85), .int (on_i (r 18)), .ref (z + 86), .ref (z + 87), .ref (z + 88), .ref (z + 89), .ref (z + 90), .int (on_i (r 24)), .int (on_i (r 25)), .ref (z + 91), .ref (z + 92), .ref (z + 93), .ref (z + 94), .ref (z + 95), .int (on_i (r 31)), .int (on_i (r 32)), .ref (z + 96), .ref (z + 97), .ref (z + 98), .ref (z + 99)]
  | _ => []
/-- class ids of arrays, strings' addresses -/
abbrev on_E : Type := Launch × va_G × (Nat → ClassId) × (Nat → Nat) × (Nat → Nat)
def on_ca (E : on_E) : Nat → ClassId := E.2.2.1
def on_rr (z : Nat) (r : Int → Int) (j : Nat) : Option Nat := if r j = 0 then none else some (z + (r j).toNat)
def on_ce (E : on_E) (z c : Nat) (r : Int → Int) : va_E := match on_sh c with
  | (0, ci) => .inr (ci, on_fl z c ci r)
  | (1, n) => .inl (on_ca E 0, n, .inl fun j => on_i (r j))
  | (2, n) => .inl (on_ca E 1, n, .inl fun j => on_i (r j))
  | (3, n) => .inl (on_ca E 2, n, .inr (.inl fun j => on_l (r j)))
  | (4, n) => .inl (on_ca E 3, n, .inl fun j => on_i (r j))
  | (5, n) => .inl (on_ca E 4, n, .inr (.inr (.inr (.inr (on_rr z r)))))
  | (_, n) => .inl (on_ca E 5, n, .inr (.inr (.inr (.inr fun j => some (z + (69 + 2 * j))))))
def on_tys (E : on_E) : List (ClassId × FieldType) := [(on_ca E 0, .int), (on_ca E 1, .byte), (on_ca E 2, .long), (on_ca E 3, .boolean), (on_ca E 4, .object "OppositeNets$Street"), (on_ca E 5, .object "OppositeNets$Slot")]
def on_ws (E : on_E) (z n : Nat) (σ : on_S) : va_W := (List.range n).map fun c => (z + c, on_ce E z c (σ c))
def on_Rep (E : on_E) (z n : Nat) (σ : on_S) (H : Heap) : Prop := H.size = z + n ∧ va_P E.2.1 vwCl (on_ws E z n σ) H
theorem on_ws_at (E : on_E) (z : Nat) {n c : Nat} (σ : on_S) (h : c < n) : (on_ws E z n σ)[c]? = some (z + c, on_ce E z c (σ c)) := by
  simp [on_ws, h]
theorem on_ws_D (E : on_E) (z n : Nat) (σ : on_S) : va_D (fun q => z ≤ q) (on_ws E z n σ) := by
  refine ⟨?_, ?_⟩
  · intro i j p q hi hj h
    have ei : i < n := by
      have := (List.getElem?_eq_some_iff.mp hi).1
      simpa [on_ws] using this
    have ej : j < n := by
      have := (List.getElem?_eq_some_iff.mp hj).1
      simpa [on_ws] using this
    rw [on_ws_at E z σ ei] at hi
    rw [on_ws_at E z σ ej] at hj
    cases hi; cases hj
    simp only at h
    omega
  · intro k q hk
    have ek : k < n := by
      have := (List.getElem?_eq_some_iff.mp hk).1
      simpa [on_ws] using this
    rw [on_ws_at E z σ ek] at hk
    cases hk
    exact Nat.le_add_right _ _
/-- one cell's row made anew -/
def on_sr (σ : on_S) (c : Nat) (r : Int → Int) : on_S := fun c' => if c' = c then r else σ c'
theorem on_ws_set (E : on_E) (z : Nat) {n c : Nat} (σ : on_S) (r : Int → Int) (h : c < n) : (on_ws E z n σ).set c (z + c, on_ce E z c r) = on_ws E z n (on_sr σ c r) := by
  apply List.ext_getElem?
  intro k
  rw [List.getElem?_set]
  by_cases hk : k < n
  · rw [on_ws_at E z σ hk, on_ws_at E z (on_sr σ c r) hk]
    by_cases e : c = k
    · subst e
      simp [on_sr, on_ws, h]
    · have e' : ¬ k = c := fun q => e q.symm
      simp [on_sr, e, e']
  · have h1 : (on_ws E z n σ)[k]? = none := by simp [on_ws, hk]
    have h2 : (on_ws E z n (on_sr σ c r))[k]? = none := by simp [on_ws, hk]
    rw [h1, h2]
    have e : ¬ c = k := by omega
    simp [e]
def on_st (σ : on_S) (c : Nat) (i v : Int) : on_S := fun c' i' => if c' = c ∧ i' = i then v else σ c' i'
theorem on_st_sr (σ : on_S) (c : Nat) (i v : Int) : on_st σ c i v = on_sr σ c (fun j => if j = i then v else σ c j) := by
  funext c' j
  by_cases h : c' = c
  · subst h; simp [on_st, on_sr]
  · simp [on_st, on_sr, h]
/-- a street's cells begin at b -/
def on_Sb (n b : Nat) : Prop := b + 24 < n ∧ (b = 2 ∨ b = 27 ∨ ∃ i, b = 100 + 25 * i)
theorem on_shb {n b : Nat} (hb : on_Sb n b) (k : Nat) (hk : k < 25) : on_sh (b + k) = on_shS.getD k (9, 0) := by
  obtain ⟨-, rfl | rfl | ⟨i, rfl⟩⟩ := hb
  · have : ∀ k, k < 25 → on_sh (2 + k) = on_shS.getD k (9, 0) := by decide +kernel
    exact this k hk
  · have : ∀ k, k < 25 → on_sh (27 + k) = on_shS.getD k (9, 0) := by decide +kernel
    exact this k hk
  · unfold on_sh
    rw [if_neg (by omega)]
    congr 1
    omega
/-- a slot's cells begin at c -/
def on_Lb (c : Nat) : Prop := c = 69 ∨ c = 71 ∨ c = 73 ∨ c = 75
theorem on_in0 : ∀ w ∈ u_ws RX0 TX0 2, w ∈ on_T := by decide +kernel
theorem on_in1 : ∀ w ∈ u_ws RX1 TX1 9, w ∈ on_T := by decide +kernel
theorem on_in2 : ∀ w ∈ u_ws RX2 TX2 4, w ∈ on_T := by decide +kernel
theorem on_in3 : ∀ w ∈ u_ws RX3 TX3 6, w ∈ on_T := by decide +kernel
theorem on_in4 : ∀ w ∈ u_ws RX4 TX4 6, w ∈ on_T := by decide +kernel
theorem on_in5 : ∀ w ∈ u_ws RX5 TX5 4, w ∈ on_T := by decide +kernel
theorem on_in6 : ∀ w ∈ u_ws RX6 TX6 10, w ∈ on_T := by decide +kernel
theorem on_in7 : ∀ w ∈ u_ws RX7 TX7 6, w ∈ on_T := by decide +kernel
theorem on_in8 : ∀ w ∈ u_ws RX8 TX8 3, w ∈ on_T := by decide +kernel
theorem on_in9 : ∀ w ∈ u_ws RX9 TX9 16, w ∈ on_T := by decide +kernel
theorem on_in10 : ∀ w ∈ u_ws RX10 TX10 5, w ∈ on_T := by decide +kernel
theorem on_in11 : ∀ w ∈ u_ws RX11 TX11 12, w ∈ on_T := by decide +kernel
theorem on_in12 : ∀ w ∈ u_ws RX12 TX12 37, w ∈ on_T := by decide +kernel
