/-- a method's decoded rows: pc, length, the pc behind it, the instruction -/
def on_tab (cc : ByteArray) (L : List (Nat × Nat × Nat × Instr)) : Bool := L.all fun q => decide (decode cc q.1 = .ok (q.2.2.2, q.2.1)) && q.1 + q.2.1 == q.2.2.1
def on_dq (cc : ByteArray) (pc n pc2 : Nat) (i : Instr) : Prop := decode cc pc = .ok (i, n) ∧ pc + n = pc2
theorem on_ta {cc : ByteArray} {L : List (Nat × Nat × Nat × Instr)} (h : on_tab cc L = true) (k : Nat) {pc n pc2 : Nat} {i : Instr} (hk : L[k]? = some (pc, n, pc2, i)) : on_dq cc pc n pc2 i := by
  have h1 := List.all_eq_true.mp h _ (List.mem_of_getElem? hk)
  simp only [Bool.and_eq_true, decide_eq_true_eq, beq_iff_eq] at h1
  exact h1
/-! pure steps: what a piece of code does to the pure world; none: nothing is said -/
abbrev on_R (a : Int) : Prop := -2147483648 ≤ a ∧ a < 2147483648
abbrev on_RL (a : Int) : Prop := -9223372036854775808 ≤ a ∧ a < 9223372036854775808
def on_Rd (σ : on_S) (c n : Nat) (i : Int) (k : Int → Option on_O) : Option on_O := if 0 ≤ i ∧ i < n then k (σ c i) else none
def on_Wr (σ : on_S) (c n : Nat) (i v : Int) (k : on_S → Option on_O) : Option on_O := if 0 ≤ i ∧ i < n then k (on_st σ c i v) else none
def on_Eq (a b : Int) (x y : Option on_O) : Option on_O := if on_R a ∧ on_R b then (if a = b then x else y) else none
def on_Lt (a b : Int) (x y : Option on_O) : Option on_O := if on_R a ∧ on_R b then (if a < b then x else y) else none
def on_Le (a b : Int) (x y : Option on_O) : Option on_O := if on_R a ∧ on_R b then (if a ≤ b then x else y) else none
def on_EqL (a b : Int) (x y : Option on_O) : Option on_O := if on_RL a ∧ on_RL b then (if a = b then x else y) else none
def on_LtL (a b : Int) (x y : Option on_O) : Option on_O := if on_RL a ∧ on_RL b then (if a < b then x else y) else none
def on_LeL (a b : Int) (x y : Option on_O) : Option on_O := if on_RL a ∧ on_RL b then (if a ≤ b then x else y) else none
def on_Dv (a b : Int) (k : Int → Option on_O) : Option on_O := if on_R a ∧ on_R b ∧ 0 < b then k (a.tdiv b) else none
def on_Rm (a b : Int) (k : Int → Option on_O) : Option on_O := if on_R a ∧ on_R b ∧ 0 < b then k (a.tmod b) else none
def on_DvL (a b : Int) (k : Int → Option on_O) : Option on_O := if on_RL a ∧ on_RL b ∧ 0 < b then k (a.tdiv b) else none
def on_RmL (a b : Int) (k : Int → Option on_O) : Option on_O := if on_RL a ∧ on_RL b ∧ 0 < b then k (a.tmod b) else none
def on_Ck (a : Int) (x : Option on_O) : Option on_O := if on_R a then x else none
def on_Mx (a b : Int) (k : Int → Option on_O) : Option on_O := if on_R a ∧ on_R b then k (max a b) else none
def on_Mn (a b : Int) (k : Int → Option on_O) : Option on_O := if on_R a ∧ on_R b then k (min a b) else none
def on_Bz (a : Int) (σ : on_S) : Option on_O := if a = 0 ∨ a = 1 then some (a, σ) else none
def on_Cl (r : Option on_O) (k : Int → on_S → Option on_O) : Option on_O := match r with
  | none => none
  | some q => k q.1 q.2
def on_and (a b : Int) : Int := (on_i a &&& on_i b).toInt
def on_or (a b : Int) : Int := (on_i a ||| on_i b).toInt
def on_xor (a b : Int) : Int := (on_i a ^^^ on_i b).toInt
def on_shl (a b : Int) : Int := (on_i a <<< (on_i b &&& 31)).toInt
def on_shr (a b : Int) : Int := (on_i a >>> (on_i b &&& 31)).toInt
def on_ushr (a b : Int) : Int := ((on_i a).toUInt32 >>> ((on_i b).toUInt32 &&& Int32.toUInt32 31)).toInt32.toInt
def on_andl (a b : Int) : Int := (on_l a &&& on_l b).toInt
def on_orl (a b : Int) : Int := (on_l a ||| on_l b).toInt
def on_shll (a b : Int) : Int := (on_l a <<< ((on_i b).toInt64 &&& 63)).toInt
def on_shrl (a b : Int) : Int := (on_l a >>> ((on_i b).toInt64 &&& 63)).toInt
def on_ib (a : Int) : Int := (on_i a).toInt8.toInt32.toInt
def on_is (a : Int) : Int := (on_i a).toInt16.toInt32.toInt
theorem on_ti (x : Int32) : on_i x.toInt = x := by simp [on_i]
theorem on_tl (x : Int64) : on_l x.toInt = x := by simp [on_l]
theorem on_it {a : Int} (h : on_R a) : (on_i a).toInt = a := Int32.toInt_ofInt_of_le (by omega) (by omega)
theorem on_lt' {a : Int} (h : on_RL a) : (on_l a).toInt = a := Int64.toInt_ofInt_of_le (by omega) (by omega)
theorem on_i_add (a b : Int) : on_i (a + b) = on_i a + on_i b := Int32.ofInt_add a b
theorem on_i_sub (a b : Int) : on_i (a - b) = on_i a - on_i b := Int32.ofInt_sub a b
theorem on_i_mul (a b : Int) : on_i (a * b) = on_i a * on_i b := Int32.ofInt_mul a b
theorem on_l_add (a b : Int) : on_l (a + b) = on_l a + on_l b := Int64.ofInt_add a b
theorem on_l_sub (a b : Int) : on_l (a - b) = on_l a - on_l b := Int64.ofInt_sub a b
theorem on_l_mul (a b : Int) : on_l (a * b) = on_l a * on_l b := Int64.ofInt_mul a b
theorem on_i_lt {a b : Int} (ha : on_R a) (hb : on_R b) : on_i a < on_i b ↔ a < b := by rw [Int32.lt_iff_toInt_lt, on_it ha, on_it hb]
theorem on_i_le {a b : Int} (ha : on_R a) (hb : on_R b) : on_i a ≤ on_i b ↔ a ≤ b := by rw [Int32.le_iff_toInt_le, on_it ha, on_it hb]
theorem on_i_eq {a b : Int} (ha : on_R a) (hb : on_R b) : on_i a = on_i b ↔ a = b := by rw [← Int32.toInt_inj, on_it ha, on_it hb]
theorem on_l_lt {a b : Int} (ha : on_RL a) (hb : on_RL b) : on_l a < on_l b ↔ a < b := by rw [Int64.lt_iff_toInt_lt, on_lt' ha, on_lt' hb]
theorem on_l_le {a b : Int} (ha : on_RL a) (hb : on_RL b) : on_l a ≤ on_l b ↔ a ≤ b := by rw [Int64.le_iff_toInt_le, on_lt' ha, on_lt' hb]
theorem on_l_eq {a b : Int} (ha : on_RL a) (hb : on_RL b) : on_l a = on_l b ↔ a = b := by rw [← Int64.toInt_inj, on_lt' ha, on_lt' hb]
theorem on_i_in {i : Int} {n : Nat} (h0 : 0 ≤ i) (h1 : i < n) (hn : n < 2147483648) : vp_in (on_i i) n := by
  rw [vp_in_iff, on_it ⟨by omega, by omega⟩]
  exact ⟨h0, h1⟩
theorem on_i_nat {i : Int} (h0 : 0 ≤ i) (hn : i < 2147483648) : (((on_i i).toNatClampNeg : Nat) : Int) = i := by
  have e : (on_i i).toNatClampNeg = i.toNat := by
    rw [← Int32.toNat_toInt, on_it ⟨by omega, hn⟩]
  rw [e]; omega
theorem on_i_div {a b : Int} (ha : on_R a) (hb : on_R b) (h : 0 < b) : on_i a / on_i b = on_i (a.tdiv b) := (Int32.ofInt_tdiv (a := a) (b := b) (show (-2147483648 : Int) ≤ a by omega) (show a ≤ (2147483647 : Int) by omega) (show (-2147483648 : Int) ≤ b by omega) (show b ≤ (2147483647 : Int) by omega)).symm
theorem on_i_ne {b : Int} (hb : on_R b) (h : 0 < b) : ¬ on_i b = 0 := by
  intro e
  have h1 : (on_i b).toInt = b := on_it hb
  rw [e] at h1
  simp at h1
  omega
theorem on_i_rem {a b : Int} (ha : on_R a) (hb : on_R b) (h : 0 < b) : on_i a - on_i a / on_i b * on_i b = on_i (a.tmod b) := by
  rw [on_i_div ha hb h, ← on_i_mul, ← on_i_sub]
  congr 1
  have := Int.tmod_def a b
  rw [this, Int.mul_comm]
theorem on_l_div {a b : Int} (ha : on_RL a) (hb : on_RL b) (h : 0 < b) : on_l a / on_l b = on_l (a.tdiv b) := (Int64.ofInt_tdiv (a := a) (b := b) (show (-9223372036854775808 : Int) ≤ a by omega) (show a ≤ (9223372036854775807 : Int) by omega) (show (-9223372036854775808 : Int) ≤ b by omega) (show b ≤ (9223372036854775807 : Int) by omega)).symm
theorem on_l_ne {b : Int} (hb : on_RL b) (h : 0 < b) : ¬ on_l b = 0 := by
  intro e
  have h1 : (on_l b).toInt = b := on_lt' hb
  rw [e] at h1
  simp at h1
  omega
theorem on_l_rem {a b : Int} (ha : on_RL a) (hb : on_RL b) (h : 0 < b) : on_l a - on_l a / on_l b * on_l b = on_l (a.tmod b) := by
  rw [on_l_div ha hb h, ← on_l_mul, ← on_l_sub]
  congr 1
  have := Int.tmod_def a b
  rw [this, Int.mul_comm]
theorem on_i2l {a : Int} (ha : on_R a) : (on_i a).toInt64 = on_l a := by
  rw [← Int64.toInt_inj, Int32.toInt_toInt64, on_it ha, on_lt' ⟨by omega, by omega⟩]
theorem on_l2i (a : Int) : (on_l a).toInt32 = on_i a := by
  rw [on_i, on_l]
  simp
