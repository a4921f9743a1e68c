/-! B: fair -/
def bFac (k : Int) : Int := if k ≤ 1 then 1 else if k = 2 then 2 else if k = 3 then 6 else 24
theorem bFac_c {k : Int} (h : k ≤ 4) : bFac k = 1 ∨ bFac k = 2 ∨ bFac k = 6 ∨ bFac k = 24 := by
  unfold bFac; split
  · exact Or.inl rfl
  · split
    · exact Or.inr (Or.inl rfl)
    · split
      · exact Or.inr (Or.inr (Or.inl rfl))
      · exact Or.inr (Or.inr (Or.inr rfl))
theorem bFac_3 {k : Int} (h : k ≤ 3) : bFac k = 1 ∨ bFac k = 2 ∨ bFac k = 6 := by
  unfold bFac; split
  · exact Or.inl rfl
  · split
    · exact Or.inr (Or.inl rfl)
    · rw [if_pos (by omega)]; exact Or.inr (Or.inr rfl)
/-- Euclid -/
def bG : Nat → Int → Int → Int
  | 0, a, _ => a
  | r + 1, a, b => if b = 0 then a else bG r b (a % b)
theorem bBit_eq : ∀ l : Nat, l < 16 → ∀ q : Nat, q < 4 → ((on_and l (on_shl 1 q) = 0 ∧ ¬ on_and (on_shr l q) 1 = 1) ∨ (¬ on_and l (on_shl 1 q) = 0 ∧ on_and (on_shr l q) 1 = 1)) := by decide +kernel
theorem bBit_or : ∀ l : Nat, l < 16 → ∀ q : Nat, q < 4 → 0 ≤ on_or l (on_shl 1 q) ∧ on_or l (on_shl 1 q) < 16 := by decide +kernel
theorem bBit_mono : ∀ l : Nat, l < 16 → ∀ q : Nat, q < 4 → ∀ a : Nat, a < 4 → (¬ on_and (on_shr l a) 1 = 1 ∨ on_and (on_shr (on_or l (on_shl 1 q)) a) 1 = 1) := by decide +kernel
theorem bBit_cnt : ∀ h : Nat, h < 5 → ∀ l : Nat, (l : Int) < on_shl 1 h → l < 16 := by
  intro h hh l hl
  have : on_shl 1 h ≤ 16 := by
    have e : h = 0 ∨ h = 1 ∨ h = 2 ∨ h = 3 ∨ h = 4 := by omega
    rcases e with e | e | e | e | e <;> subst e <;> decide
  omega
section O62
variable {n : Nat} {σ : on_S} {p q r : Int} {w : bW}
theorem c_factorial {k : Int} (h : k ≤ 4) (h0 : -10 ≤ k) : pf_X11_factorial k σ = some (bFac k, σ) := by
  unfold pf_X11_factorial bFac
  rw [show on_N = 99996 + 1 + 1 + 1 + 1 from rfl, pf_X11_factorial_4]
  by_cases a : k ≤ 1
  · rw [bLeF (by omega) (by omega) (by omega), if_pos a]
  · rw [bLeT (by omega) (by omega) (by omega), if_neg a, pf_X11_factorial_4]
    by_cases b : k = 2
    · rw [bLeF (by omega) (by omega) (by omega), if_pos b]; rfl
    · rw [bLeT (by omega) (by omega) (by omega), if_neg b, pf_X11_factorial_4]
      by_cases c : k = 3
      · rw [bLeF (by omega) (by omega) (by omega), if_pos c]; rfl
      · rw [bLeT (by omega) (by omega) (by omega), if_neg c, pf_X11_factorial_4, bLeF (by omega) (by omega) (by omega)]; rfl
theorem m_ordersOf {k : Int} (h : k ≤ 4) (h0 : -10 ≤ k) : pf_X12_ordersOf k σ = some (bFac k, σ) := by
  unfold pf_X12_ordersOf bFac
  rw [show on_N = 99996 + 1 + 1 + 1 + 1 from rfl, pf_X12_ordersOf_4]
  by_cases a : k ≤ 1
  · rw [bLeF (by omega) (by omega) (by omega), if_pos a]
  · rw [bLeT (by omega) (by omega) (by omega), if_neg a, pf_X12_ordersOf_4]
    by_cases b : k = 2
    · rw [bLeF (by omega) (by omega) (by omega), if_pos b]; rfl
    · rw [bLeT (by omega) (by omega) (by omega), if_neg b, pf_X12_ordersOf_4]
      by_cases c : k = 3
      · rw [bLeF (by omega) (by omega) (by omega), if_pos c]; rfl
      · rw [bLeT (by omega) (by omega) (by omega), if_neg c, pf_X12_ordersOf_4, bLeF (by omega) (by omega) (by omega)]; rfl
theorem c_greatestCommon : ∀ (r nf : Nat) (a b k : Int), 0 ≤ a → a < 1000000 → 0 ≤ b → b < (r : Int) → (r : Int) ≤ 30 → 0 ≤ k → k + (r : Int) < 60 → r < nf → pf_X11_greatestCommon_7 nf a b k σ = some (bG r a b, σ) := by
  intro r
  induction r with
  | zero => intro nf a b k _ _ b0 b1; omega
  | succ r ih =>
    intro nf a b k a0 a1 b0 b1 r30 k0 k1 hnf
    cases nf with
    | zero => omega
    | succ nf =>
      rw [pf_X11_greatestCommon_7, bLtT (by omega) (by omega) (by omega), bG]
      by_cases z : b = 0
      · rw [bLeT (by omega) (by omega) (by omega), if_pos z]
      · have m0 := Int.emod_nonneg a z
        have m1 := Int.emod_lt_of_pos a (show 0 < b by omega)
        rw [bLeF (by omega) (by omega) (by omega), if_neg z, bRm a0 (by omega) (by omega) (by omega)]
        exact ih nf b (a % b) (k + 1) (by omega) (by omega) m0 (by omega) (by omega) (by omega) (by omega) (by omega)
theorem m_divisor : ∀ (r nf : Nat) (a b : Int), 0 ≤ a → a < 1000000 → 0 ≤ b → b < (r : Int) → (r : Int) ≤ 30 → r < nf → pf_X12_divisor_4 nf a b σ = some (bG r a b, σ) := by
  intro r
  induction r with
  | zero => intro nf a b _ _ b0 b1; omega
  | succ r ih =>
    intro nf a b a0 a1 b0 b1 r30 hnf
    cases nf with
    | zero => omega
    | succ nf =>
      rw [pf_X12_divisor_4, bG]
      by_cases z : b = 0
      · rw [bEqT (by omega) z, if_pos z]
      · have m0 := Int.emod_nonneg a z
        have m1 := Int.emod_lt_of_pos a (show 0 < b by omega)
        rw [bEqF (by omega) (by omega) z, if_neg z, bRm a0 (by omega) (by omega) (by omega)]
        exact ih nf b (a % b) (by omega) (by omega) m0 (by omega) (by omega) (by omega)
theorem bG_pos : ∀ (r : Nat) (a b : Int), 0 ≤ a → 0 ≤ b → b < (r : Int) → 0 < a + b → 0 < bG r a b ∧ bG r a b ≤ max a b := by
  intro r
  induction r with
  | zero => intro a b _ b0 b1; omega
  | succ r ih =>
    intro a b a0 b0 b1 h
    rw [bG]
    by_cases z : b = 0
    · rw [if_pos z]; omega
    · have m0 := Int.emod_nonneg a z
      have m1 := Int.emod_lt_of_pos a (show 0 < b by omega)
      rw [if_neg z]
      have := ih b (a % b) (by omega) m0 (by omega) (by omega)
      omega
/-- what a house adds, in all orders -/
def bAdd (w : bW) (n x q : Int) : Nat → Int → Int → Int
  | 0, _, a => a
  | r + 1, k, a => bAdd w n x q r (k + 1) (if on_and k (on_shl 1 q) = 0 then a + (bFac (bBc k) * bFac ((w 0 - 1) - bBc k)) * (bWor w n x (on_or k (on_shl 1 q)) - bWor w n x k) else a)
end O62
