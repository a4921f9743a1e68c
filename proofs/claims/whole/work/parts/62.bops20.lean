/-! B: fair -/
def bFac (k : Int) : Int := if k ≤ 1 then 1 else if k = 2 then 2 else if k = 3 then 6 else 24
theorem bFac_c {k : Int} (h : k ≤ 4) : bFac k = 1 ∨ bFac k = 2 ∨ bFac k = 6 ∨ bFac k = 24 := by
  unfold bFac; split
  · exact Or.inl rfl
  · split
    · exact Or.inr (Or.inl rfl)
    · split
      · exact Or.inr (Or.inr (Or.inl rfl))
      · exact Or.inr (Or.inr (Or.inr rfl))
theorem bFac_3 {k : Int} (h : k ≤ 3) : bFac k = 1 ∨ bFac k = 2 ∨ bFac k = 6 := by
  unfold bFac; split
  · exact Or.inl rfl
  · split
    · exact Or.inr (Or.inl rfl)
    · rw [if_pos (by omega)]; exact Or.inr (Or.inr rfl)
/-- Euclid -/
def bG : Nat → Int → Int → Int
  | 0, a, _ => a
  | r + 1, a, b => if b = 0 then a else bG r b (a % b)
theorem bBit_eq : ∀ l : Nat, l < 16 → ∀ q : Nat, q < 4 → ((on_and l (on_shl 1 q) = 0 ∧ ¬ on_and (on_shr l q) 1 = 1) ∨ (¬ on_and l (on_shl 1 q) = 0 ∧ on_and (on_shr l q) 1 = 1)) := by decide +kernel
theorem bBit_or : ∀ l : Nat, l < 16 → ∀ q : Nat, q < 4 → 0 ≤ on_or l (on_shl 1 q) ∧ on_or l (on_shl 1 q) < 16 := by decide +kernel
theorem bBit_mono : ∀ l : Nat, l < 16 → ∀ q : Nat, q < 4 → ∀ a : Nat, a < 4 → (¬ on_and (on_shr l a) 1 = 1 ∨ on_and (on_shr (on_or l (on_shl 1 q)) a) 1 = 1) := by decide +kernel
theorem bBit_cnt : ∀ h : Nat, h < 5 → ∀ l : Nat, (l : Int) < on_shl 1 h → l < 16 := by
  intro h hh l hl
  have : on_shl 1 h ≤ 16 := by
    have e : h = 0 ∨ h = 1 ∨ h = 2 ∨ h = 3 ∨ h = 4 := by omega
    rcases e with e | e | e | e | e <;> subst e <;> decide
  omega
section O62
variable {n : Nat} {σ : on_S} {p q r : Int} {w : bW}
theorem c_factorial {k : Int} (h : k ≤ 4) (h0 : -10 ≤ k) : pf_X11_factorial k σ = some (bFac k, σ) := by
  unfold pf_X11_factorial bFac
  rw [show on_N = 99996 + 1 + 1 + 1 + 1 from rfl, pf_X11_factorial_4]
  by_cases a : k ≤ 1
  · rw [bLeF (by omega) (by omega) (by omega), if_pos a]
  · rw [bLeT (by omega) (by omega) (by omega), if_neg a, pf_X11_factorial_4]
    by_cases b : k = 2
    · rw [bLeF (by omega) (by omega) (by omega), if_pos b]; rfl
    · rw [bLeT (by omega) (by omega) (by omega), if_neg b, pf_X11_factorial_4]
      by_cases c : k = 3
      · rw [bLeF (by omega) (by omega) (by omega), if_pos c]; rfl
      · rw [bLeT (by omega) (by omega) (by omega), if_neg c, pf_X11_factorial_4, bLeF (by omega) (by omega) (by omega)]; rfl
theorem m_ordersOf {k : Int} (h : k ≤ 4) (h0 : -10 ≤ k) : pf_X12_ordersOf k σ = some (bFac k, σ) := by
  unfold pf_X12_ordersOf bFac
  rw [show on_N = 99996 + 1 + 1 + 1 + 1 from rfl, pf_X12_ordersOf_4]
  by_cases a : k ≤ 1
  · rw [bLeF (by omega) (by omega) (by omega), if_pos a]
  · rw [bLeT (by omega) (by omega) (by omega), if_neg a, pf_X12_ordersOf_4]
    by_cases b : k = 2
    · rw [bLeF (by omega) (by omega) (by omega), if_pos b]; rfl
    · rw [bLeT (by omega) (by omega) (by omega), if_neg b, pf_X12_ordersOf_4]
      by_cases c : k = 3
      · rw [bLeF (by omega) (by omega) (by omega), if_pos c]; rfl
      · rw [bLeT (by omega) (by omega) (by omega), if_neg c, pf_X12_ordersOf_4, bLeF (by omega) (by omega) (by omega)]; rfl
theorem c_greatestCommon : ∀ (r nf : Nat) (a b k : Int), 0 ≤ a → a < 1000000 → 0 ≤ b → b < (r : Int) → (r : Int) ≤ 30 → 0 ≤ k → k + (r : Int) < 60 → r < nf → pf_X11_greatestCommon_7 nf a b k σ = some (bG r a b, σ) := by
  intro r
  induction r with
  | zero => intro nf a b k _ _ b0 b1; omega
  | succ r ih =>
    intro nf a b k a0 a1 b0 b1 r30 k0 k1 hnf
    cases nf with
    | zero => omega
    | succ nf =>
      rw [pf_X11_greatestCommon_7, bLtT (by omega) (by omega) (by omega), bG]
      by_cases z : b = 0
      · rw [bLeT (by omega) (by omega) (by omega), if_pos z]
      · have m0 := Int.emod_nonneg a z
        have m1 := Int.emod_lt_of_pos a (show 0 < b by omega)
        rw [bLeF (by omega) (by omega) (by omega), if_neg z, bRm a0 (by omega) (by omega) (by omega)]
        exact ih nf b (a % b) (k + 1) (by omega) (by omega) m0 (by omega) (by omega) (by omega) (by omega) (by omega)
theorem m_divisor : ∀ (r nf : Nat) (a b : Int), 0 ≤ a → a < 1000000 → 0 ≤ b → b < (r : Int) → (r : Int) ≤ 30 → r < nf → pf_X12_divisor_4 nf a b σ = some (bG r a b, σ) := by
  intro r
  induction r with
  | zero => intro nf a b _ _ b0 b1; omega
  | succ r ih =>
    intro nf a b a0 a1 b0 b1 r30 hnf
    cases nf with
    | zero => omega
    | succ nf =>
      rw [pf_X12_divisor_4, bG]
      by_cases z : b = 0
      · rw [bEqT (by omega) z, if_pos z]
      · have m0 := Int.emod_nonneg a z
        have m1 := Int.emod_lt_of_pos a (show 0 < b by omega)
        rw [bEqF (by omega) (by omega) z, if_neg z, bRm a0 (by omega) (by omega) (by omega)]
        exact ih nf b (a % b) (by omega) (by omega) m0 (by omega) (by omega) (by omega)
theorem bG_pos : ∀ (r : Nat) (a b : Int), 0 ≤ a → 0 ≤ b → b < (r : Int) → 0 < a + b → 0 < bG r a b ∧ bG r a b ≤ max a b := by
  intro r
  induction r with
  | zero => intro a b _ b0 b1; omega
  | succ r ih =>
    intro a b a0 b0 b1 h
    rw [bG]
    by_cases z : b = 0
    · rw [if_pos z]; omega
    · have m0 := Int.emod_nonneg a z
      have m1 := Int.emod_lt_of_pos a (show 0 < b by omega)
      rw [if_neg z]
      have := ih b (a % b) (by omega) m0 (by omega) (by omega)
      omega
/-- what a house adds, in all orders -/
def bAdd (w : bW) (n x q : Int) : Nat → Int → Int → Int
  | 0, _, a => a
  | r + 1, k, a => bAdd w n x q r (k + 1) (if on_and k (on_shl 1 q) = 0 then a + (bFac (bBc k) * bFac ((w 0 - 1) - bBc k)) * (bWor w n x (on_or k (on_shl 1 q)) - bWor w n x k) else a)
theorem bWor_b (hk : bOk w) {n x S : Int} (n0 : 0 ≤ n) (n1 : n < w 4) : 0 ≤ bWor w n x S ∧ bWor w n x S ≤ 396 := by
  have := bBest_le (f := bVal w n x (bNet w n 2)) (B := 396) (bL0 (bOkS w S) (w 3) 0) (-1) (by omega) fun r _ => (bVal_b hk n0 n1 r).2
  unfold bWor; omega
theorem bWor_mono (hk : bOk w) {n x k q : Int} (n0 : 0 ≤ n) (n1 : n < w 4) (k0 : 0 ≤ k) (k1 : k < 16) (q0 : 0 ≤ q) (q1 : q < 4) : bWor w n x k ≤ bWor w n x (on_or k (on_shl 1 q)) := by
  have h0 := hk.c.1
  have ge := bBest_ge (f := bVal w n x (bNet w n 2)) (bL0 (bOkS w (on_or k (on_shl 1 q))) (w 3) 0) (-1)
  have := bBest_le (f := bVal w n x (bNet w n 2)) (B := bBest (bVal w n x (bNet w n 2)) (bL0 (bOkS w (on_or k (on_shl 1 q))) (w 3) 0) (-1)) (bL0 (bOkS w k) (w 3) 0) (-1) ge.1 fun r hr => by
    refine ge.2 r (bL0_mem.mpr ?_)
    have up : ∀ d : Int, 0 ≤ d → d < w 3 → bOkS w k d = true → bOkS w (on_or k (on_shl 1 q)) d = true := by
      intro d d0 d1 h
      have hm := (hk.m d d0 d1).1
      have := bBit_mono k.toNat (by omega) q.toNat (by omega) (bMan w d 0).toNat (by omega)
      rw [show (k.toNat : Int) = k by omega, show (q.toNat : Int) = q by omega, show ((bMan w d 0).toNat : Int) = bMan w d 0 by omega] at this
      unfold bOkS at *
      have t := of_decide_eq_true h
      rcases this with u | u
      · exact absurd t u
      · exact decide_eq_true u
    obtain ⟨⟨h1, k1⟩, ⟨h2, k2⟩, ⟨h3, k3⟩, ⟨h4, k4⟩, nn⟩ := bL0_mem.mp hr
    exact ⟨⟨h1, up _ h1.1 h1.2 k1⟩, ⟨h2, up _ h2.1 h2.2 k2⟩, ⟨h3, up _ h3.1 h3.2 k3⟩, ⟨h4, up _ h4.1 h4.2 k4⟩, nn⟩
  unfold bWor; omega
theorem bMul_b {u v z : Int} (hu : u = 1 ∨ u = 2 ∨ u = 6) (hv : v = 1 ∨ v = 2 ∨ v = 6) (hz : 0 ≤ z ∧ z ≤ 396) : 0 ≤ (u * v) * z ∧ (u * v) * z ≤ 14256 := by
  rcases hu with e | e | e <;> rcases hv with f | f | f <;> subst e <;> subst f <;> omega
theorem bBc_3 {h l q : Int} (hh : 0 ≤ h ∧ h ≤ 4) (l0 : 0 ≤ l) (l1 : l < 16) (q0 : 0 ≤ q) (q1 : q < 4) (z : on_and l (on_shl 1 q) = 0) : 0 ≤ bBc l ∧ bBc l ≤ 3 := by
  have key : ∀ l : Nat, l < 16 → ∀ q : Nat, q < 4 → (¬ on_and l (on_shl 1 q) = 0 ∨ (0 ≤ bBc l ∧ bBc l ≤ 3)) := by decide +kernel
  have := key l.toNat (by omega) q.toNat (by omega)
  rw [show (l.toNat : Int) = l by omega, show (q.toNat : Int) = q by omega] at this
  rcases this with t | t
  · exact absurd z t
  · exact t
theorem bAdd_b (hk : bOk w) {n x q : Int} (n0 : 0 ≤ n) (n1 : n < w 4) (q0 : 0 ≤ q) (q1 : q < w 0) : ∀ (r : Nat) (k a : Int), 0 ≤ k → k + (r : Int) ≤ 16 → 0 ≤ a → 0 ≤ bAdd w n x q r k a ∧ bAdd w n x q r k a ≤ a + 14256 * (r : Int) := by
  have h0 := hk.c.1
  intro r
  induction r with
  | zero => intro k a _ _ a0; rw [bAdd]; omega
  | succ r ih =>
    intro k a k0 k1 a0
    rw [bAdd]
    by_cases z : on_and k (on_shl 1 q) = 0
    · have bc := bBc_3 h0 k0 (by omega) q0 (by omega) z
      have mo := bWor_mono hk (x := x) n0 n1 k0 (by omega) q0 (by omega)
      have b1 := bWor_b hk (x := x) (S := k) n0 n1
      have b2 := bWor_b hk (x := x) (S := on_or k (on_shl 1 q)) n0 n1
      have mb := bMul_b (bFac_3 (k := bBc k) (by omega)) (bFac_3 (k := w 0 - 1 - bBc k) (by omega)) (z := bWor w n x (on_or k (on_shl 1 q)) - bWor w n x k) (by omega)
      rw [if_pos z]
      have := ih (k + 1) (a + (bFac (bBc k) * bFac ((w 0 - 1) - bBc k)) * (bWor w n x (on_or k (on_shl 1 q)) - bWor w n x k)) (by omega) (by omega) (by omega)
      omega
    · rw [if_neg z]
      have := ih (k + 1) a (by omega) (by omega) a0
      omega
theorem bShl1 {h : Int} (h0 : 0 ≤ h) (h4 : h ≤ 4) : 1 ≤ on_shl 1 h ∧ on_shl 1 h ≤ 16 := by
  have e : h = 0 ∨ h = 1 ∨ h = 2 ∨ h = 3 ∨ h = 4 := by omega
  rcases e with e | e | e | e | e <;> subst e <;> decide
theorem c_addedInAllOrders (hk : bOk w) (hR : bRp 2 w σ) {n x q : Int} (n0 : 0 ≤ n) (n1 : n < w 4) (hX : bSum w n x σ) (q0 : 0 ≤ q) (q1 : q < w 0) : pf_X7_addedInAllOrders q σ = some (bAdd w n x q (on_shl 1 (w 0)).toNat 0 0, σ) := by
  have h0 := hk.c.1
  have e0 : σ 2 0 = w 0 := hR.c.1
  have hM := bShl1 h0.1 h0.2
  generalize hMe : on_shl 1 (w 0) = M at hM
  have L : ∀ (r nf : Nat) (k a : Int), 0 ≤ k → k + (r : Int) = M → r < nf → pf_X7_addedInAllOrders_9 nf (on_shl 1 q) a k σ = some (bAdd w n x q r k a, σ) := by
    intro r
    induction r with
    | zero =>
      intro nf k a k0 hk' hnf
      cases nf with
      | zero => omega
      | succ nf => rw [pf_X7_addedInAllOrders_9, bGt, e0, hMe, bLtF (by omega) (by omega) (by omega)]; rfl
    | succ r ih =>
      intro nf k a k0 hk' hnf
      cases nf with
      | zero => omega
      | succ nf =>
        have hR' := on_and_R k (on_shl 1 q)
        rw [pf_X7_addedInAllOrders_9, bGt, e0, hMe, bLtT (by omega) (by omega) (by omega), bAdd]
        by_cases z : on_and k (on_shl 1 q) = 0
        · have bc := bBc_3 h0 k0 (by omega) q0 (by omega) z
          have ob := bBit_or k.toNat (by omega) q.toNat (by omega)
          rw [show (k.toNat : Int) = k by omega, show (q.toNat : Int) = q by omega] at ob
          rw [bEqT hR' z, if_pos z, bCl (c_bitCount k0 (by omega)), bCl (c_factorial (by omega) (by omega)), bGt, e0, bCl (c_factorial (by omega) (by omega)), bCl (c_worthOf hk n0 n1 hX ob.1 ob.2).1, bCl (c_worthOf hk n0 n1 hX k0 (by omega)).1]
          exact ih nf (k + 1) _ (by omega) (by omega) (by omega)
        · rw [bEqF hR' (by omega) z, if_neg z]
          exact ih nf (k + 1) a (by omega) (by omega) (by omega)
  unfold pf_X7_addedInAllOrders
  exact L M.toNat on_N 0 0 (by omega) (by omega) (by unfold on_N; omega)
theorem m_most95 (hk : bOk w) (hw : σ 78 = w) {n x S v : Int} (n0 : 0 ≤ n) (n1 : n < w 4) (x0 : 0 ≤ x) (x1 : x < w 2) {σ' : on_S} (h : pf_X12_mostBy n x S σ = some (v, σ')) : σ' 95 = σ 95 := by
  obtain ⟨v1, σ1, r1, r2, r3⟩ := m_firstRow (σ := on_st σ 77 18 S) (w := w) (S := S) hk (by rw [bst_nc (by omega)]; exact hw) bst_eq
  have ll := bLen_L0 (bOkS w S) (m := w 3) hk.c.2.2.2.1.2
  obtain ⟨σ2, s1, s2, s3⟩ := m_mostLoop hk n0 n1 x0 x1 _ on_N (-1) v1 σ1 r3 (by unfold on_N; omega) (by omega)
  unfold pf_X12_mostBy at h
  rw [bPt, bCl r1, s1] at h
  injection h with h
  injection h with h1 h2
  rw [← h2, s2 95 (by omega) (by omega), r2 95 (by omega), bst_nc (by omega)]
theorem m_addsInAll (hk : bOk w) (hw : σ 78 = w) {n q : Int} (n0 : 0 ≤ n) (n1 : n < w 4) (q0 : 0 ≤ q) (q1 : q < w 0) : ∃ σ' : on_S, pf_X12_addsInAll n q σ = some (bAdd w n (bNet w n 0) q (on_shl 1 (w 0)).toNat 0 0, σ') ∧ bS σ σ' := by
  have h0 := hk.c.1
  have q4 := hk.c.2.2.2.2.1
  have hM := bShl1 h0.1 h0.2
  generalize hMe : on_shl 1 (w 0) = M at hM
  have L2 : ∀ (σ' : on_S), σ' 78 = w → (∀ S : Int, 0 ≤ S → S < M → σ' 95 S = bWor w n (bNet w n 0) S) → ∀ (r nf : Nat) (k a : Int), 0 ≤ k → k + (r : Int) = M → r < nf → pf_X12_addsInAll_56 nf q (M - 1) a k σ' = some (bAdd w n (bNet w n 0) q r k a, σ') := by
    intro σ' hw' hS r
    induction r with
    | zero =>
      intro nf k a k0 hk' hnf
      cases nf with
      | zero => omega
      | succ nf => rw [pf_X12_addsInAll_56, bLeF (by omega) (by omega) (by omega)]; rfl
    | succ r ih =>
      intro nf k a k0 hk' hnf
      cases nf with
      | zero => omega
      | succ nf =>
        have hR' := on_and_R (on_shr k q) 1
        have be := bBit_eq k.toNat (by omega) q.toNat (by omega)
        rw [show (k.toNat : Int) = k by omega, show (q.toNat : Int) = q by omega] at be
        rw [pf_X12_addsInAll_56, bLeT (by omega) (by omega) (by omega), bAdd]
        rcases be with ⟨z, z'⟩ | ⟨z, z'⟩
        · have bc := bBc_3 h0 k0 (by omega) q0 (by omega) z
          have ob : 0 ≤ on_or k (on_shl 1 q) ∧ on_or k (on_shl 1 q) < M := by
            have key : ∀ h : Nat, h < 5 → ∀ l : Nat, l < 16 → ∀ q : Nat, q < h → (¬ (l : Int) < on_shl 1 h ∨ (0 ≤ on_or l (on_shl 1 q) ∧ on_or l (on_shl 1 q) < on_shl 1 h)) := by decide +kernel
            have := key (w 0).toNat (by omega) k.toNat (by omega) q.toNat (by omega)
            rw [show (k.toNat : Int) = k by omega, show (q.toNat : Int) = q by omega, show ((w 0).toNat : Int) = w 0 by omega, hMe] at this
            rcases this with t | t
            · omega
            · exact t
          rw [bEqF hR' (by omega) z', if_pos z, bRd ob.1 (by omega), hS _ ob.1 ob.2, bRd k0 (by omega), hS k k0 (by omega), bCl (m_bits k0 (by omega)), bCl (m_ordersOf (by omega) (by omega)), bRd (by omega) (by omega), hw', bCl (m_bits k0 (by omega)), bCl (m_ordersOf (by omega) (by omega)), ih nf (k + 1) _ (by omega) (by omega) (by omega)]
          congr 3
          have f1 := bFac_3 (k := bBc k) (by omega)
          have f2 := bFac_3 (k := w 0 - 1 - bBc k) (by omega)
          rcases f1 with e | e | e <;> rcases f2 with f | f | f <;> rw [e, f] <;> omega
        · rw [bEqT hR' z', if_neg z]
          exact ih nf (k + 1) a (by omega) (by omega) (by omega)
  have L1 : ∀ (r nf : Nat) (k : Int) (σ' : on_S), 0 ≤ k → k + (r : Int) = M → r < nf → bS σ σ' → (∀ S : Int, 0 ≤ S → S < k → σ' 95 S = bWor w n (bNet w n 0) S) → ∃ σ'' : on_S, pf_X12_addsInAll_14 nf n q (M - 1) k σ' = some (bAdd w n (bNet w n 0) q M.toNat 0 0, σ'') ∧ bS σ σ'' := by
    intro r
    induction r with
    | zero =>
      intro nf k σ' k0 hk' hnf h1 h2
      have w1 : σ' 78 = w := by rw [h1.w, hw]
      cases nf with
      | zero => omega
      | succ nf =>
        refine ⟨σ', ?_, h1⟩
        rw [pf_X12_addsInAll_14, bLeF (by omega) (by omega) (by omega)]
        exact L2 σ' w1 (fun S s0 s1 => h2 S s0 (by omega)) M.toNat on_N 0 0 (by omega) (by omega) (by unfold on_N; omega)
    | succ r ih =>
      intro nf k σ' k0 hk' hnf h1 h2
      have w1 : σ' 78 = w := by rw [h1.w, hw]
      cases nf with
      | zero => omega
      | succ nf =>
        obtain ⟨v, σ2, d1, d2, d3, d4⟩ := m_worth (σ := σ') hk w1 n0 n1 k
        have hx := (hk.n n n0 n1).1
        have s95 : σ2 95 = σ' 95 := m_most95 hk w1 n0 n1 hx.1 hx.2 d1
        rw [pf_X12_addsInAll_14, bLeT (by omega) (by omega) (by omega), bCl (m_ofNet n0 (by omega) (by omega) (by omega)), w1, bCl d1, bMx (by omega) (by omega), bWr k0 (by omega), d3]
        refine ih nf (k + 1) _ (by omega) (by omega) (by omega) (h1.tr (d2.tr (bS.st (by decide) (by decide)))) (fun S s0 s1 => ?_)
        rw [bst_if]
        by_cases e : S = k
        · rw [if_pos e, e]
        · rw [if_neg e, s95]; exact h2 S s0 (by omega)
  obtain ⟨σ', a1, a2⟩ := L1 M.toNat on_N 0 σ (by omega) (by omega) (by unfold on_N; omega) (bS.rf σ) (fun S s0 s1 => by omega)
  refine ⟨σ', ?_, a2⟩
  unfold pf_X12_addsInAll
  rw [bRd (by omega) (by omega), hw, hMe]
  exact a1
theorem o_fair (hI : bI n σ) (hp : on_R p) (hq : on_R q) (hr : on_R r) : bOp n σ (pf_X11_fair p q r) (pf_X12_fair p q r) := by
  obtain ⟨q0, q1, q2, q3, q4, q5, q6, q7⟩ := hI.k.c
  by_cases h : 0 ≤ p ∧ p < σ 78 4
  · by_cases g : 0 ≤ q ∧ q < σ 78 0
    · by_cases hb : r = 0 ∨ r = 1
      · have hx := (hI.k.n p h.1 h.2).1
        obtain ⟨σ1, σ2, a1, a2, a3, a4⟩ := c_summed hI.k hI.r hI.o h.1 h.2 hx.1 hx.2
        have i2 : bI n σ2 := hI.idle fun c hc => a4 c (by omega) (by omega) (by omega)
        have w2 : σ2 78 = σ 78 := a4 78 (by omega) (by omega) (by omega)
        have R2 : bRp 2 (σ 78) σ2 := by rw [← w2]; exact i2.r
        have e0 : σ2 2 0 = σ 78 0 := R2.c.1
        have ca := c_addedInAllOrders hI.k R2 h.1 h.2 a3 g.1 g.2
        obtain ⟨σ3, b1, b2⟩ := m_addsInAll (σ := σ2) hI.k w2 h.1 h.2 g.1 g.2
        have w3 : σ3 78 = σ 78 := by rw [b2.w, w2]
        have sh := bShl1 q0.1 q0.2
        have ab := bAdd_b hI.k (x := bNet (σ 78) p 0) h.1 h.2 g.1 g.2 (on_shl 1 (σ 78 0)).toNat 0 0 (by omega) (by omega) (by omega)
        generalize bAdd (σ 78) p (bNet (σ 78) p 0) q (on_shl 1 (σ 78 0)).toNat 0 0 = V at ca b1 ab
        have fc := bFac_c (k := σ 78 0) q0.2
        generalize hF : bFac (σ 78 0) = F at fc
        have gp := bG_pos 25 V F (by omega) (by omega) (by omega) (by omega)
        have gc := c_greatestCommon (σ := σ2) 25 on_N V F 0 (by omega) (by omega) (by omega) (by omega) (by omega) (by omega) (by omega) (by unfold on_N; omega)
        have gm := m_divisor (σ := σ3) 25 on_N V F (by omega) (by omega) (by omega) (by omega) (by omega) (by unfold on_N; omega)
        generalize bG 25 V F = G at gp gc gm
        have vg : 0 ≤ V / G ∧ V / G ≤ V := ⟨Int.ediv_nonneg (by omega) (by omega), Int.ediv_le_self _ (by omega)⟩
        have fg : 0 ≤ F / G ∧ F / G ≤ F := ⟨Int.ediv_nonneg (by omega) (by omega), Int.ediv_le_self _ (by omega)⟩
        have cA : pf_X11_fair p q r σ = on_Eq r 0 (some (V / G, σ2)) (some (F / G, σ2)) := by
          unfold pf_X11_fair
          rw [bCl (c_hasNet hI.k hI.r hp), bE01, if_pos h, bCl (c_hasHouse hI.k hI.r hq), bE01, if_pos g, bCl (c_isBit hr), if_pos hb, bEqF (by omega) (by omega) (by omega), bRd h.1 (by omega), (hI.r.n p h.1 h.2).1, bCl a1, bCl a2, bCl ca, bGt, e0, bCl (c_factorial (by omega) (by omega)), hF, bCl (show pf_X11_greatestCommon V F σ2 = some (G, σ2) from gc), bMx (by omega) (by omega), show max 1 G = G by omega, bDv (by omega) (by omega) (by omega) (by omega), bDv (by omega) (by omega) (by omega) (by omega)]
        have mA : pf_X12_fair p q r σ2 = on_Eq r 0 (some (V / G, σ3)) (some (F / G, σ3)) := by
          unfold pf_X12_fair pf_X12_fair_60
          rw [bCk hp, bCl (m_isNet i2.k (by omega)), bE01, w2, if_pos h, bCl (m_isHouse i2.k hq), bE01, w2, if_pos g, bCk hr, bCl (m_in' hr (by omega) (by omega)), bE01, if_pos (by omega), bCl b1, bRd (by omega) (by omega), w3, bCl (m_ordersOf (by omega) (by omega)), hF, bAb (by omega) (by omega), bCl (show pf_X12_divisor V F σ3 = some (G, σ3) from gm), bDv (by omega) (by omega) (by omega) (by omega), bAb (by omega) (by omega), bCl (show pf_X12_divisor V F σ3 = some (G, σ3) from gm), bDv (by omega) (by omega) (by omega) (by omega)]
        rcases hb with e | e
        · exact ⟨V / G, σ2, σ3, by rw [cA, bEqT (by omega) e], by rw [mA, bEqT (by omega) e], by omega, b2.inv i2⟩
        · exact ⟨F / G, σ2, σ3, by rw [cA, bEqF (by omega) (by omega) (by omega)], by rw [mA, bEqF (by omega) (by omega) (by omega)], by omega, b2.inv i2⟩
      · refine bOp.no (r := -2) hI (by omega) ?_ ?_
        · unfold pf_X11_fair
          rw [bCl (c_hasNet hI.k hI.r hp), bE01, if_pos h, bCl (c_hasHouse hI.k hI.r hq), bE01, if_pos g, bCl (c_isBit hr), if_neg hb, bEqT (by omega) rfl]
        · unfold pf_X12_fair
          rw [bCk hp, bCl (m_isNet hI.k (by omega)), bE01, if_pos h, bCl (m_isHouse hI.k hq), bE01, if_pos g, bCk hr, bCl (m_in' hr (by omega) (by omega)), bE01, if_neg (by omega)]
    · refine bOp.no (r := -2) hI (by omega) ?_ ?_
      · unfold pf_X11_fair
        rw [bCl (c_hasNet hI.k hI.r hp), bE01, if_pos h, bCl (c_hasHouse hI.k hI.r hq), bE01, if_neg g]
      · unfold pf_X12_fair
        rw [bCk hp, bCl (m_isNet hI.k (by omega)), bE01, if_pos h, bCl (m_isHouse hI.k hq), bE01, if_neg g]
  · refine bOp.no (r := -2) hI (by omega) ?_ ?_
    · unfold pf_X11_fair
      rw [bCl (c_hasNet hI.k hI.r hp), bE01, if_neg h]
    · unfold pf_X12_fair
      rw [bCk hp, bCl (m_isNet hI.k (by omega)), bE01, if_neg h]
end O62
