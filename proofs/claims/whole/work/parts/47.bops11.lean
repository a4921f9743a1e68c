/-! B: what is seen -/
/-- a way of the wetness, as the bit of a net -/
def bWy (q n : Int) : Int := on_and (on_shr q n) 1
theorem bWy_b {q n : Int} (q0 : 0 ≤ q ∧ q ≤ 3) (n0 : 0 ≤ n ∧ n ≤ 1) : bWy q n = 0 ∨ bWy q n = 1 := by
  have a : q = 0 ∨ q = 1 ∨ q = 2 ∨ q = 3 := by omega
  have b : n = 0 ∨ n = 1 := by omega
  rcases a with a | a | a | a <;> rcases b with b | b <;> subst a <;> subst b <;> decide
/-- what is seen is understood -/
def bUnR (w : bW) (N : Int) (A : Int → Int) : Nat → Int → Int
  | 0, _ => 1
  | r + 1, k => if k < N then (if 0 ≤ A k ∧ A k < w 4 then (if 0 ≤ A (k + 1) then (if 0 ≤ A (k + 2) ∧ A (k + 2) ≤ 1 then bUnR w N A r (k + 3) else 0) else 0) else 0) else 1
theorem bUnR_b (w : bW) (N : Int) (A : Int → Int) : ∀ (r : Nat) (k : Int), bUnR w N A r k = 0 ∨ bUnR w N A r k = 1 := by
  intro r
  induction r with
  | zero => intro k; exact Or.inr rfl
  | succ r ih =>
    intro k
    rw [bUnR]
    split
    · split
      · split
        · split
          · exact ih _
          · exact Or.inl rfl
        · exact Or.inl rfl
      · exact Or.inl rfl
    · exact Or.inr rfl
theorem bUnR_of {w : bW} {N : Int} {A : Int → Int} : ∀ (r : Nat) (k : Int), bUnR w N A r k = 1 → N ≤ k + 3 * (r : Int) → ∀ j : Int, 0 ≤ j → k + 3 * j < N → (0 ≤ A (k + 3 * j) ∧ A (k + 3 * j) < w 4) ∧ 0 ≤ A (k + 3 * j + 1) ∧ (0 ≤ A (k + 3 * j + 2) ∧ A (k + 3 * j + 2) ≤ 1) := by
  intro r
  induction r with
  | zero => intro k _ h j j0 h'; omega
  | succ r ih =>
    intro k h hN j j0 hj
    rw [bUnR, if_pos (by omega)] at h
    by_cases a : 0 ≤ A k ∧ A k < w 4
    · rw [if_pos a] at h
      by_cases b : 0 ≤ A (k + 1)
      · rw [if_pos b] at h
        by_cases c : 0 ≤ A (k + 2) ∧ A (k + 2) ≤ 1
        · rw [if_pos c] at h
          by_cases e : j = 0
          · subst e; rw [show k + 3 * 0 = k by omega]; exact ⟨a, b, c⟩
          · have := ih (k + 3) h (by omega) (j - 1) (by omega) (by omega)
            rw [show k + 3 + 3 * (j - 1) = k + 3 * j by omega] at this
            exact this
        · rw [if_neg c] at h; omega
      · rw [if_neg b] at h; omega
    · rw [if_neg a] at h; omega
/-- the first that is unlike the way -/
def bUlR (w : bW) (N : Int) (A : Int → Int) (q : Int) : Nat → Int → Int
  | 0, _ => -1
  | r + 1, k => if 3 * k < N then (if (A (3 * k + 1) ≤ bCar w (A (3 * k)) (bWy q (A (3 * k)))) = (A (3 * k + 2) = 1) then bUlR w N A q r (k + 1) else k) else -1
theorem bUlR_b (w : bW) (N : Int) (A : Int → Int) (q : Int) : ∀ (r : Nat) (k : Int), 0 ≤ k → (-1 ≤ bUlR w N A q r k ∧ bUlR w N A q r k ≤ k + (r : Int)) := by
  intro r
  induction r with
  | zero => intro k k0; rw [bUlR]; omega
  | succ r ih =>
    intro k k0
    rw [bUlR]
    split
    · split
      · have := ih (k + 1) (by omega); omega
      · omega
    · omega
abbrev bUn (w : bW) (N : Int) (A : Int → Int) : Int := bUnR w N A 21 0
abbrev bUl (w : bW) (N : Int) (A : Int → Int) (q : Int) : Int := bUlR w N A q 21 0
/-- how many ways, and what stays in all of them -/
def bCnt (f : Int → Int) : Nat → Int → Int → Int
  | 0, _, a => a
  | r + 1, q, a => bCnt f r (q + 1) (if f q = -1 then a + 1 else a)
def bAnd (f g : Int → Int) : Nat → Int → Int → Int
  | 0, _, a => a
  | r + 1, q, a => bAnd f g r (q + 1) (if f q = -1 then on_and a (g q) else a)
theorem bCnt_b (f : Int → Int) : ∀ (r : Nat) (q a : Int), a ≤ bCnt f r q a ∧ bCnt f r q a ≤ a + (r : Int) := by
  intro r
  induction r with
  | zero => intro q a; rw [bCnt]; omega
  | succ r ih =>
    intro q a
    rw [bCnt]
    have := ih (q + 1) (if f q = -1 then a + 1 else a)
    split at this
    · rename_i h; rw [if_pos h]; omega
    · rename_i h; rw [if_neg h]; omega
theorem on_and_R (a b : Int) : on_R (on_and a b) := ⟨Int32.le_toInt _, Int32.toInt_lt _⟩
theorem bAnd_R (f g : Int → Int) : ∀ (r : Nat) (q a : Int), on_R a → on_R (bAnd f g r q a) := by
  intro r
  induction r with
  | zero => intro q a h; exact h
  | succ r ih =>
    intro q a h
    rw [bAnd]
    refine ih _ _ ?_
    split
    · exact on_and_R _ _
    · exact h
def bOrR (w : bW) : Nat → Int → Int → Int
  | 0, _, a => a
  | r + 1, l, a => bOrR w r (l + 1) (on_or a (on_shl (bNet w l 2) l))
section O47
variable {n : Nat} {σ : on_S} {p q : Int} {w : bW} {N : Int} {A : Int → Int}
theorem bM3 (h : 0 ≤ w 4 ∧ w 4 ≤ 2) : 0 ≤ on_shl 1 (w 4) - 1 ∧ on_shl 1 (w 4) - 1 ≤ 3 := by
  have c : w 4 = 0 ∨ w 4 = 1 ∨ w 4 = 2 := by omega
  rcases c with c | c | c <;> rw [c] <;> decide
theorem bOrR_b (hk : bOk w) : ∀ (r : Nat) (l a : Int), 0 ≤ l → l + (r : Int) = w 4 → (0 ≤ a ∧ a ≤ 3) → (0 ≤ bOrR w r l a ∧ bOrR w r l a ≤ 3) := by
  obtain ⟨q0, q1, q2, q3, q4, q5, q6, q7⟩ := hk.c
  intro r
  induction r with
  | zero => intro l a _ _ h; exact h
  | succ r ih =>
    intro l a l0 hl h
    rw [bOrR]
    refine ih (l + 1) _ (by omega) (by omega) ?_
    have hn := (hk.n l l0 (by omega)).2.2.1
    have a' : a = 0 ∨ a = 1 ∨ a = 2 ∨ a = 3 := by omega
    have b' : bNet w l 2 = 0 ∨ bNet w l 2 = 1 := by omega
    have c' : l = 0 ∨ l = 1 := by omega
    rcases b' with b' | b' <;> rw [b'] <;> rcases c' with c' | c' <;> subst c' <;> rcases a' with a' | a' | a' | a' <;> subst a' <;> decide
/-- what no call keeps for the next -/
theorem bI.idle {σ' : on_S} (hI : bI n σ) (h : ∀ c, ¬ (c = 26 ∨ c = 55 ∨ (57 ≤ c ∧ c ≤ 68) ∨ (82 ≤ c ∧ c ≤ 95) ∨ c = 99) → σ' c = σ c) : bI n σ' := by
  have w := h 78 (by omega)
  refine ⟨by rw [w]; exact hI.k, by rw [w]; exact hI.r.to fun k hk => h _ (by omega), ?_, ?_, ?_, ?_⟩
  · have t := hI.t
    unfold bTp at t ⊢
    rw [h 0 (by omega), h 1 (by omega), h 52 (by omega), h 77 (by omega), h 81 (by omega)]
    exact t
  · intro s hs4
    rw [h (69 + 2 * s) (by omega), h (69 + 2 * s + 1) (by omega), h 96 (by omega), h 97 (by omega), h 98 (by omega)]
    exact hI.s s hs4
  · obtain ⟨j, h1, h2, h3⟩ := hI.i
    have e : ∀ k, bImg σ' k = bImg σ k := fun k => by unfold bImg; rw [h 79 (by omega)]
    refine ⟨j, h1, fun k hk => ?_, fun k k' => ?_⟩
    · rw [h 53 (by omega), h 80 (by omega), e]
      rcases h2 k hk with a | ⟨a, i, i1, i2, i3, i4⟩
      · exact Or.inl a
      · exact Or.inr ⟨a, i, i1, i2, i3, i4.to fun q hq => h _ (by omega)⟩
    · rw [h 53 (by omega)]; exact h3 k k'
  · intro i hi
    rw [h 56 (by omega)]
    exact hI.o i hi
/-! the class -/
theorem c_understands {b : Nat} (hk : bOk w) (hR : bRp 2 w σ) (hN : σ b 1 = N) (N0 : 0 ≤ N ∧ N ≤ 60) (hA : ∀ i : Int, 0 ≤ i → i < 60 → σ (b + 1) i = A i ∧ on_RL (A i)) : pf_X10_understands b σ = some (if N % 3 = 0 then bUn w N A else 0, σ) := by
  obtain ⟨q0, q1, q2, q3, q4, q5, q6, q7⟩ := hk.c
  have e4 : σ (2 + 14) 0 = w 4 := hR.c.2.2.2.2.2.2.1
  have L : ∀ (r nf : Nat) (k : Int), 0 ≤ k → k + 3 * (r : Int) = 63 → k % 3 = 0 → N % 3 = 0 → r < nf → N ≤ k + 3 * (r : Int) → pf_X10_understands_13 b nf k σ = some (bUnR w N A r k, σ) := by
    intro r
    induction r with
    | zero =>
      intro nf k k0 k63 k3 n3 hnf hk'
      cases nf with
      | zero => omega
      | succ nf => rw [pf_X10_understands_13, bGt, hN, bLtF (by omega) (by omega) (by omega)]; rfl
    | succ r ih =>
      intro nf k k0 k63 k3 n3 hnf hk'
      cases nf with
      | zero => omega
      | succ nf =>
        rw [pf_X10_understands_13, bGt, hN, bUnR]
        by_cases h : k < N
        · obtain ⟨a1, a2⟩ := hA k k0 (by omega)
          obtain ⟨b1, b2⟩ := hA (k + 1) (by omega) (by omega)
          obtain ⟨c1, c2⟩ := hA (k + 2) (by omega) (by omega)
          rw [bLtT (by omega) (by omega) (by omega), if_pos h, bRd (by omega) (by omega), bRd (by omega) (by omega), a1, c1]
          by_cases x : A k < 0
          · rw [bLtLT a2 (by omega) x, if_neg (by omega)]
          · rw [bLtLF a2 (by omega) (by omega), bGt, e4, bCk (by omega)]
            by_cases y : A k < w 4
            · rw [bLtLT a2 (by omega) y, if_pos ⟨by omega, y⟩, bRd (by omega) (by omega), b1]
              by_cases z : A (k + 1) < 0
              · rw [bLtLT b2 (by omega) z, if_neg (by omega)]
              · rw [bLtLF b2 (by omega) (by omega), if_pos (by omega)]
                by_cases u : A (k + 2) < 0
                · rw [bLtLT c2 (by omega) u, if_neg (by omega)]
                · rw [bLtLF c2 (by omega) (by omega)]
                  by_cases v : A (k + 2) ≤ 1
                  · rw [bLeLT c2 (by omega) v, if_pos (by omega)]
                    exact ih nf (k + 3) (by omega) (by omega) (by omega) n3 (by omega) (by omega)
                  · rw [bLeLF c2 (by omega) (by omega), if_neg (by omega)]
            · rw [bLtLF a2 (by omega) (by omega), if_neg (by omega)]
        · rw [bLtF (by omega) (by omega) (by omega), if_neg h]
  unfold pf_X10_understands
  rw [bGt, hN, bRm N0.1 (by omega) (by omega) (by omega)]
  by_cases n3 : N % 3 = 0
  · rw [bEqT (by omega) n3, if_pos n3]
    exact L 21 on_N 0 (by omega) (by omega) (by omega) n3 (by unfold on_N; omega) (by omega)
  · rw [bEqF (by omega) (by omega) n3, if_neg n3]
/-- what the nets carry, dry and wet -/
def bMe (w : bW) (σ : on_S) : Prop := ∀ l u : Int, 0 ≤ l → l < w 4 → (u = 0 ∨ u = 1) → σ 68 ((2 * l) + u) = bCar w l u
theorem c_measure (hk : bOk w) (hR : bRp 2 w σ) : ∃ σ' : on_S, pf_X10_measure σ = some (0, σ') ∧ (∀ c, c ≠ 68 → σ' c = σ c) ∧ bMe w σ' := by
  obtain ⟨q0, q1, q2, q3, q4, q5, q6, q7⟩ := hk.c
  have e4 : σ (2 + 14) 0 = w 4 := hR.c.2.2.2.2.2.2.1
  have L : ∀ (r nf : Nat) (k : Int) (σ' : on_S), 0 ≤ k → k + (r : Int) = w 4 → r < nf → (∀ c, c ≠ 68 → σ' c = σ c) → (∀ l u : Int, 0 ≤ l → l < k → (u = 0 ∨ u = 1) → σ' 68 ((2 * l) + u) = bCar w l u) → ∃ σ'' : on_S, pf_X10_measure_2 nf k σ' = some (0, σ'') ∧ (∀ c, c ≠ 68 → σ'' c = σ c) ∧ bMe w σ'' := by
    intro r
    induction r with
    | zero =>
      intro nf k σ' k0 hk' hnf h1 h2
      cases nf with
      | zero => omega
      | succ nf =>
        have : k = w 4 := by omega
        subst this
        exact ⟨σ', by rw [pf_X10_measure_2, bGt, h1 (2 + 14) (by omega), e4, bLtF (by omega) (by omega) (by omega)], h1, h2⟩
    | succ r ih =>
      intro nf k σ' k0 hk' hnf h1 h2
      cases nf with
      | zero => omega
      | succ nf =>
        have R1 : bRp 2 w σ' := hR.to fun j hj => h1 _ (by omega)
        have R2 : bRp 2 w (on_st σ' 68 (2 * k) (bCarM w k 0 0)) := R1.to fun j hj => bst_nc (by omega)
        rw [pf_X10_measure_2, bGt, h1 (2 + 14) (by omega), e4, bLtT (by omega) (by omega) (by omega), bCl (c_carriedIf hk R1 k0 (by omega) (by omega)), bWr (by omega) (by omega), bCl (c_carriedIf hk R2 k0 (by omega) (by omega)), bWr (by omega) (by omega), bCarM0 hk k0 (by omega), bCarM0 hk k0 (by omega)]
        refine ih nf (k + 1) _ (by omega) (by omega) (by omega) (fun c hc => by rw [bst_nc hc, bst_nc hc]; exact h1 c hc) (fun l u l0 l1 hu => ?_)
        rw [bst_if, bst_if]
        by_cases e : l = k
        · subst e
          rcases hu with hu | hu <;> subst hu
          · rw [if_neg (by omega), if_pos (by omega)]
          · rw [if_pos (by omega)]
        · rw [if_neg (by omega), if_neg (by omega)]
          exact h2 l u l0 (by omega) hu
  exact L (w 4).toNat on_N 0 σ (by omega) (by omega) (by unfold on_N; omega) (fun _ _ => rfl) (fun l u l0 l1 _ => by omega)
theorem c_firstUnlike {b : Nat} (hk : bOk w) (hM : bMe w σ) (hN : σ b 1 = N) (N0 : 0 ≤ N ∧ N ≤ 60) (n3 : N % 3 = 0) (hA : ∀ i : Int, 0 ≤ i → i < 60 → σ (b + 1) i = A i ∧ on_RL (A i)) (hU : bUn w N A = 1) (hq : 0 ≤ q ∧ q ≤ 3) : pf_X10_firstUnlike b q σ = some (bUl w N A q, σ) := by
  obtain ⟨q0, q1, q2, q3, q4, q5, q6, q7⟩ := hk.c
  have L : ∀ (r nf : Nat) (k : Int), 0 ≤ k → k + (r : Int) = 21 → r < nf → N ≤ 3 * k + 3 * (r : Int) → pf_X10_firstUnlike_2 b nf q (3 * k) σ = some (bUlR w N A q r k, σ) := by
    intro r
    induction r with
    | zero =>
      intro nf k k0 k21 hnf hk'
      cases nf with
      | zero => omega
      | succ nf =>
        rw [pf_X10_firstUnlike_2, bGt, hN, bLtF ?_ (by omega) (by omega)]
        · rfl
        · omega
    | succ r ih =>
      intro nf k k0 k21 hnf hk'
      cases nf with
      | zero => omega
      | succ nf =>
        rw [pf_X10_firstUnlike_2, bGt, hN, bUlR]
        by_cases h : 3 * k < N
        · obtain ⟨a1, a2⟩ := hA (3 * k) (by omega) (by omega)
          obtain ⟨b1, b2⟩ := hA (3 * k + 1) (by omega) (by omega)
          obtain ⟨c1, c2⟩ := hA (3 * k + 2) (by omega) (by omega)
          obtain ⟨u1, u2, u3⟩ := bUnR_of 21 0 hU (by omega) k k0 (by omega)
          rw [show 0 + 3 * k = 3 * k by omega] at u1 u2 u3
          have hb := bWy_b hq (show 0 ≤ A (3 * k) ∧ A (3 * k) ≤ 1 by omega)
          have hc := bCar_b hk (wet := bWy q (A (3 * k))) u1.1 u1.2
          rw [bLtT (by omega) (by omega) (by omega), if_pos h, bRd (by omega) (by omega), bRd (by omega) (by omega), a1, b1, show on_and (on_shr q (A (3 * k))) 1 = bWy q (A (3 * k)) from rfl, bRd (by omega) (by omega), hM _ _ u1.1 u1.2 hb, bCk (by omega)]
          have tail : ∀ s0 : Int, (s0 = 0 ∨ s0 = 1) → pf_X10_firstUnlike_55 b (pf_X10_firstUnlike_2 b nf) q (3 * k) s0 σ = some (if (s0 = 1) = (A (3 * k + 2) = 1) then bUlR w N A q r (k + 1) else k, σ) := by
            intro s0 hs0
            have e3 : 3 * k + 3 = 3 * (k + 1) := by omega
            unfold pf_X10_firstUnlike_55 pf_X10_firstUnlike_77
            rw [bRd (by omega) (by omega), c1]
            by_cases g : A (3 * k + 2) = 1
            · rw [bEqLT (by omega) g]
              by_cases f : s0 = 1
              · rw [bEqT (by omega) f, e3, ih nf (k + 1) (by omega) (by omega) (by omega) (by omega), if_pos (by rw [f, g])]
              · rw [bEqF (by omega) (by omega) f, bDv (by omega) (by omega) (by omega) (by omega), if_neg (by rw [g]; intro t; exact f (t ▸ rfl))]; congr 2; omega
            · rw [show on_EqL (A (3 * k + 2)) 1 (on_Eq s0 1 (pf_X10_firstUnlike_2 b nf q (3 * k + 3) σ) (on_Dv (3 * k) 3 fun v6 => some (v6, σ))) (on_Eq s0 0 (pf_X10_firstUnlike_2 b nf q (3 * k + 3) σ) (on_Dv (3 * k) 3 fun v6 => some (v6, σ))) = on_Eq s0 0 (pf_X10_firstUnlike_2 b nf q (3 * k + 3) σ) (on_Dv (3 * k) 3 fun v6 => some (v6, σ)) by unfold on_EqL; rw [if_pos ⟨c2, by omega⟩, if_neg g]]
              by_cases f : s0 = 0
              · rw [bEqT (by omega) f, e3, ih nf (k + 1) (by omega) (by omega) (by omega) (by omega), if_pos (by rw [eq_iff_iff]; constructor <;> intro t <;> omega)]
              · rw [bEqF (by omega) (by omega) f, bDv (by omega) (by omega) (by omega) (by omega), if_neg (by rw [eq_iff_iff]; intro t; exact g (t.mp (by omega)))]; congr 2; omega
          by_cases g : A (3 * k + 1) ≤ bCar w (A (3 * k)) (bWy q (A (3 * k)))
          · rw [bLeLT b2 (by omega) g, tail 1 (Or.inr rfl)]
            congr 2
            simp [g]
          · rw [bLeLF b2 (by omega) (by omega), tail 0 (Or.inl rfl)]
            congr 2
            simp [g]
        · rw [bLtF (by omega) (by omega) (by omega), if_neg h]
  exact L 21 on_N 0 (by omega) (by omega) (by unfold on_N; omega) (by omega)
theorem c_weigh {b : Nat} (hk : bOk w) (hR : bRp 2 w σ) (hb : 69 ≤ b) (hN : σ b 1 = N) (N0 : 0 ≤ N ∧ N ≤ 60) (n3 : N % 3 = 0) (hA : ∀ i : Int, 0 ≤ i → i < 60 → σ (b + 1) i = A i ∧ on_RL (A i)) (hU : bUn w N A = 1) : ∃ σ' : on_S, pf_X10_weigh b σ = some (0, σ') ∧ (∀ c, c ≠ 67 → c ≠ 68 → σ' c = σ c) ∧ σ' 67 2 = bCnt (bUl w N A) (on_shl 1 (w 4)).toNat 0 0 ∧ σ' 67 3 = bAnd (bUl w N A) (fun q => q) (on_shl 1 (w 4)).toNat 0 (on_shl 1 (w 4) - 1) ∧ σ' 67 4 = bAnd (bUl w N A) (fun q => on_xor q (-1)) (on_shl 1 (w 4)).toNat 0 (on_shl 1 (w 4) - 1) := by
  obtain ⟨q0, q1, q2, q3, q4, q5, q6, q7⟩ := hk.c
  have e4 : σ (2 + 14) 0 = w 4 := hR.c.2.2.2.2.2.2.1
  have m3 := bM3 q4
  obtain ⟨σ1, a1, a2, a3⟩ := c_measure hk hR
  generalize hM : on_shl 1 (w 4) = M at m3
  have L : ∀ (r nf : Nat) (k : Int) (σ' : on_S), 0 ≤ k → k + (r : Int) = M → r < nf → (∀ c, c ≠ 67 → σ' c = σ1 c) → ∃ σ'' : on_S, pf_X10_weigh_36 b nf (M - 1) k σ' = some (0, σ'') ∧ (∀ c, c ≠ 67 → σ'' c = σ1 c) ∧ σ'' 67 2 = bCnt (bUl w N A) r k (σ' 67 2) ∧ σ'' 67 3 = bAnd (bUl w N A) (fun q => q) r k (σ' 67 3) ∧ σ'' 67 4 = bAnd (bUl w N A) (fun q => on_xor q (-1)) r k (σ' 67 4) := by
    intro r
    induction r with
    | zero =>
      intro nf k σ' k0 hk' hnf h1
      cases nf with
      | zero => omega
      | succ nf => exact ⟨σ', by rw [pf_X10_weigh_36, bLeF (by omega) (by omega) (by omega)], h1, rfl, rfl, rfl⟩
    | succ r ih =>
      intro nf k σ' k0 hk' hnf h1
      cases nf with
      | zero => omega
      | succ nf =>
        have hM' : bMe w σ' := fun l u l0 l1 hu => by rw [h1 68 (by omega)]; exact a3 l u l0 l1 hu
        have hN' : σ' b 1 = N := by rw [h1 b (by omega), a2 b (by omega)]; exact hN
        have hA' : ∀ i : Int, 0 ≤ i → i < 60 → σ' (b + 1) i = A i ∧ on_RL (A i) := fun i i0 i1 => by rw [h1 _ (by omega), a2 _ (by omega)]; exact hA i i0 i1
        have hb' : -1 ≤ bUl w N A k ∧ bUl w N A k ≤ 0 + ((21 : Nat) : Int) := bUlR_b w N A k 21 0 (by omega)
        rw [pf_X10_weigh_36, bLeT (by omega) (by omega) (by omega), bCl (c_firstUnlike hk hM' hN' N0 n3 hA' hU (by omega)), bCnt, bAnd, bAnd]
        by_cases z : bUl w N A k = -1
        · rw [bEqT (by omega) z, if_pos z, if_pos z, if_pos z, bGt, bPt, bGt, bst_ni (by omega), bPt, bGt, bst_ni (by omega), bst_ni (by omega), bPt]
          obtain ⟨σ'', b1, b2, b3, b4, b5⟩ := ih nf (k + 1) (on_st (on_st (on_st σ' 67 2 (σ' 67 2 + 1)) 67 3 (on_and (σ' 67 3) k)) 67 4 (on_and (σ' 67 4) (on_xor k (-1)))) (by omega) (by omega) (by omega) (fun c hc => by rw [bst_nc hc, bst_nc hc, bst_nc hc]; exact h1 c hc)
          refine ⟨σ'', b1, b2, ?_, ?_, ?_⟩
          · rw [b3, bst_ni (by omega), bst_ni (by omega), bst_eq]
          · rw [b4, bst_ni (by omega), bst_eq]
          · rw [b5, bst_eq]
        · rw [bEqF (by omega) (by omega) z, if_neg z, if_neg z, if_neg z]
          exact ih nf (k + 1) σ' (by omega) (by omega) (by omega) h1
  obtain ⟨σ'', b1, b2, b3, b4, b5⟩ := L M.toNat on_N 0 (on_st (on_st (on_st σ1 67 2 0) 67 3 (M - 1)) 67 4 (M - 1)) (by omega) (by omega) (by unfold on_N; omega) (fun c hc => by rw [bst_nc hc, bst_nc hc, bst_nc hc])
  refine ⟨σ'', ?_, fun c h7 h8 => by rw [b2 c h7, a2 c h8], ?_, ?_, ?_⟩
  · unfold pf_X10_weigh
    rw [bCl a1, bGt, a2 (2 + 14) (by omega), e4, hM, bPt, bPt, bPt]
    exact b1
  · rw [b3, bst_ni (by omega), bst_ni (by omega), bst_eq]
  · rw [b4, bst_ni (by omega), bst_eq]
  · rw [b5, bst_eq]
theorem c_firstOdd {b : Nat} (hk : bOk w) (hR : bRp 2 w σ) (hb : 69 ≤ b) (hN : σ b 1 = N) (N0 : 0 ≤ N ∧ N ≤ 60) (n3 : N % 3 = 0) (hA : ∀ i : Int, 0 ≤ i → i < 60 → σ (b + 1) i = A i ∧ on_RL (A i)) (hU : bUn w N A = 1) : ∃ σ' : on_S, pf_X10_firstOdd b σ = some (bUl w N A (bOrR w (w 4).toNat 0 0), σ') ∧ (∀ c, c ≠ 68 → σ' c = σ c) := by
  obtain ⟨q0, q1, q2, q3, q4, q5, q6, q7⟩ := hk.c
  have e4 : σ (2 + 14) 0 = w 4 := hR.c.2.2.2.2.2.2.1
  obtain ⟨σ1, a1, a2, a3⟩ := c_measure hk hR
  have L : ∀ (r nf : Nat) (k a : Int), 0 ≤ k → k + (r : Int) = w 4 → r < nf → (0 ≤ a ∧ a ≤ 3) → pf_X10_firstOdd_8 b nf a k σ1 = some (bUl w N A (bOrR w r k a), σ1) := by
    intro r
    induction r with
    | zero =>
      intro nf k a k0 hk' hnf ha
      cases nf with
      | zero => omega
      | succ nf =>
        rw [pf_X10_firstOdd_8, bGt, a2 (2 + 14) (by omega), e4, bLtF (by omega) (by omega) (by omega), bCl (c_firstUnlike hk a3 (by rw [a2 b (by omega)]; exact hN) N0 n3 (fun i i0 i1 => by rw [a2 _ (by omega)]; exact hA i i0 i1) hU ha)]; rfl
    | succ r ih =>
      intro nf k a k0 hk' hnf ha
      cases nf with
      | zero => omega
      | succ nf =>
        rw [pf_X10_firstOdd_8, bGt, a2 (2 + 14) (by omega), e4, bLtT (by omega) (by omega) (by omega), bRd (by omega) (by omega), a2 (2 + 17) (by omega), (hR.n k k0 (by omega)).2.2.1, bOrR]
        refine ih nf (k + 1) _ (by omega) (by omega) (by omega) ?_
        have hn := (hk.n k k0 (by omega)).2.2.1
        have a' : a = 0 ∨ a = 1 ∨ a = 2 ∨ a = 3 := by omega
        have c' : k = 0 ∨ k = 1 := by omega
        rcases hn with b' | b' <;> rw [b'] <;> rcases c' with c' | c' <;> subst c' <;> rcases a' with a' | a' | a' | a' <;> subst a' <;> decide
  refine ⟨σ1, ?_, a2⟩
  unfold pf_X10_firstOdd
  rw [bCl a1]
  exact L (w 4).toNat on_N 0 0 (by omega) (by omega) (by unfold on_N; omega) (by omega)
/-! the reference -/
theorem m_numberAt {k : Int} (h0 : 0 ≤ 60 * p + k) (h1 : 60 * p + k < 240) : pf_X12_numberAt p k σ = some (σ 98 (60 * p + k), σ) := by
  unfold pf_X12_numberAt; rw [bRd h0 (by omega)]
theorem m_understands (hk : bOk (σ 78)) (hp : 0 ≤ p ∧ p ≤ 3) (hN : σ 96 p = N) (N0 : 0 ≤ N ∧ N ≤ 60) (n3 : N % 3 = 0) (hA : ∀ i : Int, 0 ≤ i → i < 60 → σ 98 (60 * p + i) = A i ∧ on_RL (A i)) : pf_X12_asksSeen_50 on_N p 0 σ = some (if bUn (σ 78) N A = 1 then 0 else -2, σ) := by
  obtain ⟨q0, q1, q2, q3, q4, q5, q6, q7⟩ := hk.c
  have L : ∀ (r nf : Nat) (k : Int), 0 ≤ k → k + 3 * (r : Int) = 63 → k % 3 = 0 → r < nf → pf_X12_asksSeen_50 nf p k σ = some (if bUnR (σ 78) N A r k = 1 then 0 else -2, σ) := by
    intro r
    induction r with
    | zero =>
      intro nf k k0 k63 k3 hnf
      cases nf with
      | zero => omega
      | succ nf => rw [pf_X12_asksSeen_50, bRd (by omega) (by omega), hN, bLtF (by omega) (by omega) (by omega)]; rfl
    | succ r ih =>
      intro nf k k0 k63 k3 hnf
      cases nf with
      | zero => omega
      | succ nf =>
        rw [pf_X12_asksSeen_50, bRd (by omega) (by omega), hN, bUnR]
        by_cases h : k < N
        · obtain ⟨a1, a2⟩ := hA k k0 (by omega)
          obtain ⟨b1, b2⟩ := hA (k + 1) (by omega) (by omega)
          obtain ⟨c1, c2⟩ := hA (k + 2) (by omega) (by omega)
          rw [bLtT (by omega) (by omega) h, if_pos h, bCl (m_numberAt (by omega) (by omega)), a1, bCl (m_isNet hk a2), bE01]
          by_cases x : 0 ≤ A k ∧ A k < σ 78 4
          · rw [if_pos x, if_pos x, bCl (m_numberAt (by omega) (by omega)), b1]
            by_cases z : A (k + 1) < 0
            · rw [bLtLT b2 (by omega) z, if_neg (show ¬ (0 ≤ A (k + 1)) by omega), if_neg (show ¬ ((0 : Int) = 1) by omega)]
            · rw [bLtLF b2 (by omega) (by omega), if_pos (show 0 ≤ A (k + 1) by omega), bCl (m_numberAt (by omega) (by omega)), c1, bCl (m_in c2 (by omega) (by omega)), bE01]
              by_cases v : 0 ≤ A (k + 2) ∧ A (k + 2) ≤ 1
              · rw [if_pos v, if_pos v]
                exact ih nf (k + 3) (by omega) (by omega) (by omega) (by omega)
              · rw [if_neg v, if_neg v, if_neg (show ¬ ((0 : Int) = 1) by omega)]
          · rw [if_neg x, if_neg x, if_neg (show ¬ ((0 : Int) = 1) by omega)]
        · rw [bLtF (by omega) (by omega) (by omega), if_neg h, if_pos rfl]
  exact L 21 on_N 0 (by omega) (by omega) (by omega) (by unfold on_N; omega)
theorem bLay_nc {m : Int} {c : Nat} (hc : c ≠ 84) : bLay σ m c = σ c := by
  unfold bLay; rw [bst_nc hc, bst_nc hc, bst_nc hc, bst_nc hc]
theorem m_firstOdd (hk : bOk (σ 78)) (hp : 0 ≤ p ∧ p ≤ 3) (hN : σ 96 p = N) (N0 : 0 ≤ N ∧ N ≤ 60) (n3 : N % 3 = 0) (hA : ∀ i : Int, 0 ≤ i → i < 60 → σ 98 (60 * p + i) = A i ∧ on_RL (A i)) (hU : bUn (σ 78) N A = 1) (hq : 0 ≤ q ∧ q ≤ 3) : ∃ σ' : on_S, pf_X12_firstOdd p q σ = some (bUl (σ 78) N A q, σ') ∧ ∀ c, c ≠ 84 → σ' c = σ c := by
  obtain ⟨q0, q1, q2, q3, q4, q5, q6, q7⟩ := hk.c
  have L : ∀ (r nf : Nat) (k : Int) (σ' : on_S), 0 ≤ k → k + (r : Int) = 21 → r < nf → (∀ c, c ≠ 84 → σ' c = σ c) → ∃ σ'' : on_S, pf_X12_firstOdd_2 nf p q k σ' = some (bUlR (σ 78) N A q r k, σ'') ∧ ∀ c, c ≠ 84 → σ'' c = σ c := by
    intro r
    induction r with
    | zero =>
      intro nf k σ' k0 k21 hnf h1
      cases nf with
      | zero => omega
      | succ nf => exact ⟨σ', by rw [pf_X12_firstOdd_2, bRd (by omega) (by omega), h1 96 (by omega), hN, bLtF (by omega) (by omega) (by omega)]; rfl, h1⟩
    | succ r ih =>
      intro nf k σ' k0 k21 hnf h1
      cases nf with
      | zero => omega
      | succ nf =>
        rw [pf_X12_firstOdd_2, bRd (by omega) (by omega), h1 96 (by omega), hN, bUlR]
        by_cases h : 3 * k < N
        · obtain ⟨a1, a2⟩ := hA (3 * k) (by omega) (by omega)
          obtain ⟨b1, b2⟩ := hA (3 * k + 1) (by omega) (by omega)
          obtain ⟨c1, c2⟩ := hA (3 * k + 2) (by omega) (by omega)
          obtain ⟨u1, u2, u3⟩ := bUnR_of 21 0 hU (by omega) k k0 (by omega)
          rw [show 0 + 3 * k = 3 * k by omega] at u1 u2 u3
          have hb := bWy_b hq (show 0 ≤ A (3 * k) ∧ A (3 * k) ≤ 1 by omega)
          have hc := bCar_b hk (wet := bWy q (A (3 * k))) u1.1 u1.2
          have w1 : σ' 78 = σ 78 := h1 78 (by omega)
          have k1 : bOk (σ' 78) := by rw [w1]; exact hk
          have f : ∀ c, c ≠ 84 → bLay σ' (A (3 * k)) c = σ c := fun c hc => by rw [bLay_nc hc]; exact h1 c hc
          have w2 := f 78 (by omega)
          have hr := (hk.n _ u1.1 u1.2).1
          have po : bPo (bLay σ' (A (3 * k)) 78) (bLay σ' (A (3 * k)) 84) := by
            rw [w2, ← w1]; exact bLay_po σ' k1 _
          have hh : 4 * bLst (bHold (σ 78) (bLay σ' (A (3 * k)) 84) (A (3 * k)) (bNet (σ 78) (A (3 * k)) 0) (bWy q (A (3 * k)))) = bCar (σ 78) (A (3 * k)) (bWy q (A (3 * k))) := by
            unfold bCar
            have e : ∀ c : Int, 0 ≤ c → c < 4 → bLay σ' (A (3 * k)) 84 c = bAt (σ 78) (A (3 * k)) c := fun c c0 c1 => by rw [bLay_84 σ' _ c0 c1, w1]; rfl
            rw [bLst_congr (g := bHold (σ 78) (bAt (σ 78) (A (3 * k))) (A (3 * k)) (bNet (σ 78) (A (3 * k)) 0) (bWy q (A (3 * k)))) (fun c c0 c1 => bHold_congr e c0 c1)]
          rw [bLtT (by omega) (by omega) h, if_pos h, bCl (m_numberAt (by omega) (by omega)), h1 98 (by omega), a1, bCl (m_layPosts k1 (by omega)), bCl (m_numberAt (by omega) (by omega)), f 98 (by omega), b1, bCl (m_ofNet u1.1 (by omega) (by omega) (by omega)), w2, show on_and (on_shr q (A (3 * k))) 1 = bWy q (A (3 * k)) from rfl, bCl (m_carriesBy (by rw [w2]; exact hk) po u1.1 (by rw [w2]; exact u1.2) hr.1 (by rw [w2]; exact hr.2) (by omega)), w2, hh, bCk (by omega)]
          have tail : ∀ s0 : Int, (s0 = 0 ∨ s0 = 1) → ∃ σ'' : on_S, pf_X12_firstOdd_70 (pf_X12_firstOdd_2 nf) p q k s0 (bLay σ' (A (3 * k))) = some (if (s0 = 1) = (A (3 * k + 2) = 1) then bUlR (σ 78) N A q r (k + 1) else k, σ'') ∧ ∀ c, c ≠ 84 → σ'' c = σ c := by
            intro s0 hs0
            obtain ⟨σ'', d1, d2⟩ := ih nf (k + 1) _ (by omega) (by omega) (by omega) f
            unfold pf_X12_firstOdd_70 pf_X12_firstOdd_94
            rw [bCl (m_numberAt (by omega) (by omega)), f 98 (by omega), c1]
            by_cases g : A (3 * k + 2) = 1
            · rw [bEqLT (by omega) g]
              by_cases e : s0 = 1
              · exact ⟨σ'', by rw [bEqT (by omega) e, d1, if_pos (by rw [e, g])], d2⟩
              · exact ⟨_, by rw [bEqF (by omega) (by omega) e, if_neg (by rw [g]; intro t; exact e (t ▸ rfl))], f⟩
            · unfold on_EqL
              rw [if_pos ⟨c2, by omega⟩, if_neg g]
              by_cases e : s0 = 0
              · exact ⟨σ'', by rw [bEqT (by omega) e, d1, if_pos (by rw [eq_iff_iff]; constructor <;> intro t <;> omega)], d2⟩
              · exact ⟨_, by rw [bEqF (by omega) (by omega) e, if_neg (by rw [eq_iff_iff]; intro t; exact g (t.mp (by omega)))], f⟩
          by_cases g : A (3 * k + 1) ≤ bCar (σ 78) (A (3 * k)) (bWy q (A (3 * k)))
          · rw [bLeLT b2 (by omega) g]
            have := tail 1 (Or.inr rfl)
            simpa [g] using this
          · rw [bLeLF b2 (by omega) (by omega)]
            have := tail 0 (Or.inl rfl)
            simpa [g] using this
        · exact ⟨σ', by rw [bLtF (by omega) (by omega) (by omega), if_neg h], h1⟩
  exact L 21 on_N 0 σ (by omega) (by omega) (by unfold on_N; omega) (fun _ _ => rfl)
/-- what is asked of what is seen: refused alike, or understood -/
theorem b_asks (hI : bI n σ) (hp : on_R p) : (∃ e : Int, e < 0 ∧ on_R e ∧ pf_X11_seenRefused p σ = some (e, σ) ∧ (e = -2 ∨ e = -6) ∧ ∀ σ1 : on_S, (∀ c, c ≠ 67 → c ≠ 68 → σ1 c = σ c) → pf_X12_asksSeen p 1 σ1 = some (e, σ1)) ∨ (∃ (P : Nat) (N : Int) (A : Int → Int), (P : Int) = p ∧ P < 4 ∧ pf_X11_seenRefused p σ = some (0, σ) ∧ (∀ σ1 : on_S, (∀ c, c ≠ 67 → c ≠ 68 → σ1 c = σ c) → pf_X12_asksSeen p 1 σ1 = some (0, σ1)) ∧ σ (69 + 2 * P) 1 = N ∧ σ 96 p = N ∧ (0 ≤ N ∧ N ≤ 60) ∧ N % 3 = 0 ∧ (∀ i : Int, 0 ≤ i → i < 60 → σ (69 + 2 * P + 1) i = A i ∧ on_RL (A i)) ∧ (∀ i : Int, 0 ≤ i → i < 60 → σ 98 (60 * p + i) = A i ∧ on_RL (A i)) ∧ bUn (σ 78) N A = 1) := by
  have idle : ∀ σ1 : on_S, (∀ c, c ≠ 67 → c ≠ 68 → σ1 c = σ c) → bI n σ1 := fun σ1 h => hI.idle fun c hc => h c (by omega) (by omega)
  by_cases hs : 0 ≤ p ∧ p ≤ 3
  · have hp' : (p.toNat : Int) = p := by omega
    generalize hP : p.toNat = P at hp'
    have P4 : P < 4 := by omega
    by_cases hz : 0 < σ 78 7
    · obtain ⟨h1, h2⟩ := hI.s P P4
      rw [hp'] at h1 h2
      rcases h1 with ⟨w1, w2⟩ | ⟨w0, w1, w2, w3⟩
      · refine Or.inl ⟨-6, by omega, by omega, ?_, Or.inr rfl, fun σ1 h => ?_⟩
        · unfold pf_X11_seenRefused
          rw [bCl (c_isSlot hp), bE01, if_pos hs, bCl (c_isThere hI.k hI.r), bE01, if_pos hz, bIx hs.1 (by omega), hP, bGt, w1, bEqT (by omega) rfl]
        · unfold pf_X12_asksSeen
          rw [bCl (m_isSlot hp), bE01, if_pos hs, bCl (m_isStreet (idle σ1 h).k), bE01, h 78 (by omega) (by omega), if_pos hz, bEqF (by omega) (by omega) (by omega), bRd (by omega) (by omega), h 96 (by omega) (by omega), w2, bEqT (by omega) rfl]
      · have A1 : ∀ i : Int, 0 ≤ i → i < 60 → σ (69 + 2 * P + 1) i = σ (69 + 2 * P + 1) i ∧ on_RL (σ (69 + 2 * P + 1) i) := fun i i0 i1 => ⟨rfl, (h2 i i0 i1).2⟩
        have A2 : ∀ i : Int, 0 ≤ i → i < 60 → σ 98 (60 * p + i) = σ (69 + 2 * P + 1) i ∧ on_RL (σ (69 + 2 * P + 1) i) := fun i i0 i1 => ⟨(h2 i i0 i1).1.symm, (h2 i i0 i1).2⟩
        have cU := c_understands (b := 69 + 2 * P) (N := σ 96 p) hI.k hI.r w2 w3 A1
        have mU : ∀ σ1 : on_S, (∀ c, c ≠ 67 → c ≠ 68 → σ1 c = σ c) → σ 96 p % 3 = 0 → pf_X12_asksSeen_50 on_N p 0 σ1 = some (if bUn (σ 78) (σ 96 p) (σ (69 + 2 * P + 1)) = 1 then 0 else -2, σ1) := fun σ1 h n3 => by
          have := m_understands (σ := σ1) (p := p) (N := σ 96 p) (A := σ (69 + 2 * P + 1)) (idle σ1 h).k hs (by rw [h 96 (by omega) (by omega)]) w3 n3 (fun i i0 i1 => by rw [h 98 (by omega) (by omega)]; exact A2 i i0 i1)
          rw [h 78 (by omega) (by omega)] at this
          exact this
        have cR : pf_X11_seenRefused p σ = on_Eq (if σ 96 p % 3 = 0 then bUn (σ 78) (σ 96 p) (σ (69 + 2 * P + 1)) else 0) 0 (some (-2, σ)) (some (0, σ)) := by
          unfold pf_X11_seenRefused
          rw [bCl (c_isSlot hp), bE01, if_pos hs, bCl (c_isThere hI.k hI.r), bE01, if_pos hz, bIx hs.1 (by omega), hP, bGt, bEqF (by omega) (by omega) (by omega), bIx hs.1 (by omega), hP, bCl cU]
        have mR : ∀ σ1 : on_S, (∀ c, c ≠ 67 → c ≠ 68 → σ1 c = σ c) → pf_X12_asksSeen p 1 σ1 = on_Eq (σ 96 p % 3) 0 (pf_X12_asksSeen_50 on_N p 0 σ1) (some (-2, σ1)) := fun σ1 h => by
          unfold pf_X12_asksSeen
          rw [bCl (m_isSlot hp), bE01, if_pos hs, bCl (m_isStreet (idle σ1 h).k), bE01, h 78 (by omega) (by omega), if_pos hz, bEqF (by omega) (by omega) (by omega), bRd (by omega) (by omega), h 96 (by omega) (by omega), bEqF (by omega) (by omega) (by omega), bRd (by omega) (by omega), h 96 (by omega) (by omega), bRm w3.1 (by omega) (by omega) (by omega)]
        rcases bUnR_b (σ 78) (σ 96 p) (σ (69 + 2 * P + 1)) 21 0 with hU | hU
        · refine Or.inl ⟨-2, by omega, by omega, ?_, Or.inl rfl, fun σ1 h => ?_⟩
          · rw [cR]
            split
            · rw [show bUn (σ 78) (σ 96 p) (σ (69 + 2 * P + 1)) = 0 from hU, bEqT (by omega) rfl]
            · rw [bEqT (by omega) rfl]
          · rw [mR σ1 h]
            by_cases n3 : σ 96 p % 3 = 0
            · rw [bEqT (by omega) n3, mU σ1 h n3, show bUn (σ 78) (σ 96 p) (σ (69 + 2 * P + 1)) = 0 from hU, if_neg (by omega)]
            · rw [bEqF (by omega) (by omega) n3]
        · by_cases n3 : σ 96 p % 3 = 0
          · refine Or.inr ⟨P, σ 96 p, σ (69 + 2 * P + 1), hp', P4, ?_, fun σ1 h => ?_, w2, rfl, w3, n3, A1, A2, hU⟩
            · rw [cR, if_pos n3, show bUn (σ 78) (σ 96 p) (σ (69 + 2 * P + 1)) = 1 from hU, bEqF (by omega) (by omega) (by omega)]
            · rw [mR σ1 h, bEqT (by omega) n3, mU σ1 h n3, if_pos hU]
          · refine Or.inl ⟨-2, by omega, by omega, ?_, Or.inl rfl, fun σ1 h => ?_⟩
            · rw [cR, if_neg n3, bEqT (by omega) rfl]
            · rw [mR σ1 h, bEqF (by omega) (by omega) n3]
    · refine Or.inl ⟨-2, by omega, by omega, ?_, Or.inl rfl, fun σ1 h => ?_⟩
      · unfold pf_X11_seenRefused
        rw [bCl (c_isSlot hp), bE01, if_pos hs, bCl (c_isThere hI.k hI.r), bE01, if_neg hz]
      · unfold pf_X12_asksSeen
        rw [bCl (m_isSlot hp), bE01, if_pos hs, bCl (m_isStreet (idle σ1 h).k), bE01, h 78 (by omega) (by omega), if_neg hz]
  · refine Or.inl ⟨-2, by omega, by omega, ?_, Or.inl rfl, fun σ1 h => ?_⟩
    · unfold pf_X11_seenRefused
      rw [bCl (c_isSlot hp), bE01, if_neg hs]
    · unfold pf_X12_asksSeen
      rw [bCl (m_isSlot hp), bE01, if_neg hs]
theorem m_allNets (hk : bOk (σ 78)) : pf_X12_allNets σ = some (on_shl 1 (σ 78 4) - 1, σ) := by
  unfold pf_X12_allNets; rw [bRd (by omega) (by omega)]
theorem o_seen (hI : bI n σ) (hp : on_R p) : bOp n σ (pf_X11_seen p) (pf_X12_seen p) := by
  rcases b_asks hI hp with ⟨e, e0, eR, a1, -, a2⟩ | ⟨P, N, A, hp', P4, a1, a2, hN, hN', N0, n3, hA, hA', hU⟩
  · refine bOp.no hI eR ?_ ?_
    · unfold pf_X11_seen; rw [bCl a1, bEqF eR (by omega) (by omega)]
    · unfold pf_X12_seen; rw [bCl (a2 σ fun _ _ _ => rfl), bLtT eR (by omega) e0]
  · have m3 := bM3 hI.k.c.2.2.2.2.1
    obtain ⟨σ1, b1, b2, b3, -, -⟩ := c_weigh (b := 69 + 2 * P) hI.k hI.r (by omega) hN N0 n3 hA hU
    generalize hM : on_shl 1 (σ 78 4) = M at m3 b3
    have cb := bCnt_b (bUl (σ 78) N A) M.toNat 0 0
    have L : ∀ (r nf : Nat) (k a : Int) (σ' : on_S), 0 ≤ k → k + (r : Int) = M → r < nf → (∀ c, c ≠ 67 → c ≠ 68 → c ≠ 84 → σ' c = σ c) → ∃ σ'' : on_S, pf_X12_seen_18 nf p a k σ' = some (bCnt (bUl (σ 78) N A) r k a, σ'') ∧ ∀ c, c ≠ 67 → c ≠ 68 → c ≠ 84 → σ'' c = σ c := by
      intro r
      induction r with
      | zero =>
        intro nf k a σ' k0 hk' hnf h1
        have w1 : σ' 78 = σ 78 := h1 78 (by omega) (by omega) (by omega)
        cases nf with
        | zero => omega
        | succ nf => exact ⟨σ', by rw [pf_X12_seen_18, bCl (m_allNets (by rw [w1]; exact hI.k)), w1, hM, bLeF (by omega) (by omega) (by omega)]; rfl, h1⟩
      | succ r ih =>
        intro nf k a σ' k0 hk' hnf h1
        have w1 : σ' 78 = σ 78 := h1 78 (by omega) (by omega) (by omega)
        cases nf with
        | zero => omega
        | succ nf =>
          have hb' : -1 ≤ bUl (σ 78) N A k ∧ bUl (σ 78) N A k ≤ 0 + ((21 : Nat) : Int) := bUlR_b (σ 78) N A k 21 0 (by omega)
          obtain ⟨σ2, d1, d2⟩ := m_firstOdd (σ := σ') (p := p) (q := k) (N := N) (A := A) (by rw [w1]; exact hI.k) (by omega) (by rw [h1 96 (by omega) (by omega) (by omega)]; exact hN') N0 n3 (fun i i0 i1 => by rw [h1 98 (by omega) (by omega) (by omega)]; exact hA' i i0 i1) (by rw [w1]; exact hU) (by omega)
          rw [w1] at d1
          have f : ∀ c, c ≠ 67 → c ≠ 68 → c ≠ 84 → σ2 c = σ c := fun c c1 c2 c3 => by rw [d2 c c3]; exact h1 c c1 c2 c3
          rw [pf_X12_seen_18, bCl (m_allNets (by rw [w1]; exact hI.k)), w1, hM, bLeT (by omega) (by omega) (by omega), bCl d1, bCnt]
          by_cases z : bUl (σ 78) N A k = -1
          · rw [bEqT (by omega) z, if_pos z]
            exact ih nf (k + 1) (a + 1) σ2 (by omega) (by omega) (by omega) f
          · rw [bEqF (by omega) (by omega) z, if_neg z, show a + 0 = a by omega]
            exact ih nf (k + 1) a σ2 (by omega) (by omega) (by omega) f
    obtain ⟨σ2, d1, d2⟩ := L M.toNat on_N 0 0 σ1 (by omega) (by omega) (by unfold on_N; omega) (fun c c1 c2 _ => b2 c c1 c2)
    refine ⟨bCnt (bUl (σ 78) N A) M.toNat 0 0, σ1, σ2, ?_, ?_, by omega, hI.idle fun c hc => d2 c (by omega) (by omega) (by omega)⟩
    · unfold pf_X11_seen
      rw [bCl a1, bEqT (by omega) rfl, bIx (by omega) (by omega), show p.toNat = P by omega, bCl b1, bGt, b3]
    · unfold pf_X12_seen
      rw [bCl (a2 σ1 b2), bLtF (by omega) (by omega) (by omega), d1]
theorem o_odd (hI : bI n σ) (hp : on_R p) : bOp n σ (pf_X11_odd p) (pf_X12_odd p) := by
  rcases b_asks hI hp with ⟨e, e0, eR, a1, -, a2⟩ | ⟨P, N, A, hp', P4, a1, a2, hN, hN', N0, n3, hA, hA', hU⟩
  · refine bOp.no hI eR ?_ ?_
    · unfold pf_X11_odd; rw [bCl a1, bEqF eR (by omega) (by omega)]
    · unfold pf_X12_odd; rw [bCl (a2 σ fun _ _ _ => rfl), bLtT eR (by omega) e0]
  · obtain ⟨q0, q1, q2, q3, q4, q5, q6, q7⟩ := hI.k.c
    obtain ⟨σ1, b1, b2⟩ := c_firstOdd (b := 69 + 2 * P) hI.k hI.r (by omega) hN N0 n3 hA hU
    have w1 : σ1 78 = σ 78 := b2 78 (by omega)
    have ob := bOrR_b hI.k (σ 78 4).toNat 0 0 (by omega) (by omega) (by omega)
    have hb' : -1 ≤ bUl (σ 78) N A (bOrR (σ 78) (σ 78 4).toNat 0 0) ∧ bUl (σ 78) N A (bOrR (σ 78) (σ 78 4).toNat 0 0) ≤ 0 + ((21 : Nat) : Int) := bUlR_b (σ 78) N A _ 21 0 (by omega)
    obtain ⟨σ2, d1, d2⟩ := m_firstOdd (σ := σ1) (p := p) (q := bOrR (σ 78) (σ 78 4).toNat 0 0) (N := N) (A := A) (by rw [w1]; exact hI.k) (by omega) (by rw [b2 96 (by omega)]; exact hN') N0 n3 (fun i i0 i1 => by rw [b2 98 (by omega)]; exact hA' i i0 i1) (by rw [w1]; exact hU) ob
    rw [w1] at d1
    have L : ∀ (r nf : Nat) (k a : Int), 0 ≤ k → k + (r : Int) = σ 78 4 → r < nf → pf_X12_odd_18 nf p a k σ1 = pf_X12_odd_18 (nf - r) p (bOrR (σ 78) r k a) (σ 78 4) σ1 := by
      intro r
      induction r with
      | zero => intro nf k a k0 hk' hnf; rw [show k = σ 78 4 by omega]; rfl
      | succ r ih =>
        intro nf k a k0 hk' hnf
        cases nf with
        | zero => omega
        | succ nf =>
          rw [pf_X12_odd_18, bRd (by omega) (by omega), w1, bLtT (by omega) (by omega) (by omega), bCl (m_ofNet k0 (by omega) (by omega) (by omega)), w1, bOrR, ih nf (k + 1) _ (by omega) (by omega) (by omega), show nf + 1 - (r + 1) = nf - r by omega]
    refine ⟨bUl (σ 78) N A (bOrR (σ 78) (σ 78 4).toNat 0 0), σ1, σ2, ?_, ?_, by omega, hI.idle fun c hc => by rw [d2 c (by omega), b2 c (by omega)]⟩
    · unfold pf_X11_odd
      rw [bCl a1, bEqT (by omega) rfl, bIx (by omega) (by omega), show p.toNat = P by omega, bCl b1]
    · unfold pf_X12_odd
      rw [bCl (a2 σ1 fun c _ h => b2 c h), bLtF (by omega) (by omega) (by omega), L (σ 78 4).toNat on_N 0 0 (by omega) (by omega) (by unfold on_N; omega)]
      obtain ⟨m, hm⟩ : ∃ m, on_N - (σ 78 4).toNat = m + 1 := ⟨on_N - (σ 78 4).toNat - 1, by unfold on_N; omega⟩
      rw [hm, pf_X12_odd_18, bRd (by omega) (by omega), w1, bLtF (by omega) (by omega) (by omega), bCl d1]
theorem m_asks0 (hI : bI n σ) (hp : on_R p) : pf_X12_asksSeen p 0 σ = some (-2, σ) := by
  unfold pf_X12_asksSeen
  rw [bCl (m_isSlot hp), bE01]
  split
  · rw [bCl (m_isStreet hI.k), bE01]
    split
    · rw [bEqT (by omega) rfl]
    · rfl
  · rfl
theorem o_sure (hI : bI n σ) (hp : on_R p) (hq : on_R q) : bOp n σ (pf_X11_sure p q) (pf_X12_sure p q) := by
  by_cases hb : q = 0 ∨ q = 1
  · have m_i : ∀ σ1 : on_S, pf_X12_in q 0 1 σ1 = some (1, σ1) := fun σ1 => by rw [m_in' hq (by omega) (by omega), if_pos (by omega)]
    have c_i : pf_X11_isBit q σ = some (1, σ) := by rw [c_isBit hq, if_pos hb]
    rcases b_asks hI hp with ⟨e, e0, eR, a1, -, a2⟩ | ⟨P, N, A, hp', P4, a1, a2, hN, hN', N0, n3, hA, hA', hU⟩
    · refine bOp.no hI eR ?_ ?_
      · unfold pf_X11_sure; rw [bCl c_i, bEqF (by omega) (by omega) (by omega), bCl a1, bEqF eR (by omega) (by omega)]
      · unfold pf_X12_sure; rw [bCk hq, bCl (m_i σ), bCl (a2 σ fun _ _ _ => rfl), bLtT eR (by omega) e0]
    · have m3 := bM3 hI.k.c.2.2.2.2.1
      obtain ⟨σ1, b1, b2, b3, b4, b5⟩ := c_weigh (b := 69 + 2 * P) hI.k hI.r (by omega) hN N0 n3 hA hU
      generalize hM : on_shl 1 (σ 78 4) = M at m3 b3 b4 b5
      have cb := bCnt_b (bUl (σ 78) N A) M.toNat 0 0
      generalize hG : (fun x : Int => if q = 0 then x else on_xor x (-1)) = G
      have L : ∀ (r nf : Nat) (k a u v : Int) (σ' : on_S), 0 ≤ k → k + (r : Int) = M → r < nf → (∀ c, c ≠ 67 → c ≠ 68 → c ≠ 84 → σ' c = σ c) → 0 ≤ v → v + (r : Int) ≤ 4 → ((u = 0 ∧ v = 0) ∨ (u = 1 ∧ 0 < v)) → ∃ σ'' : on_S, pf_X12_sure_31 nf p q a u k σ' = some (if bCnt (bUl (σ 78) N A) r k v = 0 then -1 else bAnd (bUl (σ 78) N A) G r k a, σ'') ∧ ∀ c, c ≠ 67 → c ≠ 68 → c ≠ 84 → σ'' c = σ c := by
        intro r
        induction r with
        | zero =>
          intro nf k a u v σ' k0 hk' hnf h1 v0 v4 hu
          have w1 : σ' 78 = σ 78 := h1 78 (by omega) (by omega) (by omega)
          cases nf with
          | zero => omega
          | succ nf =>
            rw [pf_X12_sure_31, bCl (m_allNets (by rw [w1]; exact hI.k)), w1, hM, bLeF (by omega) (by omega) (by omega), bCnt, bAnd]
            rcases hu with ⟨hu, hv⟩ | ⟨hu, hv⟩
            · exact ⟨σ', by rw [bEqT (by omega) hu, if_pos hv], h1⟩
            · exact ⟨σ', by rw [bEqF (by omega) (by omega) (by omega), if_neg (by omega)], h1⟩
        | succ r ih =>
          intro nf k a u v σ' k0 hk' hnf h1 v0 v4 hu
          have w1 : σ' 78 = σ 78 := h1 78 (by omega) (by omega) (by omega)
          cases nf with
          | zero => omega
          | succ nf =>
            have hb' : -1 ≤ bUl (σ 78) N A k ∧ bUl (σ 78) N A k ≤ 0 + ((21 : Nat) : Int) := bUlR_b (σ 78) N A k 21 0 (by omega)
            obtain ⟨σ2, d1, d2⟩ := m_firstOdd (σ := σ') (p := p) (q := k) (N := N) (A := A) (by rw [w1]; exact hI.k) (by omega) (by rw [h1 96 (by omega) (by omega) (by omega)]; exact hN') N0 n3 (fun i i0 i1 => by rw [h1 98 (by omega) (by omega) (by omega)]; exact hA' i i0 i1) (by rw [w1]; exact hU) (by omega)
            rw [w1] at d1
            have f : ∀ c, c ≠ 67 → c ≠ 68 → c ≠ 84 → σ2 c = σ c := fun c c1 c2 c3 => by rw [d2 c c3]; exact h1 c c1 c2 c3
            rw [pf_X12_sure_31, bCl (m_allNets (by rw [w1]; exact hI.k)), w1, hM, bLeT (by omega) (by omega) (by omega), bCl d1, bCnt, bAnd]
            by_cases z : bUl (σ 78) N A k = -1
            · rw [bEqT (by omega) z, if_pos z, if_pos z]
              by_cases y : q = 0
              · have e : G k = k := by rw [← hG]; exact if_pos y
                rw [bEqT (by omega) y, e]
                exact ih nf (k + 1) _ 1 (v + 1) σ2 (by omega) (by omega) (by omega) f (by omega) (by omega) (by omega)
              · have e : G k = on_xor k (-1) := by rw [← hG]; exact if_neg y
                rw [bEqF (by omega) (by omega) y, e]
                exact ih nf (k + 1) _ 1 (v + 1) σ2 (by omega) (by omega) (by omega) f (by omega) (by omega) (by omega)
            · rw [bEqF (by omega) (by omega) z, if_neg z, if_neg z]
              exact ih nf (k + 1) a u v σ2 (by omega) (by omega) (by omega) f v0 (by omega) hu
      obtain ⟨σ2, d1, d2⟩ := L M.toNat on_N 0 (M - 1) 0 0 σ1 (by omega) (by omega) (by unfold on_N; omega) (fun c c1 c2 _ => b2 c c1 c2) (by omega) (by omega) (Or.inl ⟨rfl, rfl⟩)
      have w1 : σ1 78 = σ 78 := b2 78 (by omega) (by omega)
      refine ⟨if bCnt (bUl (σ 78) N A) M.toNat 0 0 = 0 then -1 else bAnd (bUl (σ 78) N A) G M.toNat 0 (M - 1), σ1, σ2, ?_, ?_, ?_, hI.idle fun c hc => d2 c (by omega) (by omega) (by omega)⟩
      · unfold pf_X11_sure
        rw [bCl c_i, bEqF (by omega) (by omega) (by omega), bCl a1, bEqT (by omega) rfl, bIx (by omega) (by omega), show p.toNat = P by omega, bCl b1, bGt, b3]
        by_cases z : bCnt (bUl (σ 78) N A) M.toNat 0 0 = 0
        · rw [bEqT (by omega) z, if_pos z]
        · rw [bEqF (by omega) (by omega) z, if_neg z]
          rcases hb with y | y
          · rw [bEqT (by omega) y, bGt, b4, show G = fun q => q by rw [← hG]; funext x; exact if_pos y]
          · rw [bEqF (by omega) (by omega) (by omega), bGt, b5, show G = fun q => on_xor q (-1) by rw [← hG]; funext x; exact if_neg (by omega)]
      · unfold pf_X12_sure
        rw [bCk hq, bCl (m_i σ1), bCl (a2 σ1 b2), bLtF (by omega) (by omega) (by omega), bCl (m_allNets (by rw [w1]; exact hI.k)), w1, hM]
        exact d1
      · split
        · omega
        · exact bAnd_R _ _ _ _ _ (by omega)
  · refine bOp.no (r := -2) hI (by omega) ?_ ?_
    · unfold pf_X11_sure
      rw [bCl (c_isBit hq), if_neg hb, bEqT (by omega) rfl]
    · unfold pf_X12_sure
      rw [bCk hq, bCl (m_in' hq (by omega) (by omega)), if_neg (by omega), bCl (m_asks0 hI hp), bLtT (by omega) (by omega) (by omega)]
end O47
