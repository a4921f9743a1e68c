/-! B: what both sides read of a street -/
theorem bE01 {P : Prop} [Decidable P] {x y : Option on_O} : on_Eq (if P then 1 else 0) 0 x y = if P then y else x := by
  by_cases h : P
  · rw [if_pos h, if_pos h]; exact bEqF (by decide) (by decide) (by decide)
  · rw [if_neg h, if_neg h]; exact bEqT (by decide) rfl
theorem bZ01 {P : Prop} [Decidable P] {σ : on_S} : on_Bz (if P then 1 else 0) σ = some (if P then 1 else 0, σ) := by
  apply bBz; by_cases h : P <;> simp [h]
theorem m_in {σ : on_S} {a l h : Int} (ha : on_RL a) (hl : on_RL l) (hh : on_RL h) : pf_X12_in a l h σ = some (if l ≤ a ∧ a ≤ h then 1 else 0, σ) := by
  unfold pf_X12_in pf_X12_in_17
  by_cases h1 : a < l
  · rw [bLtLT ha hl h1, if_neg (by omega)]
  · rw [bLtLF ha hl (by omega)]
    by_cases h2 : a ≤ h
    · rw [bLeLT ha hh h2, if_pos ⟨by omega, h2⟩]
    · rw [bLeLF ha hh (by omega), if_neg (by omega)]
theorem m_in' {σ : on_S} {a l h : Int} (ha : on_R a) (hl : on_R l) (hh : on_R h) : pf_X12_in a l h σ = some (if l ≤ a ∧ a ≤ h then 1 else 0, σ) := m_in (by omega) (by omega) (by omega)
section M31
variable {σ : on_S}
theorem m_isStreet (hk : bOk (σ 78)) : pf_X12_isStreet σ = some (if 0 < σ 78 7 then 1 else 0, σ) := by
  obtain ⟨h0, h1, h2, h3, h4, h5, h6, h7⟩ := hk.c
  unfold pf_X12_isStreet
  rw [bRd (by omega) (by omega)]
  by_cases h : 0 < σ 78 7
  · rw [bLeF (by omega) (by omega) h, if_pos h]
  · rw [bLeT (by omega) (by omega) (by omega), if_neg h]
theorem m_isHouse (hk : bOk (σ 78)) {p : Int} (hp : on_R p) : pf_X12_isHouse p σ = some (if 0 ≤ p ∧ p < σ 78 0 then 1 else 0, σ) := by
  obtain ⟨h0, h1, h2, h3, h4, h5, h6, h7⟩ := hk.c
  unfold pf_X12_isHouse
  rw [bCk hp, bRd (by omega) (by omega), bCk (by omega), m_in' hp (by omega) (by omega), bClS, bZ01]
  congr 3; exact propext ⟨fun h => ⟨h.1, by omega⟩, fun h => ⟨h.1, by omega⟩⟩
theorem m_isWindow (hk : bOk (σ 78)) {p : Int} (hp : on_R p) : pf_X12_isWindow p σ = some (if 0 ≤ p ∧ p < σ 78 2 then 1 else 0, σ) := by
  obtain ⟨h0, h1, h2, h3, h4, h5, h6, h7⟩ := hk.c
  unfold pf_X12_isWindow
  rw [bCk hp, bRd (by omega) (by omega), bCk (by omega), m_in' hp (by omega) (by omega), bClS, bZ01]
  congr 3; exact propext ⟨fun h => ⟨h.1, by omega⟩, fun h => ⟨h.1, by omega⟩⟩
theorem m_isMan (hk : bOk (σ 78)) {p : Int} (hp : on_R p) : pf_X12_isMan p σ = some (if 0 ≤ p ∧ p < σ 78 3 then 1 else 0, σ) := by
  obtain ⟨h0, h1, h2, h3, h4, h5, h6, h7⟩ := hk.c
  unfold pf_X12_isMan
  rw [bCk hp, bRd (by omega) (by omega), bCk (by omega), m_in' hp (by omega) (by omega), bClS, bZ01]
  congr 3; exact propext ⟨fun h => ⟨h.1, by omega⟩, fun h => ⟨h.1, by omega⟩⟩
theorem m_isNet (hk : bOk (σ 78)) {p : Int} (hp : on_RL p) : pf_X12_isNet p σ = some (if 0 ≤ p ∧ p < σ 78 4 then 1 else 0, σ) := by
  obtain ⟨h0, h1, h2, h3, h4, h5, h6, h7⟩ := hk.c
  unfold pf_X12_isNet
  rw [bRd (by omega) (by omega), bCk (by omega), m_in hp (by omega) (by omega), bClS, bZ01]
  congr 3; exact propext ⟨fun h => ⟨h.1, by omega⟩, fun h => ⟨h.1, by omega⟩⟩
theorem m_isJumper (hk : bOk (σ 78)) {p : Int} (hp : on_R p) : pf_X12_isJumper p σ = some (if 0 ≤ p ∧ p < σ 78 5 then 1 else 0, σ) := by
  obtain ⟨h0, h1, h2, h3, h4, h5, h6, h7⟩ := hk.c
  unfold pf_X12_isJumper
  rw [bCk hp, bRd (by omega) (by omega), bCk (by omega), m_in' hp (by omega) (by omega), bClS, bZ01]
  congr 3; exact propext ⟨fun h => ⟨h.1, by omega⟩, fun h => ⟨h.1, by omega⟩⟩
theorem m_isCorner {p : Int} (hp : on_R p) : pf_X12_isCorner p σ = some (if 0 ≤ p ∧ p < 4 then 1 else 0, σ) := by
  unfold pf_X12_isCorner
  rw [bCk hp, m_in' hp (by omega) (by omega), bClS, bZ01]
  congr 3; exact propext ⟨fun h => ⟨h.1, by omega⟩, fun h => ⟨h.1, by omega⟩⟩
theorem m_houseOf {p : Int} (h0 : 0 ≤ p) (h1 : p < 9) : pf_X12_houseOf p σ = some (bHouse (σ 78) p, σ) := by
  unfold pf_X12_houseOf; rw [bRd (by omega) (by omega)]; rfl
theorem m_storeyOf {p : Int} (h0 : 0 ≤ p) (h1 : p < 9) : pf_X12_storeyOf p σ = some (bStorey (σ 78) p, σ) := by
  unfold pf_X12_storeyOf; rw [bRd (by omega) (by omega)]; rfl
theorem m_ofMan {p q : Int} (h0 : 0 ≤ p) (h1 : p < 9) (h2 : 0 ≤ q) (h3 : q < 4) : pf_X12_ofMan p q σ = some (bMan (σ 78) p q, σ) := by
  unfold pf_X12_ofMan; rw [bRd (by omega) (by omega)]; rfl
theorem m_ofNet {p q : Int} (h0 : 0 ≤ p) (h1 : p < 2) (h2 : 0 ≤ q) (h3 : q < 7) : pf_X12_ofNet p q σ = some (bNet (σ 78) p q, σ) := by
  unfold pf_X12_ofNet; rw [bRd (by omega) (by omega)]; rfl
theorem m_quarrelOf {p q : Int} (h0 : 0 ≤ p) (h1 : p < 9) (h2 : 0 ≤ q) (h3 : q < 9) : pf_X12_quarrelOf p q σ = some (bQ (σ 78) p q, σ) := by
  unfold pf_X12_quarrelOf; rw [bRd (by omega) (by omega)]; rfl
theorem m_isFeud (hk : bOk (σ 78)) {p q : Int} (h0 : 0 ≤ p) (h1 : p < 4) (h2 : 0 ≤ q) (h3 : q < 4) : pf_X12_isFeud p q σ = some (bFd (σ 78) p q, σ) := by
  unfold pf_X12_isFeud; rw [bRd (by omega) (by omega)]
  rcases hk.f p q h0 h1 h2 h3 with h | h
  · rw [show σ 78 ((157 + (4 * p)) + q) = 0 from h, h]; rfl
  · rw [show σ 78 ((157 + (4 * p)) + q) = 1 from h, h]; rfl
theorem m_weightOf {p : Int} (h0 : 0 ≤ p) (h1 : p < 9) : pf_X12_weightOf p σ = some (bWt (σ 78) p, σ) := by
  unfold pf_X12_weightOf; rw [bRd (by omega) (by omega)]; rfl
theorem m_windowOf {p : Int} (h0 : 0 ≤ p) (h1 : p < 9) : pf_X12_windowOf p σ = some (bWin (σ 78) p, σ) := by
  unfold pf_X12_windowOf; rw [bRd (by omega) (by omega)]; rfl
theorem m_forceOf (hk : bOk (σ 78)) {p : Int} (h0 : 0 ≤ p) (h1 : p < σ 78 5) : pf_X12_forceOf p σ = some (bForce (σ 78) p, σ) := by
  obtain ⟨q0, q1, q2, q3, q4, q5, q6, q7⟩ := hk.c
  obtain ⟨j1, j2⟩ := hk.j p h0 h1
  unfold pf_X12_forceOf
  rw [bCl (m_weightOf h0 (by omega)), bCl (m_windowOf h0 (by omega)), bCl (m_storeyOf (by omega) (by omega))]; rfl
theorem m_netAt_L (hk : bOk (σ 78)) {x : Int} (hx : on_R x) : ∀ (r nf : Nat) (k : Int), 0 ≤ k → k + (r : Int) = σ 78 4 → r < nf → pf_X12_netAt_2 nf x k σ = some (bFst (fun n => decide (bNet (σ 78) n 0 = x)) r k, σ) := by
  obtain ⟨q0, q1, q2, q3, q4, q5, q6, q7⟩ := hk.c
  intro r
  induction r with
  | zero =>
    intro nf k k0 hk1 hn
    cases nf with
    | zero => omega
    | succ nf => rw [pf_X12_netAt_2, bRd (by omega) (by omega), bLtF (by omega) (by omega) (by omega)]; rfl
  | succ r ih =>
    intro nf k k0 hk1 hn
    cases nf with
    | zero => omega
    | succ nf =>
      have hw := (hk.n k k0 (by omega)).1
      rw [pf_X12_netAt_2, bRd (by omega) (by omega), bLtT (by omega) (by omega) (by omega), bCl (m_ofNet k0 (by omega) (by omega) (by omega)), bFst]
      by_cases e : bNet (σ 78) k 0 = x
      · rw [bEqT (by omega) e]; simp [e]
      · rw [bEqF (by omega) hx e, ih nf (k + 1) (by omega) (by omega) (by omega)]; simp [e]
theorem m_netAt (hk : bOk (σ 78)) {x : Int} (hx : on_R x) : pf_X12_netAt x σ = some (bNetAt (σ 78) x, σ) := by
  obtain ⟨q0, q1, q2, q3, q4, q5, q6, q7⟩ := hk.c
  unfold pf_X12_netAt
  exact m_netAt_L hk hx (σ 78 4).toNat on_N 0 (by omega) (by omega) (by unfold on_N; omega)
theorem m_manAt_L (hk : bOk (σ 78)) {x y : Int} (hx : on_R x) (hy : on_R y) : ∀ (r nf : Nat) (k : Int), 0 ≤ k → k + (r : Int) = σ 78 3 → r < nf → pf_X12_manAt_2 nf x y k σ = some (bFst (fun m => decide (bMan (σ 78) m 2 = x ∧ bMan (σ 78) m 3 = y)) r k, σ) := by
  obtain ⟨q0, q1, q2, q3, q4, q5, q6, q7⟩ := hk.c
  intro r
  induction r with
  | zero =>
    intro nf k k0 hk1 hn
    cases nf with
    | zero => omega
    | succ nf => rw [pf_X12_manAt_2, bRd (by omega) (by omega), bLtF (by omega) (by omega) (by omega)]; rfl
  | succ r ih =>
    intro nf k k0 hk1 hn
    cases nf with
    | zero => omega
    | succ nf =>
      have hw := (hk.m k k0 (by omega)).2.2
      rw [pf_X12_manAt_2, bRd (by omega) (by omega), bLtT (by omega) (by omega) (by omega), bCl (m_ofMan k0 (by omega) (by omega) (by omega)), bFst]
      by_cases e : bMan (σ 78) k 2 = x
      · rw [bEqT (by omega) e, bCl (m_ofMan k0 (by omega) (by omega) (by omega))]
        by_cases e2 : bMan (σ 78) k 3 = y
        · rw [bEqT (by omega) e2]; simp [e, e2]
        · rw [bEqF (by omega) hy e2, ih nf (k + 1) (by omega) (by omega) (by omega)]; simp [e2]
      · rw [bEqF (by omega) hx e, ih nf (k + 1) (by omega) (by omega) (by omega)]; simp [e]
theorem m_manAt (hk : bOk (σ 78)) {x y : Int} (hx : on_R x) (hy : on_R y) : pf_X12_manAt x y σ = some (bManAt (σ 78) x y, σ) := by
  obtain ⟨q0, q1, q2, q3, q4, q5, q6, q7⟩ := hk.c
  unfold pf_X12_manAt
  exact m_manAt_L hk hx hy (σ 78 3).toNat on_N 0 (by omega) (by omega) (by unfold on_N; omega)
end M31
/-- the greatest force of those who jump from a window -/
def bNeedR (w : bW) (x : Int) : Nat → Int → Int → Int
  | 0, _, a => a
  | r + 1, k, a => bNeedR w x r (k + 1) (if bWin w k = x then max a (bForce w k) else a)
def bNeed (w : bW) (n : Int) : Int := bNeedR w (bNet w n 0) (w 5).toNat 0 0
theorem bForce_b {w : bW} (hk : bOk w) {j : Int} (h0 : 0 ≤ j) (h1 : j < w 5) : 1 ≤ bForce w j ∧ bForce w j ≤ 594 := by
  obtain ⟨j1, j2⟩ := hk.j j h0 h1
  obtain ⟨w1, w2⟩ := hk.wi _ j2.1 j2.2
  unfold bForce
  generalize bWt w j = a at *
  generalize bStorey w (bWin w j) = b at *
  constructor
  · have := Int.mul_le_mul j1.1 w2.1 (by omega) (by omega)
    omega
  · have := Int.mul_le_mul j1.2 w2.2 (by omega) (by omega)
    omega
theorem bNeedR_b {w : bW} (hk : bOk w) {x : Int} : ∀ (r : Nat) (k a : Int), 0 ≤ k → k + (r : Int) = w 5 → 0 ≤ a → a ≤ 594 → 0 ≤ bNeedR w x r k a ∧ bNeedR w x r k a ≤ 594 := by
  intro r
  induction r with
  | zero => intro k a _ _ h0 h1; exact ⟨h0, h1⟩
  | succ r ih =>
    intro k a k0 hk1 h0 h1
    rw [bNeedR]
    have hf := bForce_b hk k0 (by omega)
    split
    · exact ih (k + 1) _ (by omega) (by omega) (by omega) (by omega)
    · exact ih (k + 1) _ (by omega) (by omega) h0 h1
theorem bNeed_b {w : bW} (hk : bOk w) (n : Int) : 0 ≤ bNeed w n ∧ bNeed w n ≤ 594 := by
  obtain ⟨q0, q1, q2, q3, q4, q5, q6, q7⟩ := hk.c
  exact bNeedR_b hk _ _ _ (by omega) (by omega) (by omega) (by omega)
theorem m_needOf_L {σ : on_S} (hk : bOk (σ 78)) {n : Int} (n0 : 0 ≤ n) (n1 : n < σ 78 4) : ∀ (r nf : Nat) (k a : Int), 0 ≤ k → k + (r : Int) = σ 78 5 → r < nf → 0 ≤ a → a ≤ 594 → pf_X12_needOf_4 nf n a k σ = some (bNeedR (σ 78) (bNet (σ 78) n 0) r k a, σ) := by
  obtain ⟨q0, q1, q2, q3, q4, q5, q6, q7⟩ := hk.c
  have hw := (hk.n n n0 n1).1
  intro r
  induction r with
  | zero =>
    intro nf k a k0 hk1 hn a0 a1
    cases nf with
    | zero => omega
    | succ nf => rw [pf_X12_needOf_4, bRd (by omega) (by omega), bLtF (by omega) (by omega) (by omega)]; rfl
  | succ r ih =>
    intro nf k a k0 hk1 hn a0 a1
    cases nf with
    | zero => omega
    | succ nf =>
      have hj := (hk.j k k0 (by omega)).2
      have hf := bForce_b hk k0 (by omega)
      rw [pf_X12_needOf_4, bRd (by omega) (by omega), bLtT (by omega) (by omega) (by omega), bCl (m_windowOf k0 (by omega)), bCl (m_ofNet n0 (by omega) (by omega) (by omega)), bNeedR]
      by_cases e : bWin (σ 78) k = bNet (σ 78) n 0
      · rw [bEqT (by omega) e, bCl (m_forceOf hk k0 (by omega)), bMx (by omega) (by omega), ih nf (k + 1) _ (by omega) (by omega) (by omega) (by omega) (by omega), if_pos e]
      · rw [bEqF (by omega) (by omega) e, ih nf (k + 1) _ (by omega) (by omega) (by omega) a0 a1, if_neg e]
theorem m_needOf {σ : on_S} (hk : bOk (σ 78)) {n : Int} (n0 : 0 ≤ n) (n1 : n < σ 78 4) : pf_X12_needOf n σ = some (bNeed (σ 78) n, σ) := by
  obtain ⟨q0, q1, q2, q3, q4, q5, q6, q7⟩ := hk.c
  unfold pf_X12_needOf
  exact m_needOf_L hk n0 n1 (σ 78 5).toNat on_N 0 0 (by omega) (by omega) (by unfold on_N; omega) (by omega) (by omega)
section C31
variable {b : Nat} {w : bW} {σ : on_S}
theorem c_hasNet (hk : bOk w) (hR : bRp b w σ) {p : Int} (hp : on_R p) : pf_X9_hasNet b p σ = some (if 0 ≤ p ∧ p < w 4 then 1 else 0, σ) := by
  obtain ⟨q0, q1, q2, q3, q4, q5, q6, q7⟩ := hk.c
  obtain ⟨r0, r1, r2, r3, r4, r5, r6, r7⟩ := hR.c
  unfold pf_X9_hasNet pf_X9_hasNet_19
  by_cases h : p < 0
  · rw [bLtT hp (by omega) h, if_neg (by omega)]
  · rw [bLtF hp (by omega) (by omega), bGt, r6]
    by_cases h2 : p < w 4
    · rw [bLtT hp (by omega) h2, if_pos ⟨by omega, h2⟩]
    · rw [bLtF hp (by omega) (by omega), if_neg (by omega)]
theorem c_forceOf (hk : bOk w) (hR : bRp b w σ) {p : Int} (h0 : 0 ≤ p) (h1 : p < w 5) : pf_X9_forceOf b p σ = some (bForce w p, σ) := by
  obtain ⟨q0, q1, q2, q3, q4, q5, q6, q7⟩ := hk.c
  obtain ⟨j1, j2⟩ := hk.j p h0 h1
  obtain ⟨e1, e2⟩ := hR.j p h0 h1
  obtain ⟨g1, g2, g3⟩ := hR.wi _ j2.1 j2.2
  unfold pf_X9_forceOf
  rw [bRd h0 (by omega), bRd h0 (by omega), e1, e2, bRd (by omega) (by omega), g2]; rfl
theorem c_needOf_L (hk : bOk w) (hR : bRp b w σ) {n : Int} (n0 : 0 ≤ n) (n1 : n < w 4) : ∀ (r nf : Nat) (k a : Int), 0 ≤ k → k + (r : Int) = w 5 → r < nf → 0 ≤ a → a ≤ 594 → pf_X9_needOf_4 b nf n a k σ = some (bNeedR w (bNet w n 0) r k a, σ) := by
  obtain ⟨q0, q1, q2, q3, q4, q5, q6, q7⟩ := hk.c
  obtain ⟨r0, r1, r2, r3, r4, r5, r6, r7⟩ := hR.c
  have hw := (hk.n n n0 n1).1
  obtain ⟨u1, u2, u3, u4⟩ := hR.n n n0 n1
  intro r
  induction r with
  | zero =>
    intro nf k a k0 hk1 hn a0 a1
    cases nf with
    | zero => omega
    | succ nf => rw [pf_X9_needOf_4, bGt, r4, bLtF (by omega) (by omega) (by omega)]; rfl
  | succ r ih =>
    intro nf k a k0 hk1 hn a0 a1
    cases nf with
    | zero => omega
    | succ nf =>
      have hj := (hk.j k k0 (by omega)).2
      have hf := bForce_b hk k0 (by omega)
      obtain ⟨e1, e2⟩ := hR.j k k0 (by omega)
      rw [pf_X9_needOf_4, bGt, r4, bLtT (by omega) (by omega) (by omega), bRd k0 (by omega), bRd n0 (by omega), e2, u1, bNeedR]
      by_cases e : bWin w k = bNet w n 0
      · rw [bEqT (by omega) e, bCl (c_forceOf hk hR k0 (by omega)), bMx (by omega) (by omega), ih nf (k + 1) _ (by omega) (by omega) (by omega) (by omega) (by omega), if_pos e]
      · rw [bEqF (by omega) (by omega) e, ih nf (k + 1) _ (by omega) (by omega) (by omega) a0 a1, if_neg e]
theorem c_needOf (hk : bOk w) (hR : bRp b w σ) {n : Int} (n0 : 0 ≤ n) (n1 : n < w 4) : pf_X9_needOf b n σ = some (bNeed w n, σ) := by
  obtain ⟨q0, q1, q2, q3, q4, q5, q6, q7⟩ := hk.c
  unfold pf_X9_needOf
  exact c_needOf_L hk hR n0 n1 (w 5).toNat on_N 0 0 (by omega) (by omega) (by unfold on_N; omega) (by omega) (by omega)
end C31
