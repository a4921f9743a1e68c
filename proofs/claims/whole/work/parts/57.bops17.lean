/-! B: best, post, where -/
section O57
variable {n : Nat} {σ : on_S} {p q : Int} {w : bW}
theorem c_standing (hk : bOk w) (hR : bRp 2 w σ) (hp : on_R p) : pf_X11_standingRefused p σ = some (if 0 ≤ p ∧ p < w 4 then (if w 3 < 4 then -6 else 0) else -2, σ) := by
  have hm := hk.c.2.2.2.1
  have e3 : σ (2 + 8) 0 = w 3 := hR.c.2.2.2.2.2.1
  unfold pf_X11_standingRefused
  rw [bCl (c_hasNet hk hR hp), bE01]
  split
  · rw [bGt, e3]
    by_cases h : w 3 < 4
    · rw [bLtT (by omega) (by omega) h, if_pos h]
    · rw [bLtF (by omega) (by omega) (by omega), if_neg h]
  · rfl
theorem m_asksFour (hk : bOk (σ 78)) {v : Int} (hv : on_R v) : pf_X12_asksFour v σ = some (if v = 0 then -2 else if σ 78 3 < 4 then -6 else 0, σ) := by
  have hm := hk.c.2.2.2.1
  unfold pf_X12_asksFour
  by_cases h : v = 0
  · rw [bEqT hv h, if_pos h]
  · rw [bEqF hv (by omega) h, if_neg h, bRd (by omega) (by omega)]
    by_cases g : σ 78 3 < 4
    · rw [bLtT (by omega) (by omega) g, if_pos g]
    · rw [bLtF (by omega) (by omega) (by omega), if_neg g]
/-- what is the most, at a window, in both -/
def bMo (w : bW) (n x : Int) : Int := bBest (bCv w n x) (bTabl (w 3)) (-1)
theorem bMo_b (hk : bOk w) (h4 : 4 ≤ w 3) {n x : Int} (n0 : 0 ≤ n) (n1 : n < w 4) : 0 ≤ bMo w n x ∧ bMo w n x ≤ 396 := by
  have hm := hk.c.2.2.2.1
  have x1 := (bBest_ge (f := bCv w n x) (bTabl (w 3)) (-1)).2 _ (bTabl_0123 h4 hm.2)
  have x2 := bCv_b hk (x := x) n0 n1 (0, 1, 2, 3)
  have up : ∀ (L : List bQd) (b : Int), b ≤ 396 → bBest (bCv w n x) L b ≤ 396 := by
    intro L
    induction L with
    | nil => intro b h; exact h
    | cons a L ih => intro b h; rw [bBest]; have := bCv_b hk (x := x) n0 n1 a; exact ih _ (by omega)
  have := up (bTabl (w 3)) (-1) (by omega)
  unfold bMo; omega
theorem c_most (hk : bOk w) (hR : bRp 2 w σ) (hO : bRo σ) (h4 : 4 ≤ w 3) {n x : Int} (n0 : 0 ≤ n) (n1 : n < w 4) (x0 : 0 ≤ x) (x1 : x < w 2) (q0 : bQd) : ∃ (i : Nat) (σ1 σ2 : on_S), pf_X7_prepare n x σ = some (0, σ1) ∧ pf_X7_firstBest σ1 = some (bRow i, σ2) ∧ i < 378 ∧ σ2 55 5 = bMo w n x ∧ bArg (bCv w n x) (bTabl (w 3)) (-1) q0 = bDec (on_rowsT.getD i 0) ∧ ∀ c, c ≠ 55 → c ≠ 57 → σ2 c = σ c := by
  obtain ⟨σ1, a1, a2, a3⟩ := c_prepare hk hR n0 n1 x0 x1
  have R1 : bRp 2 w σ1 := hR.to fun j hj => a2 _ (by omega) (by omega)
  have O1 : bRo σ1 := fun i hi => by rw [a2 56 (by omega) (by omega)]; exact hO i hi
  obtain ⟨i, σ2, b1, b2, b3, b4, b5⟩ := c_firstBest hk R1 n0 n1 a3 O1 h4 q0
  exact ⟨i, σ1, σ2, a1, b1, b2, b5, b4, fun c c5 c7 => by rw [b3 c c5, a2 c c5 c7]⟩
theorem m_most (hk : bOk w) (hw : σ 78 = w) (h4 : 4 ≤ w 3) {n : Int} (n0 : 0 ≤ n) (n1 : n < w 4) : ∃ σ' : on_S, pf_X12_most n σ = some (bMo w n (bNet w n 0), σ') ∧ bS σ σ' ∧ bRw σ' 86 = bArg (bCv w n (bNet w n 0)) (bTabl (w 3)) (-1) (bRw σ 86) := by
  have q4 := hk.c.2.2.2.2.1
  have hx := (hk.n n n0 n1).1
  obtain ⟨σ', a1, a2, a3⟩ := m_mostBy (σ := σ) hk hw n0 n1 hx.1 hx.2 15
  obtain ⟨e1, e2⟩ := bBoth hk (x := bNet w n 0) n0 n1 h4 (bRw σ 86)
  rw [e1] at a1
  rw [e2] at a3
  refine ⟨σ', ?_, a2, a3⟩
  unfold pf_X12_most pf_X12_allHouses
  rw [bCl (m_ofNet n0 (by omega) (by omega) (by omega)), hw]
  rw [bCl (show (some (15, σ) : Option on_O) = some (15, σ) from rfl), bCl a1]; rfl
theorem o_best (hI : bI n σ) (hp : on_R p) : bOp n σ (pf_X11_best p) (pf_X12_best p) := by
  have q4 := hI.k.c.2.2.2.2.1
  by_cases h : 0 ≤ p ∧ p < σ 78 4
  · by_cases h4 : σ 78 3 < 4
    · refine bOp.no (r := -6) hI (by omega) ?_ ?_
      · unfold pf_X11_best
        rw [bCl (c_standing hI.k hI.r hp), if_pos h, if_pos h4, bEqF (by omega) (by omega) (by omega)]
      · unfold pf_X12_best
        rw [bCk hp, bCl (m_isNet hI.k (by omega)), if_pos h, bCl (m_asksFour hI.k (by omega)), if_neg (by omega), if_pos h4, bLtT (by omega) (by omega) (by omega)]
    · have hx := (hI.k.n p h.1 h.2).1
      obtain ⟨i, σ1, σ2, a1, a2, a3, a4, a5, a6⟩ := c_most hI.k hI.r hI.o (by omega) h.1 h.2 hx.1 hx.2 (0, 0, 0, 0)
      have i2 : bI n σ2 := hI.idle fun c hc => a6 c (by omega) (by omega)
      have w2 : σ2 78 = σ 78 := a6 78 (by omega) (by omega)
      obtain ⟨σ3, b1, b2, -⟩ := m_most (σ := σ2) hI.k w2 (by omega) h.1 h.2
      have mb := bMo_b hI.k (by omega) (x := bNet (σ 78) p 0) h.1 h.2
      refine ⟨bMo (σ 78) p (bNet (σ 78) p 0), σ2, σ3, ?_, ?_, by omega, b2.inv i2⟩
      · unfold pf_X11_best pf_X7_mostCarried
        rw [bCl (c_standing hI.k hI.r hp), if_pos h, if_neg h4, bEqT (by omega) rfl, bRd h.1 (by omega), (hI.r.n p h.1 h.2).1, bCl a1, bCl (show on_Cl (pf_X7_firstBest σ1) (fun v1 σ2 => on_Gt σ2 55 5 fun v3 => some (v3, σ2)) = some (bMo (σ 78) p (bNet (σ 78) p 0), σ2) by rw [bCl a2, bGt, a4])]
      · unfold pf_X12_best
        rw [bCk hp, bCl (m_isNet i2.k (by omega)), w2, if_pos h, bCl (m_asksFour i2.k (by omega)), w2, if_neg (by omega), if_neg h4, bLtF (by omega) (by omega) (by omega), bCl b1]
  · refine bOp.no (r := -2) hI (by omega) ?_ ?_
    · unfold pf_X11_best
      rw [bCl (c_standing hI.k hI.r hp), if_neg h, bEqF (by omega) (by omega) (by omega)]
    · unfold pf_X12_best
      rw [bCk hp, bCl (m_isNet hI.k (by omega)), if_neg h, bCl (m_asksFour hI.k (by omega)), if_pos rfl, bLtT (by omega) (by omega) (by omega)]
theorem o_post (hI : bI n σ) (hp : on_R p) (hq : on_R q) : bOp n σ (pf_X11_post p q) (pf_X12_post p q) := by
  have q4 := hI.k.c.2.2.2.2.1
  have no : ∀ σ', σ' = σ → pf_X12_post_22 p q 0 σ' = some (-2, σ') := fun σ' e => by
    subst e
    unfold pf_X12_post_22
    rw [bCl (m_asksFour hI.k (by omega)), if_pos rfl, bLtT (by omega) (by omega) (by omega)]
  by_cases h : 0 ≤ p ∧ p < σ 78 4
  · by_cases g : 0 ≤ q ∧ q < 4
    · by_cases h4 : σ 78 3 < 4
      · refine bOp.no (r := -6) hI (by omega) ?_ ?_
        · unfold pf_X11_post
          rw [bCl (c_hasCorner hI.k hI.r hp hq), bE01, if_pos ⟨h, g⟩, bCl (c_standing hI.k hI.r hp), if_pos h, if_pos h4, bEqF (by omega) (by omega) (by omega)]
        · unfold pf_X12_post pf_X12_post_22
          rw [bCk hp, bCl (m_isNet hI.k (by omega)), bE01, if_pos h, bCl (m_isCorner hq), bE01, if_pos g, bCl (m_asksFour hI.k (by omega)), if_neg (by omega), if_pos h4, bLtT (by omega) (by omega) (by omega)]
      · have hx := (hI.k.n p h.1 h.2).1
        obtain ⟨i, σ1, σ2, a1, a2, a3, a4, a5, a6⟩ := c_most hI.k hI.r hI.o (by omega) h.1 h.2 hx.1 hx.2 (bRw σ 86)
        have i2 : bI n σ2 := hI.idle fun c hc => a6 c (by omega) (by omega)
        have w2 : σ2 78 = σ 78 := a6 78 (by omega) (by omega)
        obtain ⟨σ3, b1, b2, b3⟩ := m_most (σ := σ2) hI.k w2 (by omega) h.1 h.2
        have mb := bMo_b hI.k (by omega) (x := bNet (σ 78) p 0) h.1 h.2
        have e86 : bRw σ2 86 = bRw σ 86 := by unfold bRw; rw [a6 86 (by omega) (by omega)]
        rw [e86, a5] at b3
        have v86 : σ3 86 q = bQp (bDec (on_rowsT.getD i 0)) q := by
          rw [← b3]
          have d : q = 0 ∨ q = 1 ∨ q = 2 ∨ q = 3 := by omega
          rcases d with d | d | d | d <;> subst d <;> rfl
        have rq : on_R (bQp (bDec (on_rowsT.getD i 0)) q) := by
          have e := bRows_dec i a3
          rw [e]
          have d : q = 0 ∨ q = 1 ∨ q = 2 ∨ q = 3 := by omega
          rcases d with d | d | d | d <;> subst d <;> exact on_and_R _ _
        refine ⟨bQp (bDec (on_rowsT.getD i 0)) q, σ2, σ3, ?_, ?_, rq, b2.inv i2⟩
        · unfold pf_X11_post
          rw [bCl (c_hasCorner hI.k hI.r hp hq), bE01, if_pos ⟨h, g⟩, bCl (c_standing hI.k hI.r hp), if_pos h, if_neg h4, bEqT (by omega) rfl, bRd h.1 (by omega), (hI.r.n p h.1 h.2).1, bCl a1, bCl a2, bCl (c_manOf a3 g.1 g.2)]
        · unfold pf_X12_post pf_X12_post_22
          rw [bCk hp, bCl (m_isNet i2.k (by omega)), bE01, w2, if_pos h, bCl (m_isCorner hq), bE01, if_pos g, bCl (m_asksFour i2.k (by omega)), w2, if_neg (by omega), if_neg h4, bLtF (by omega) (by omega) (by omega), bCl b1, bRd (by omega) (by omega), v86]
    · refine bOp.no (r := -2) hI (by omega) ?_ ?_
      · unfold pf_X11_post
        rw [bCl (c_hasCorner hI.k hI.r hp hq), bE01, if_neg (fun t => g t.2)]
      · unfold pf_X12_post pf_X12_post_21
        rw [bCk hp, bCl (m_isNet hI.k (by omega)), bE01, if_pos h, bCl (m_isCorner hq), bE01, if_neg g]
        exact no σ rfl
  · refine bOp.no (r := -2) hI (by omega) ?_ ?_
    · unfold pf_X11_post
      rw [bCl (c_hasCorner hI.k hI.r hp hq), bE01, if_neg (fun t => h t.1)]
    · unfold pf_X12_post pf_X12_post_21
      rw [bCk hp, bCl (m_isNet hI.k (by omega)), bE01, if_neg h]
      exact no σ rfl
/-- how many jumpers at a window fall no harder than a number -/
def bHc (w : bW) (x v : Int) : Nat → Int → Int → Int
  | 0, _, a => a
  | r + 1, k, a => bHc w x v r (k + 1) (if bWin w k = x ∧ bForce w k ≤ v then a + 1 else a)
theorem bHc_b (w : bW) (x v : Int) : ∀ (r : Nat) (k a : Int), a ≤ bHc w x v r k a ∧ bHc w x v r k a ≤ a + (r : Int) := by
  intro r
  induction r with
  | zero => intro k a; rw [bHc]; omega
  | succ r ih =>
    intro k a
    rw [bHc]
    have := ih (k + 1) (if bWin w k = x ∧ bForce w k ≤ v then a + 1 else a)
    split at this
    · rename_i h; rw [if_pos h]; omega
    · rename_i h; rw [if_neg h]; omega
abbrev bHj (w : bW) (x v : Int) : Int := bHc w x v (w 5).toNat 0 0
theorem c_jumpersHeldAt (hk : bOk w) (hR : bRp 2 w σ) {x v : Int} (hx : on_R x) (hv : on_R v) : pf_X9_jumpersHeldAt 2 x v σ = some (bHj w x v, σ) := by
  obtain ⟨q0, q1, q2, q3, q4, q5, q6, q7⟩ := hk.c
  have e7 : σ 2 7 = w 5 := hR.c.2.2.2.2.1
  have L : ∀ (r nf : Nat) (k a : Int), 0 ≤ k → k + (r : Int) = w 5 → r < nf → on_R x → pf_X9_jumpersHeldAt_5 2 nf x v a k σ = some (bHc w x v r k a, σ) := by
    intro r
    induction r with
    | zero =>
      intro nf k a k0 hk' hnf _
      cases nf with
      | zero => omega
      | succ nf => rw [pf_X9_jumpersHeldAt_5, bGt, e7, bLtF (by omega) (by omega) (by omega)]; rfl
    | succ r ih =>
      intro nf k a k0 hk' hnf hx
      cases nf with
      | zero => omega
      | succ nf =>
        have fb := bForce_b hk k0 (show k < w 5 by omega)
        have wb := (hk.j k k0 (by omega)).2
        rw [pf_X9_jumpersHeldAt_5, bGt, e7, bLtT (by omega) (by omega) (by omega), bRd k0 (by omega), (hR.j k k0 (by omega)).2, bHc]
        by_cases e : bWin w k = x
        · rw [bEqT (by omega) e, bCl (c_forceOf hk hR k0 (by omega))]
          by_cases f : bForce w k ≤ v
          · rw [bLeT (by omega) hv f, if_pos ⟨e, f⟩]
            exact ih nf (k + 1) _ (by omega) (by omega) (by omega) hx
          · rw [bLeF (by omega) hv (by omega), if_neg (fun t => f t.2)]
            exact ih nf (k + 1) _ (by omega) (by omega) (by omega) hx
        · rw [bEqF (by omega) hx e, if_neg (fun t => e t.1)]
          exact ih nf (k + 1) _ (by omega) (by omega) (by omega) hx
  exact L (w 5).toNat on_N 0 0 (by omega) (by omega) (by unfold on_N; omega) hx
theorem m_heldAt (hk : bOk w) (hw : σ 78 = w) (h4 : 4 ≤ w 3) {n x : Int} (n0 : 0 ≤ n) (n1 : n < w 4) (x0 : 0 ≤ x) (x1 : x < w 2) : ∃ σ' : on_S, pf_X12_heldAt n x σ = some (bHj w x (bMo w n x), σ') ∧ bS σ σ' := by
  obtain ⟨q0, q1, q2, q3, q4, q5, q6, q7⟩ := hk.c
  obtain ⟨σ', a1, a2, a3⟩ := m_mostBy (σ := σ) hk hw n0 n1 x0 x1 15
  obtain ⟨e1, e2⟩ := bBoth hk (x := x) n0 n1 h4 (bRw σ 86)
  rw [e1] at a1
  have w1 : σ' 78 = w := by rw [a2.w, hw]
  have mb := bMo_b hk h4 (x := x) n0 n1
  have L : ∀ (r nf : Nat) (k a : Int), 0 ≤ k → k + (r : Int) = w 5 → r < nf → pf_X12_heldAt_17 nf x (bMo w n x) a k σ' = some (bHc w x (bMo w n x) r k a, σ') := by
    intro r
    induction r with
    | zero =>
      intro nf k a k0 hk' hnf
      cases nf with
      | zero => omega
      | succ nf => rw [pf_X12_heldAt_17, bRd (by omega) (by omega), w1, bLtF (by omega) (by omega) (by omega)]; rfl
    | succ r ih =>
      intro nf k a k0 hk' hnf
      cases nf with
      | zero => omega
      | succ nf =>
        have fb := bForce_b hk k0 (show k < w 5 by omega)
        have wb := (hk.j k k0 (by omega)).2
        have z : ∀ s : Int, pf_X12_heldAt_54 (pf_X12_heldAt_17 nf) x (bMo w n x) k s σ' = pf_X12_heldAt_17 nf x (bMo w n x) s (k + 1) σ' := fun s => by
          unfold pf_X12_heldAt_54; rw [show s + 0 = s by omega]
        rw [pf_X12_heldAt_17, bRd (by omega) (by omega), w1, bLtT (by omega) (by omega) (by omega), bCl (m_windowOf k0 (by omega)), w1, bHc]
        by_cases e : bWin w k = x
        · rw [bEqT (by omega) e, bCl (m_forceOf (by rw [w1]; exact hk) k0 (by rw [w1]; omega)), w1]
          by_cases f : bForce w k ≤ bMo w n x
          · rw [bLeT (by omega) (by omega) f, if_pos ⟨e, f⟩]
            exact ih nf (k + 1) _ (by omega) (by omega) (by omega)
          · rw [bLeF (by omega) (by omega) (by omega), if_neg (fun t => f t.2), z]
            exact ih nf (k + 1) _ (by omega) (by omega) (by omega)
        · rw [bEqF (by omega) (by omega) e, if_neg (fun t => e t.1), z]
          exact ih nf (k + 1) _ (by omega) (by omega) (by omega)
  refine ⟨σ', ?_, a2⟩
  unfold pf_X12_heldAt pf_X12_allHouses
  rw [bCl (show (some (15, σ) : Option on_O) = some (15, σ) from rfl), bCl a1]
  exact L (w 5).toNat on_N 0 0 (by omega) (by omega) (by unfold on_N; omega)
/-- where a net would do the most -/
def bWh (w : bW) (n t : Int) : Nat → Int → Int → Int → Int
  | 0, _, l, h => if t = 0 then l else h
  | r + 1, k, l, h => if bNetAt w k = -1 ∨ bNetAt w k = n then (if bHj w k (bMo w n k) ≤ h then bWh w n t r (k + 1) l h else bWh w n t r (k + 1) k (bHj w k (bMo w n k))) else bWh w n t r (k + 1) l h
theorem bWh_b (hk : bOk w) (n t : Int) : ∀ (r : Nat) (k l h : Int), 0 ≤ k → (-1 ≤ l ∧ l ≤ 100) → (-1 ≤ h ∧ h ≤ 100) → k + (r : Int) ≤ 9 → -1 ≤ bWh w n t r k l h ∧ bWh w n t r k l h ≤ 100 := by
  have q5 := hk.c.2.2.2.2.2.1
  intro r
  induction r with
  | zero => intro k l h _ hl hh _; rw [bWh]; split <;> omega
  | succ r ih =>
    intro k l h k0 hl hh hr
    have hb := bHc_b w k (bMo w n k) (w 5).toNat 0 0
    have hb' : 0 ≤ bHj w k (bMo w n k) ∧ bHj w k (bMo w n k) ≤ 9 := by unfold bHj; omega
    rw [bWh]
    split
    · split
      · exact ih _ _ _ (by omega) hl hh (by omega)
      · exact ih _ _ _ (by omega) (by omega) (by omega) (by omega)
    · exact ih _ _ _ (by omega) hl hh (by omega)
theorem o_where (hI : bI n σ) (hp : on_R p) (hq : on_R q) : bOp n σ (pf_X11_where p q) (pf_X12_where p q) := by
  obtain ⟨q0, q1, q2, q3, q4, q5, q6, q7⟩ := hI.k.c
  have no : pf_X12_where_25 p q 0 σ = some (-2, σ) := by
    unfold pf_X12_where_25
    rw [bCl (m_asksFour hI.k (by omega)), if_pos rfl, bLtT (by omega) (by omega) (by omega)]
  have no4 : σ 78 3 < 4 → pf_X12_where_25 p q 1 σ = some (-6, σ) := fun h4 => by
    unfold pf_X12_where_25
    rw [bCl (m_asksFour hI.k (by omega)), if_neg (by omega), if_pos h4, bLtT (by omega) (by omega) (by omega)]
  by_cases g : 0 ≤ q ∧ q ≤ 1
  · by_cases h : 0 ≤ p ∧ p < σ 78 4
    · by_cases h4 : σ 78 3 < 4
      · refine bOp.no (r := -6) hI (by omega) ?_ ?_
        · unfold pf_X11_where
          rw [bLtF hq (by omega) (by omega), bLeT hq (by omega) g.2, bCl (c_standing hI.k hI.r hp), if_pos h, if_pos h4, bEqF (by omega) (by omega) (by omega)]
        · unfold pf_X12_where
          rw [bCk hp, bCl (m_isNet hI.k (by omega)), bE01, if_pos h, bCk hq, bCl (m_in' hq (by omega) (by omega)), bE01, if_pos g]
          exact no4 h4
      · have C : ∀ (r nf : Nat) (k l hh : Int) (σ' : on_S), 0 ≤ k → k + (r : Int) = σ 78 2 → r < nf → (-1 ≤ hh ∧ hh ≤ 100) → (∀ c, c ≠ 55 → c ≠ 57 → σ' c = σ c) → ∃ σ'' : on_S, pf_X11_where_33 nf p q l hh k σ' = some (bWh (σ 78) p q r k l hh, σ'') ∧ ∀ c, c ≠ 55 → c ≠ 57 → σ'' c = σ c := by
          intro r
          induction r with
          | zero =>
            intro nf k l hh σ' k0 hk' hnf hb h1
            have R1 : bRp 2 (σ 78) σ' := hI.r.to fun j hj => h1 _ (by omega) (by omega)
            cases nf with
            | zero => omega
            | succ nf =>
              refine ⟨σ', ?_, h1⟩
              rw [pf_X11_where_33, bGt, R1.c.2.2.2.1, bLtF (by omega) (by omega) (by omega), bWh]
              by_cases e : q = 0
              · rw [bEqT (by omega) e, if_pos e]
              · rw [bEqF (by omega) (by omega) e, if_neg e]
          | succ r ih =>
            intro nf k l hh σ' k0 hk' hnf hb h1
            have R1 : bRp 2 (σ 78) σ' := hI.r.to fun j hj => h1 _ (by omega) (by omega)
            have O1 : bRo σ' := fun i hi => by rw [h1 56 (by omega) (by omega)]; exact hI.o i hi
            cases nf with
            | zero => omega
            | succ nf =>
              have nb := bNetAt_b hI.k.c k
              have oth : pf_X9_hasOtherNet 2 k p σ' = some (if bNetAt (σ 78) k = -1 ∨ bNetAt (σ 78) k = p then 0 else 1, σ') := by
                unfold pf_X9_hasOtherNet pf_X9_hasOtherNet_24
                rw [bRd k0 (by omega), (R1.wi k k0 (by omega)).2.2]
                by_cases e : bNetAt (σ 78) k = -1
                · rw [bEqT (by omega) e, if_pos (Or.inl e)]
                · rw [bEqF (by omega) (by omega) e, bRd k0 (by omega), (R1.wi k k0 (by omega)).2.2]
                  by_cases f : bNetAt (σ 78) k = p
                  · rw [bEqT (by omega) f, if_pos (Or.inr f)]
                  · rw [bEqF (by omega) (by omega) f, if_neg (fun t => t.elim e f)]
              rw [pf_X11_where_33, bGt, R1.c.2.2.2.1, bLtT (by omega) (by omega) (by omega), bCl oth, bWh]
              by_cases e : bNetAt (σ 78) k = -1 ∨ bNetAt (σ 78) k = p
              · obtain ⟨i, σ1, σ2, a1, a2, a3, a4, -, a6⟩ := c_most hI.k R1 O1 (by omega) h.1 h.2 k0 (show k < σ 78 2 by omega) (0, 0, 0, 0)
                have f2 : ∀ c, c ≠ 55 → c ≠ 57 → σ2 c = σ c := fun c c5 c7 => by rw [a6 c c5 c7]; exact h1 c c5 c7
                have R2 : bRp 2 (σ 78) σ2 := hI.r.to fun j hj => f2 _ (by omega) (by omega)
                have mb := bMo_b hI.k (by omega) (x := k) h.1 h.2
                have jb := bHc_b (σ 78) k (bMo (σ 78) p k) (σ 78 5).toNat 0 0
                have jb' : 0 ≤ bHj (σ 78) k (bMo (σ 78) p k) ∧ bHj (σ 78) k (bMo (σ 78) p k) ≤ 9 := by unfold bHj; omega
                rw [if_pos e, if_pos e, bEqT (by omega) rfl, bCl a1, bCl (show pf_X7_mostCarried σ1 = some (bMo (σ 78) p k, σ2) by unfold pf_X7_mostCarried; rw [bCl a2, bGt, a4]), bCl (c_jumpersHeldAt hI.k R2 (by omega) (by omega))]
                by_cases le : bHj (σ 78) k (bMo (σ 78) p k) ≤ hh
                · rw [bLeT (by omega) (by omega) le, if_pos le]
                  exact ih nf (k + 1) l hh σ2 (by omega) (by omega) (by omega) hb f2
                · rw [bLeF (by omega) (by omega) (by omega), if_neg le]
                  exact ih nf (k + 1) k _ σ2 (by omega) (by omega) (by omega) (by omega) f2
              · rw [if_neg e, if_neg e, bEqF (by omega) (by omega) (by omega)]
                exact ih nf (k + 1) l hh σ' (by omega) (by omega) (by omega) hb h1
        obtain ⟨σ1, a1, a2⟩ := C (σ 78 2).toNat on_N 0 (-1) (-1) σ (by omega) (by omega) (by unfold on_N; omega) (by omega) (fun _ _ _ => rfl)
        have i1 : bI n σ1 := hI.idle fun c hc => a2 c (by omega) (by omega)
        have w1 : σ1 78 = σ 78 := a2 78 (by omega) (by omega)
        have M : ∀ (r nf : Nat) (k l hh : Int) (σ' : on_S), 0 ≤ k → k + (r : Int) = σ 78 2 → r < nf → (-1 ≤ hh ∧ hh ≤ 100) → bS σ1 σ' → ∃ σ'' : on_S, pf_X12_where_44 nf p q l hh k σ' = some (bWh (σ 78) p q r k l hh, σ'') ∧ bS σ1 σ'' := by
          intro r
          induction r with
          | zero =>
            intro nf k l hh σ' k0 hk' hnf hb h1
            have w2 : σ' 78 = σ 78 := by rw [h1.w, w1]
            cases nf with
            | zero => omega
            | succ nf =>
              refine ⟨σ', ?_, h1⟩
              rw [pf_X12_where_44, bRd (by omega) (by omega), w2, bLtF (by omega) (by omega) (by omega), bWh]
              by_cases e : q = 0
              · rw [bEqT (by omega) e, if_pos e]
              · rw [bEqF (by omega) (by omega) e, if_neg e]
          | succ r ih =>
            intro nf k l hh σ' k0 hk' hnf hb h1
            have w2 : σ' 78 = σ 78 := by rw [h1.w, w1]
            have k2 : bOk (σ' 78) := by rw [w2]; exact hI.k
            cases nf with
            | zero => omega
            | succ nf =>
              have nb := bNetAt_b hI.k.c k
              have jb := bHc_b (σ 78) k (bMo (σ 78) p k) (σ 78 5).toNat 0 0
              have jb' : 0 ≤ bHj (σ 78) k (bMo (σ 78) p k) ∧ bHj (σ 78) k (bMo (σ 78) p k) ≤ 9 := by unfold bHj; omega
              have take : ∃ σ'' : on_S, pf_X12_where_78 (pf_X12_where_44 nf) p q l hh k σ' = some (if bHj (σ 78) k (bMo (σ 78) p k) ≤ hh then bWh (σ 78) p q r (k + 1) l hh else bWh (σ 78) p q r (k + 1) k (bHj (σ 78) k (bMo (σ 78) p k)), σ'') ∧ bS σ1 σ'' := by
                obtain ⟨σ2, b1, b2⟩ := m_heldAt (σ := σ') hI.k w2 (by omega) h.1 h.2 k0 (show k < σ 78 2 by omega)
                unfold pf_X12_where_78
                rw [bCl b1]
                by_cases le : bHj (σ 78) k (bMo (σ 78) p k) ≤ hh
                · rw [bLeT (by omega) (by omega) le, if_pos le]
                  exact ih nf (k + 1) l hh σ2 (by omega) (by omega) (by omega) hb (h1.tr b2)
                · rw [bLeF (by omega) (by omega) (by omega), if_neg le]
                  exact ih nf (k + 1) k _ σ2 (by omega) (by omega) (by omega) (by omega) (h1.tr b2)
              rw [pf_X12_where_44, bRd (by omega) (by omega), w2, bLtT (by omega) (by omega) (by omega), bCl (m_netAt k2 (by omega)), w2, bWh]
              by_cases e : bNetAt (σ 78) k = -1
              · rw [bEqT (by omega) e, if_pos (Or.inl e)]
                exact take
              · rw [bEqF (by omega) (by omega) e, bCl (m_netAt k2 (by omega)), w2]
                by_cases f : bNetAt (σ 78) k = p
                · rw [bEqT (by omega) f, if_pos (Or.inr f)]
                  exact take
                · rw [bEqF (by omega) (by omega) f, if_neg (fun t => t.elim e f)]
                  exact ih nf (k + 1) l hh σ' (by omega) (by omega) (by omega) hb h1
        obtain ⟨σ2, b1, b2⟩ := M (σ 78 2).toNat on_N 0 (-1) (-1) σ1 (by omega) (by omega) (by unfold on_N; omega) (by omega) (bS.rf σ1)
        have wb := bWh_b hI.k p q (σ 78 2).toNat 0 (-1) (-1) (by omega) (by omega) (by omega) (by omega)
        refine ⟨bWh (σ 78) p q (σ 78 2).toNat 0 (-1) (-1), σ1, σ2, ?_, ?_, by omega, b2.inv i1⟩
        · unfold pf_X11_where
          rw [bLtF hq (by omega) (by omega), bLeT hq (by omega) g.2, bCl (c_standing hI.k hI.r hp), if_pos h, if_neg h4, bEqT (by omega) rfl]
          exact a1
        · unfold pf_X12_where pf_X12_where_25
          rw [bCk hp, bCl (m_isNet i1.k (by omega)), bE01, w1, if_pos h, bCk hq, bCl (m_in' hq (by omega) (by omega)), bE01, if_pos g, bCl (m_asksFour i1.k (by omega)), w1, if_neg (by omega), if_neg h4, bLtF (by omega) (by omega) (by omega)]
          exact b1
    · refine bOp.no (r := -2) hI (by omega) ?_ ?_
      · unfold pf_X11_where
        rw [bLtF hq (by omega) (by omega), bLeT hq (by omega) g.2, bCl (c_standing hI.k hI.r hp), if_neg h, bEqF (by omega) (by omega) (by omega)]
      · unfold pf_X12_where pf_X12_where_24
        rw [bCk hp, bCl (m_isNet hI.k (by omega)), bE01, if_neg h]
        exact no
  · refine bOp.no (r := -2) hI (by omega) ?_ ?_
    · unfold pf_X11_where
      by_cases f : q < 0
      · rw [bLtT hq (by omega) f]
      · rw [bLtF hq (by omega) (by omega), bLeF hq (by omega) (by omega)]
    · unfold pf_X12_where pf_X12_where_24
      rw [bCk hp, bCl (m_isNet hI.k (by omega)), bE01]
      split
      · rw [bCk hq, bCl (m_in' hq (by omega) (by omega)), bE01, if_neg g]
        exact no
      · exact no
end O57
