/-! B: led, corners, pays, quarrels, fault, count; cats -/
def bCn (w : bW) (P : Int → Bool) : Nat → Int → Int → Int
  | 0, _, a => a
  | r + 1, k, a => bCn w P r (k + 1) (if bMan w k 2 ≠ -1 ∧ P (bMan w k 0) = true then a + 1 else a)
theorem bCn_sh (w : bW) (P : Int → Bool) : ∀ (r : Nat) (k a : Int), bCn w P r k a = a + bCn w P r k 0 := by
  intro r
  induction r with
  | zero => intro k a; simp [bCn]
  | succ r ih =>
    intro k a
    rw [bCn, bCn]
    by_cases h : bMan w k 2 ≠ -1 ∧ P (bMan w k 0) = true
    · rw [if_pos h, if_pos h, ih (k + 1) (a + 1), ih (k + 1) (0 + 1)]; omega
    · rw [if_neg h, if_neg h, ih (k + 1) a]
theorem bCn_b (w : bW) (P : Int → Bool) : ∀ (r : Nat) (k a : Int), a ≤ bCn w P r k a ∧ bCn w P r k a ≤ a + r := by
  intro r
  induction r with
  | zero => intro k a; simp [bCn]
  | succ r ih =>
    intro k a
    rw [bCn]
    by_cases h : bMan w k 2 ≠ -1 ∧ P (bMan w k 0) = true
    · have := ih (k + 1) (a + 1)
      rw [if_pos h]; omega
    · have := ih (k + 1) a
      rw [if_neg h]; omega
theorem bCn_add (w : bW) (P Q T : Int → Bool) (h : ∀ x, (T x = true ↔ P x = true ∨ Q x = true) ∧ ¬ (P x = true ∧ Q x = true)) : ∀ (r : Nat) (k : Int), bCn w T r k 0 = bCn w P r k 0 + bCn w Q r k 0 := by
  intro r
  induction r with
  | zero => intro k; simp [bCn]
  | succ r ih =>
    intro k
    rw [bCn, bCn, bCn, bCn_sh w T, bCn_sh w P, bCn_sh w Q, ih]
    have hx := h (bMan w k 0)
    by_cases e : bMan w k 2 = -1
    · rw [if_neg (fun z => z.1 e), if_neg (fun z => z.1 e), if_neg (fun z => z.1 e)]; omega
    · by_cases p : P (bMan w k 0) = true
      · rw [if_pos ⟨e, hx.1.mpr (Or.inl p)⟩, if_pos ⟨e, p⟩, if_neg (fun z => hx.2 ⟨p, z.2⟩)]; omega
      · by_cases q : Q (bMan w k 0) = true
        · rw [if_pos ⟨e, hx.1.mpr (Or.inr q)⟩, if_neg (fun z => p z.2), if_pos ⟨e, q⟩]; omega
        · rw [if_neg (fun z => (hx.1.mp z.2).elim p q), if_neg (fun z => p z.2), if_neg (fun z => q z.2)]; omega
theorem bCn_congr (w : bW) {P Q : Int → Bool} : ∀ (r : Nat) (k a : Int), (∀ m, k ≤ m → m < k + (r : Int) → P (bMan w m 0) = Q (bMan w m 0)) → bCn w P r k a = bCn w Q r k a := by
  intro r
  induction r with
  | zero => intro k a _; rfl
  | succ r ih =>
    intro k a h
    rw [bCn, bCn, h k (by omega) (by omega), ih (k + 1) _ (fun m h1 h2 => h m (by omega) (by omega))]
def bCorn (w : bW) (h : Int) : Int := bCn w (fun x => decide (x = h)) (w 3).toNat 0 0
def bCornA (w : bW) : Int := bCn w (fun _ => true) (w 3).toNat 0 0
theorem bCorn_b {w : bW} (hk : bOkC w) (h : Int) : 0 ≤ bCorn w h ∧ bCorn w h ≤ 9 := by
  obtain ⟨q0, q1, q2, q3, q4, q5, q6, q7⟩ := hk
  have := bCn_b w (fun x => decide (x = h)) (w 3).toNat 0 0
  unfold bCorn; omega
theorem c_cornersOf {b : Nat} {w : bW} {σ : on_S} (hk : bOk w) (hR : bRp b w σ) {h : Int} (hh : on_R h) : pf_X9_cornersOf b h σ = some (bCorn w h, σ) := by
  obtain ⟨q0, q1, q2, q3, q4, q5, q6, q7⟩ := hk.c
  obtain ⟨r0, r1, r2, r3, r4, r5, r6, r7⟩ := hR.c
  have L : ∀ (r nf : Nat) (k a : Int), 0 ≤ k → k + (r : Int) = w 3 → r < nf → pf_X9_cornersOf_4 b nf h a k σ = some (bCn w (fun x => decide (x = h)) r k a, σ) := by
    intro r
    induction r with
    | zero =>
      intro nf k a k0 hk1 hn
      cases nf with
      | zero => omega
      | succ nf => rw [pf_X9_cornersOf_4, bGt, r5, bLtF (by omega) (by omega) (by omega)]; rfl
    | succ r ih =>
      intro nf k a k0 hk1 hn
      cases nf with
      | zero => omega
      | succ nf =>
        have hm := hk.m k k0 (by omega)
        obtain ⟨e1, e2, e3, e4⟩ := hR.m k k0 (by omega)
        rw [pf_X9_cornersOf_4, bGt, r5, bLtT (by omega) (by omega) (by omega), bRd k0 (by omega), e1, bCn]
        by_cases f : bMan w k 0 = h
        · rw [bEqT (by omega) f, bRd k0 (by omega), e3]
          by_cases g : bMan w k 2 = -1
          · rw [bEqT (by omega) g, ih nf (k + 1) _ (by omega) (by omega) (by omega), if_neg (fun z => z.1 g)]
          · rw [bEqF (by omega) (by omega) g, ih nf (k + 1) _ (by omega) (by omega) (by omega), if_pos ⟨g, by simpa using f⟩]
        · rw [bEqF (by omega) hh f, ih nf (k + 1) _ (by omega) (by omega) (by omega), if_neg (fun z => f (by simpa using z.2))]
  exact L (w 3).toNat on_N 0 0 (by omega) (by omega) (by unfold on_N; omega)
theorem m_cornersOf_L {σ : on_S} (hk : bOk (σ 78)) {h : Int} (hh : on_R h) (P : Int → Bool) (hP : ∀ m, 0 ≤ m → m < σ 78 3 → (P (bMan (σ 78) m 0) = true ↔ h = -1 ∨ bMan (σ 78) m 0 = h)) : ∀ (r nf : Nat) (k a : Int), 0 ≤ k → k + (r : Int) = σ 78 3 → r < nf → pf_X12_cornersOf_4 nf h a k σ = some (bCn (σ 78) P r k a, σ) := by
  obtain ⟨q0, q1, q2, q3, q4, q5, q6, q7⟩ := hk.c
  intro r
  induction r with
  | zero =>
    intro nf k a k0 hk1 hn
    cases nf with
    | zero => omega
    | succ nf => rw [pf_X12_cornersOf_4, bRd (by omega) (by omega), bLtF (by omega) (by omega) (by omega)]; rfl
  | succ r ih =>
    intro nf k a k0 hk1 hn
    cases nf with
    | zero => omega
    | succ nf =>
      have hm := hk.m k k0 (by omega)
      have hp := hP k k0 (by omega)
      rw [pf_X12_cornersOf_4, bRd (by omega) (by omega), bLtT (by omega) (by omega) (by omega), bCl (m_ofMan k0 (by omega) (by omega) (by omega)), bCn]
      unfold pf_X12_cornersOf_44 pf_X12_cornersOf_40
      by_cases g : bMan (σ 78) k 2 = -1
      · rw [bEqT (by omega) g, ih nf (k + 1) _ (by omega) (by omega) (by omega), if_neg (fun z => z.1 g), Int.add_zero]
      · rw [bEqF (by omega) (by omega) g]
        by_cases e : h = -1
        · rw [bEqT (by omega) e, ih nf (k + 1) _ (by omega) (by omega) (by omega), if_pos ⟨g, hp.mpr (Or.inl e)⟩]
        · rw [bEqF hh (by omega) e, bCl (m_ofMan k0 (by omega) (by omega) (by omega))]
          by_cases f : bMan (σ 78) k 0 = h
          · rw [bEqT (by omega) f, ih nf (k + 1) _ (by omega) (by omega) (by omega), if_pos ⟨g, hp.mpr (Or.inr f)⟩]
          · rw [bEqF (by omega) hh f, ih nf (k + 1) _ (by omega) (by omega) (by omega), if_neg (fun z => (hp.mp z.2).elim e f), Int.add_zero]
theorem m_cornersOf {σ : on_S} (hk : bOk (σ 78)) {h : Int} (hh : on_R h) (h0 : 0 ≤ h) : pf_X12_cornersOf h σ = some (bCorn (σ 78) h, σ) := by
  obtain ⟨q0, q1, q2, q3, q4, q5, q6, q7⟩ := hk.c
  exact m_cornersOf_L hk hh _ (fun m _ _ => by simp; omega) (σ 78 3).toNat on_N 0 0 (by omega) (by omega) (by unfold on_N; omega)
theorem m_cornersOfA {σ : on_S} (hk : bOk (σ 78)) : pf_X12_cornersOf (-1) σ = some (bCornA (σ 78), σ) := by
  obtain ⟨q0, q1, q2, q3, q4, q5, q6, q7⟩ := hk.c
  exact m_cornersOf_L hk (by omega) _ (fun m _ _ => by simp) (σ 78 3).toNat on_N 0 0 (by omega) (by omega) (by unfold on_N; omega)
theorem bCorn_lt {w : bW} (h : Int) : bCn w (fun x => decide (x < h + 1)) (w 3).toNat 0 0 = bCn w (fun x => decide (x < h)) (w 3).toNat 0 0 + bCorn w h := by
  refine bCn_add w _ _ _ (fun x => ?_) _ _
  simp only [decide_eq_true_eq]
  omega
section O35
variable {n : Nat} {σ : on_S} {p q t : Int}
theorem o_corners (hI : bI n σ) (hp : on_R p) : bOp n σ (pf_X11_corners p) (pf_X12_corners p) := by
  obtain ⟨q0, q1, q2, q3, q4, q5, q6, q7⟩ := hI.k.c
  refine bOp.ro (r := if 0 ≤ p ∧ p < σ 78 0 then bCorn (σ 78) p else -2) hI ?_ ?_ ?_
  · have := bCorn_b hI.k.c p
    split <;> omega
  · unfold pf_X11_corners
    rw [bCl (c_hasHouse hI.k hI.r hp), bE01, bCl (c_cornersOf hI.k hI.r hp), bIfS]; exact bK.of rfl
  · intro σ1 h1 e _
    rw [← e]
    unfold pf_X12_corners
    rw [bCl (m_isHouse h1.k hp), bE01]
    split
    · rename_i h
      rw [bCl (m_cornersOf h1.k hp h.1)]; exact bK.of rfl
    · exact bK.of rfl
theorem o_pays (hI : bI n σ) (hp : on_R p) (hq : on_R q) : bOp n σ (pf_X11_pays p q) (pf_X12_pays p q) := by
  obtain ⟨q0, q1, q2, q3, q4, q5, q6, q7⟩ := hI.k.c
  have hA : 0 ≤ bCornA (σ 78) ∧ bCornA (σ 78) ≤ 9 := by
    have := bCn_b (σ 78) (fun _ => true) (σ 78 3).toNat 0 0
    unfold bCornA; omega
  have hc := bCorn_b hI.k.c p
  have hm : 0 ≤ q → q ≤ 1000000 → 0 ≤ q * bCorn (σ 78) p ∧ q * bCorn (σ 78) p ≤ 9000000 := by
    intro a1 a2
    have b1 := Int.mul_nonneg a1 hc.1
    have b2 := Int.mul_le_mul a2 hc.2 hc.1 (by omega)
    omega
  refine bOp.ro (r := if 0 ≤ p ∧ p < σ 78 0 then (if 0 ≤ q ∧ q ≤ 1000000 then (if bCornA (σ 78) = 0 then -1 else q * bCorn (σ 78) p / bCornA (σ 78)) else -2) else -2) hI ?_ ?_ ?_
  · split
    · split
      · rename_i g
        have := hm g.1 g.2
        split
        · omega
        · have a1 := Int.ediv_nonneg this.1 hA.1
          have a2 := Int.ediv_le_self (bCornA (σ 78)) this.1
          omega
      · omega
    · omega
  · unfold pf_X11_pays
    rw [bCl (c_hasHouse hI.k hI.r hp), bE01]
    split
    · by_cases g : q < 0
      · rw [bLtT hq (by omega) g, if_neg (by omega)]; exact bK.of rfl
      · rw [bLtF hq (by omega) (by omega)]
        by_cases g2 : q ≤ 1000000
        · have hmm := hm (by omega) g2
          rw [bLeT hq (by omega) g2, if_pos ⟨by omega, g2⟩]
          have L : ∀ (r nf : Nat) (k : Int), 0 ≤ k → k + (r : Int) = σ 78 0 → r < nf → pf_X11_pays_30 nf p q (bCn (σ 78) (fun x => decide (x < k)) (σ 78 3).toNat 0 0) k σ = some (if bCornA (σ 78) = 0 then -1 else q * bCorn (σ 78) p / bCornA (σ 78), σ) := by
            intro r
            induction r with
            | zero =>
              intro nf k k0 hk1 hn
              cases nf with
              | zero => omega
              | succ nf =>
                have e : bCn (σ 78) (fun x => decide (x < k)) (σ 78 3).toNat 0 0 = bCornA (σ 78) := by
                  refine bCn_congr _ _ _ _ (fun m m0 m1 => ?_)
                  have := (hI.k.m m m0 (by omega)).1
                  simp; omega
                rw [pf_X11_pays_30, bGt, hI.r.c.1, bLtF (by omega) (by omega) (by omega), e]
                by_cases z : bCornA (σ 78) = 0
                · rw [bEqT (by omega) z, if_pos z]
                · rw [bEqF (by omega) (by omega) z, if_neg z, bCl (c_cornersOf hI.k hI.r hp), bDv hmm.1 (by omega) (by omega) (by omega)]
            | succ r ih =>
              intro nf k k0 hk1 hn
              cases nf with
              | zero => omega
              | succ nf =>
                rw [pf_X11_pays_30, bGt, hI.r.c.1, bLtT (by omega) (by omega) (by omega), bCl (c_cornersOf hI.k hI.r (by omega)), ← bCorn_lt]
                exact ih nf (k + 1) (by omega) (by omega) (by omega)
          have h0 := L (σ 78 0).toNat on_N 0 (by omega) (by omega) (by unfold on_N; omega)
          have e : bCn (σ 78) (fun x => decide (x < 0)) (σ 78 3).toNat 0 0 = 0 := by
            have a := bCn_b (σ 78) (fun _ => false) (σ 78 3).toNat 0 0
            have b : ∀ (r : Nat) (k : Int), bCn (σ 78) (fun _ => false) r k 0 = 0 := by
              intro r
              induction r with
              | zero => intro k; rfl
              | succ r ih => intro k; rw [bCn, if_neg (fun z => by simp at z), ih]
            refine (bCn_congr (σ 78) (P := fun x => decide (x < 0)) (Q := fun _ => false) _ _ _ (fun m m0 m1 => ?_)).trans (b (σ 78 3).toNat 0)
            have := (hI.k.m m m0 (by omega)).1
            simp; omega
          rw [e] at h0
          exact bK.of h0
        · rw [bLeF hq (by omega) (by omega), if_neg (by omega)]; exact bK.of rfl
    · exact bK.of rfl
  · intro σ1 h1 e _
    rw [← e] at hA hc hm q0 ⊢
    unfold pf_X12_pays
    rw [bCl (m_isHouse h1.k hp), bE01]
    split
    · rename_i h
      rw [bCk hq, bCl (m_in' hq (by omega) (by omega)), bE01]
      split
      · rename_i g
        have hmm := hm g.1 g.2
        rw [bCl (m_cornersOfA h1.k)]
        by_cases z : bCornA (σ1 78) = 0
        · rw [bEqT (by omega) z, if_pos z]; exact bK.of rfl
        · rw [bEqF (by omega) (by omega) z, if_neg z, bCl (m_cornersOf h1.k hp h.1), bCl (m_cornersOfA h1.k), bDv hmm.1 (by omega) (by omega) (by omega)]
          exact bK.of rfl
      · exact bK.of rfl
    · exact bK.of rfl
theorem o_led (hI : bI n σ) (hp : on_R p) (hq : on_R q) : bOp n σ (pf_X11_led p q) (pf_X12_led p q) := by
  obtain ⟨q0, q1, q2, q3, q4, q5, q6, q7⟩ := hI.k.c
  refine bOp.ro (r := if 0 < σ 78 7 then (if 0 ≤ q ∧ q ≤ 2 then (if 0 ≤ p ∧ p < σ 78 6 then bJp (σ 78) p q else -1) else -2) else -2) hI ?_ ?_ ?_
  · split
    · split
      · split
        · rename_i g h
          have hh := hI.k.p p h.1 h.2
          have : q = 0 ∨ q = 1 ∨ q = 2 := by omega
          rcases this with rfl | rfl | rfl
          · omega
          · rw [hh.2.1]; split <;> omega
          · omega
        · omega
      · omega
    · omega
  · unfold pf_X11_led
    rw [bCl (c_isThere hI.k hI.r), bE01]
    split
    · by_cases g : q < 0
      · rw [bLtT hq (by omega) g, if_neg (by omega)]; exact bK.of rfl
      · rw [bLtF hq (by omega) (by omega)]
        by_cases g2 : q ≤ 2
        · rw [bLeT hq (by omega) g2, if_pos ⟨by omega, g2⟩]
          by_cases h : p < 0
          · rw [bLtT hp (by omega) h, if_neg (by omega)]; exact bK.of rfl
          · rw [bLtF hp (by omega) (by omega), bGt, hI.r.c.2.2.2.2.2.2.2]
            by_cases h2 : p < σ 78 6
            · have hh := hI.k.p p (by omega) h2
              obtain ⟨e1, e2, e3⟩ := hI.r.p p (by omega) h2
              rw [bLtT hp (by omega) h2, if_pos ⟨by omega, h2⟩, bRd (by omega) (by omega), bRd (by omega) (by omega), e1, e2]
              have : q = 0 ∨ q = 1 ∨ q = 2 := by omega
              rcases this with rfl | rfl | rfl
              · rw [bEqT (by omega) rfl]; exact bK.of rfl
              · rw [bEqF (by omega) (by omega) (by omega), bEqT (by omega) rfl, bEqS (by omega) (by omega), hh.2.1]; exact bK.of rfl
              · rw [bEqF (by omega) (by omega) (by omega), bEqF (by omega) (by omega) (by omega)]; exact bK.of rfl
            · rw [bLtF hp (by omega) (by omega), if_neg (by omega)]; exact bK.of rfl
        · rw [bLeF hq (by omega) (by omega), if_neg (by omega)]; exact bK.of rfl
    · exact bK.of rfl
  · intro σ1 h1 e _
    rw [← e] at q6 ⊢
    unfold pf_X12_led
    rw [bCl (m_isStreet h1.k), bE01]
    split
    · rw [bCk hq, bCl (m_in' hq (by omega) (by omega)), bE01]
      split
      · rename_i g
        rw [bCk hp, bRd (by omega) (by omega), bCk (by omega), bCl (m_in' hp (by omega) (by omega)), bE01]
        by_cases h : 0 ≤ p ∧ p < σ1 78 6
        · rw [if_pos ⟨h.1, by omega⟩, if_pos h, bRd (by omega) (by omega)]; exact bK.of rfl
        · rw [if_neg (by omega), if_neg h]; exact bK.of rfl
      · exact bK.of rfl
    · exact bK.of rfl
/-- quarrels of who stand beside one another -/
def bQs (w : bW) (p : Int → Int) : Int := bPq w p 0 1 + bPq w p 1 2 + bPq w p 2 3 + bPq w p 3 0
theorem bQs_b {w : bW} (hk : bOk w) {p : Int → Int} (hp : bPo w p) : 0 ≤ bQs w p ∧ bQs w p ≤ 36 := by
  have a := bPq_b hk hp (a := 0) (b := 1) (by omega) (by omega) (by omega) (by omega)
  have b := bPq_b hk hp (a := 1) (b := 2) (by omega) (by omega) (by omega) (by omega)
  have c := bPq_b hk hp (a := 2) (b := 3) (by omega) (by omega) (by omega) (by omega)
  have d := bPq_b hk hp (a := 3) (b := 0) (by omega) (by omega) (by omega) (by omega)
  unfold bQs; omega
theorem m_quarrelsOfPosts {σ : on_S} (hk : bOk (σ 78)) (hp : bPo (σ 78) (σ 84)) : pf_X12_quarrelsOfPosts σ = some (bQs (σ 78) (σ 84), σ) := by
  obtain ⟨q0, q1, q2, q3, q4, q5, q6, q7⟩ := hk.c
  have step : ∀ (nf : Nat) (a k : Int), 0 ≤ k → k < 4 → pf_X12_quarrelsOfPosts_4 (nf + 1) a k σ = pf_X12_quarrelsOfPosts_4 nf (a + bPq (σ 78) (σ 84) k ((k + 1) % 4)) (k + 1) σ := by
    intro nf a k k0 k1
    have h1 := hp k k0 k1
    have h2 := hp ((k + 1) % 4) (by omega) (by omega)
    rw [pf_X12_quarrelsOfPosts_4, bLtT (by omega) (by omega) k1, bRd k0 (by omega), bRm (by omega) (by omega) (by omega) (by omega), bRd (by omega) (by omega)]
    unfold bPq pf_X12_quarrelsOfPosts_40
    by_cases e : σ 84 k = -1
    · rw [bEqT (by omega) e, if_pos (Or.inl e)]
    · rw [bEqF (by omega) (by omega) e]
      by_cases f : σ 84 ((k + 1) % 4) = -1
      · rw [bEqT (by omega) f, if_pos (Or.inr f)]
      · rw [bEqF (by omega) (by omega) f, if_neg (fun z => z.elim e f), bCl (m_quarrelOf (by omega) (by omega) (by omega) (by omega))]
  unfold pf_X12_quarrelsOfPosts bQs
  rw [show on_N = 99995 + 1 + 1 + 1 + 1 + 1 from rfl, step _ _ 0 (by omega) (by omega), step _ _ (0 + 1) (by omega) (by omega), step _ _ (0 + 1 + 1) (by omega) (by omega), step _ _ (0 + 1 + 1 + 1) (by omega) (by omega), pf_X12_quarrelsOfPosts_4, bLtF (by omega) (by omega) (by omega)]
  simp only [Int.zero_add]
  rfl
def bQaR (w : bW) : Nat → Int → Int → Int
  | 0, _, a => a
  | r + 1, k, a => bQaR w r (k + 1) (a + bQs w (bAt w k))
theorem bQaR_b {w : bW} (hk : bOk w) : ∀ (r : Nat) (k a : Int), a ≤ bQaR w r k a ∧ bQaR w r k a ≤ a + 36 * r := by
  intro r
  induction r with
  | zero => intro k a; simp [bQaR]
  | succ r ih =>
    intro k a
    have := bQs_b hk (bAt_po hk.c k)
    have h2 := ih (k + 1) (a + bQs w (bAt w k))
    rw [bQaR]; omega
theorem bPq_congr {w : bW} {p p' : Int → Int} (h : ∀ c : Int, 0 ≤ c → c < 4 → p c = p' c) : bQs w p = bQs w p' := by
  unfold bQs bPq
  rw [h 0 (by omega) (by omega), h 1 (by omega) (by omega), h 2 (by omega) (by omega), h 3 (by omega) (by omega)]
theorem o_quarrels (hI : bI n σ) : bOp n σ pf_X11_quarrels pf_X12_quarrels := by
  obtain ⟨q0, q1, q2, q3, q4, q5, q6, q7⟩ := hI.k.c
  refine bOp.ro (r := if 0 < σ 78 7 then bQaR (σ 78) (σ 78 4).toNat 0 0 else -2) hI ?_ ?_ ?_
  · have := bQaR_b hI.k (σ 78 4).toNat 0 0
    split <;> omega
  · unfold pf_X11_quarrels
    rw [bCl (c_isThere hI.k hI.r), bE01]
    split
    · have S : ∀ (k33 : Int → Int → on_S → Option on_O) (a k : Int), 0 ≤ k → k < σ 78 4 → pf_X11_quarrels_33 k33 on_N a k 0 σ = k33 (a + bQs (σ 78) (bAt (σ 78) k)) (k + 1) σ := by
        intro k33 a k k0 k1
        have step : ∀ (nf : Nat) (a c : Int), 0 ≤ c → c < 4 → pf_X11_quarrels_33 k33 (nf + 1) a k c σ = pf_X11_quarrels_33 k33 nf (a + bPq (σ 78) (bAt (σ 78) k) c ((c + 1) % 4)) k (c + 1) σ := by
          intro nf a c c0 c1
          rw [pf_X11_quarrels_33, bLtT (by omega) (by omega) c1, bCl (c_quarrelBehind hI.k hI.r k0 k1 c0 c1)]
        unfold bQs
        rw [show on_N = 99995 + 1 + 1 + 1 + 1 + 1 from rfl, step _ _ 0 (by omega) (by omega), step _ _ (0 + 1) (by omega) (by omega), step _ _ (0 + 1 + 1) (by omega) (by omega), step _ _ (0 + 1 + 1 + 1) (by omega) (by omega), pf_X11_quarrels_33, bLtF (by omega) (by omega) (by omega)]
        congr 1
        show a + bPq (σ 78) (bAt (σ 78) k) 0 1 + bPq (σ 78) (bAt (σ 78) k) 1 2 + bPq (σ 78) (bAt (σ 78) k) 2 3 + bPq (σ 78) (bAt (σ 78) k) 3 0 = _
        omega
      have L : ∀ (r nf : Nat) (k a : Int), 0 ≤ k → k + (r : Int) = σ 78 4 → r < nf → pf_X11_quarrels_17 nf a k σ = some (bQaR (σ 78) r k a, σ) := by
        intro r
        induction r with
        | zero =>
          intro nf k a k0 hk1 hn
          cases nf with
          | zero => omega
          | succ nf => rw [pf_X11_quarrels_17, bGt, hI.r.c.2.2.2.2.2.2.1, bLtF (by omega) (by omega) (by omega)]; rfl
        | succ r ih =>
          intro nf k a k0 hk1 hn
          cases nf with
          | zero => omega
          | succ nf => rw [pf_X11_quarrels_17, bGt, hI.r.c.2.2.2.2.2.2.1, bLtT (by omega) (by omega) (by omega), S _ _ _ k0 (by omega), ih nf (k + 1) _ (by omega) (by omega) (by omega)]; rfl
      exact bK.of (L (σ 78 4).toNat on_N 0 0 (by omega) (by omega) (by unfold on_N; omega))
    · exact bK.of rfl
  · intro σ1 h1 e _
    rw [← e] at q4 ⊢
    unfold pf_X12_quarrels
    rw [bCl (m_isStreet h1.k), bE01]
    split
    · have L : ∀ (r nf : Nat) (k a : Int) (σ' : on_S), bS σ1 σ' → 0 ≤ k → k + (r : Int) = σ1 78 4 → r < nf → bK (pf_X12_quarrels_14 nf a k σ') σ1 (bQaR (σ1 78) r k a) := by
        intro r
        induction r with
        | zero =>
          intro nf k a σ' hs k0 hk1 hn
          cases nf with
          | zero => omega
          | succ nf => rw [pf_X12_quarrels_14, bRd (by omega) (by omega), hs.w, bLtF (by omega) (by omega) (by omega)]; exact ⟨_, rfl, hs⟩
        | succ r ih =>
          intro nf k a σ' hs k0 hk1 hn
          cases nf with
          | zero => omega
          | succ nf =>
            have hk' : bOk (σ' 78) := by rw [hs.w]; exact h1.k
            have hw2 := (bLay_S σ' k).w
            rw [pf_X12_quarrels_14, bRd (by omega) (by omega), hs.w, bLtT (by omega) (by omega) (by omega), bCl (m_layPosts hk' (by omega)), bCl (m_quarrelsOfPosts (by rw [hw2]; exact hk') (by rw [hw2]; exact bLay_po σ' hk' k)), hw2, bPq_congr (fun d d0 d1 => bLay_84 σ' k d0 d1), hs.w]
            exact ih nf (k + 1) _ _ (hs.tr (bLay_S σ' k)) (by omega) (by omega) (by omega)
      exact L (σ1 78 4).toNat on_N 0 0 σ1 (bS.rf σ1) (by omega) (by omega) (by unfold on_N; omega)
    · exact bK.of rfl
theorem o_fault (hI : bI n σ) (hp : on_R p) : bOp n σ (pf_X11_fault p) (pf_X12_fault p) := by
  obtain ⟨t1, t2, t3, t4, t5, t6, t7⟩ := hI.t
  refine bOp.ro (r := if p = 0 then σ 77 12 else if p = 1 then σ 77 13 else -1) hI ?_ ?_ ?_
  · split
    · omega
    · split <;> omega
  · unfold pf_X11_fault
    rw [bGt, bGt, t4, t5, bEqS hp (by omega), bEqS hp (by omega)]; exact bK.of rfl
  · intro σ1 h1 e hs
    unfold pf_X12_fault
    rw [bGt, bGt, hs.2.2.1, hs.2.2.2, bEqS hp (by omega), bEqS hp (by omega)]; exact bK.of rfl
def bUse (σ : on_S) : Int := (if σ 96 0 = -1 then 0 else 1) + (if σ 96 1 = -1 then 0 else 1) + (if σ 96 2 = -1 then 0 else 1) + (if σ 96 3 = -1 then 0 else 1)
theorem c_slotsInUse (hI : bI n σ) : pf_X11_slotsInUse σ = some (bUse σ, σ) := by
  have hs := hI.s
  have step : ∀ (nf : Nat) (a : Int) (k : Nat), k < 4 → pf_X11_slotsInUse_4 (nf + 1) a (k : Int) σ = pf_X11_slotsInUse_4 nf (a + if σ 96 k = -1 then 0 else 1) ((k + 1 : Nat) : Int) σ := by
    intro nf a k k1
    have h := (hs k k1).1
    rw [pf_X11_slotsInUse_4, bLtT (by omega) (by omega) (by omega), bIx (by omega) (by omega), show ((k : Int)).toNat = k by omega, bGt]
    rcases h with ⟨h1, h2⟩ | ⟨h1, h2, h3, h4⟩
    · rw [bEqT (by omega) h1, if_pos h2, Int.add_zero]; rfl
    · rw [bEqF (by omega) (by omega) (by omega), if_neg (by omega)]; rfl
  unfold pf_X11_slotsInUse bUse
  have := step 99999 0 0 (by omega)
  rw [show on_N = 99995 + 1 + 1 + 1 + 1 + 1 from rfl, show (0 : Int) = ((0 : Nat) : Int) from rfl, step _ _ 0 (by omega), step _ _ (0 + 1) (by omega), step _ _ (0 + 1 + 1) (by omega), step _ _ (0 + 1 + 1 + 1) (by omega), pf_X11_slotsInUse_4, bLtF (by omega) (by omega) (by omega)]
  congr 2
  show 0 + (if σ 96 0 = -1 then 0 else 1) + (if σ 96 1 = -1 then 0 else 1) + (if σ 96 2 = -1 then 0 else 1) + (if σ 96 3 = -1 then 0 else 1) = _
  rw [Int.zero_add]; rfl
theorem o_count (hI : bI n σ) (hp : on_R p) : bOp n σ (pf_X11_count p) (pf_X12_count p) := by
  obtain ⟨q0, q1, q2, q3, q4, q5, q6, q7⟩ := hI.k.c
  obtain ⟨r0, r1, r2, r3, r4, r5, r6, r7⟩ := hI.r.c
  obtain ⟨t1, t2, t3, t4, t5, t6, t7⟩ := hI.t
  refine bOp.ro (r := if p = 0 then σ 78 0 else if p = 1 then σ 78 1 else if p = 2 then σ 78 2 else if p = 3 then σ 78 3 else if p = 4 then σ 78 4 else if p = 5 then σ 78 5 else if p = 6 then σ 78 6 else if p = 7 then σ 78 7 else if p = 8 then σ 77 5 else if p = 9 then bUse σ else -1) hI ?_ ?_ ?_
  · have : 0 ≤ bUse σ ∧ bUse σ ≤ 4 := by
      unfold bUse
      split <;> split <;> split <;> split <;> omega
    repeat' (first | omega | split)
  · unfold pf_X11_count
    simp only [on_sw]
    rw [bGt, bGt, bGt, bGt, bGt, bGt, bGt, bGt, bGt, bCl (c_slotsInUse hI), r0, r1, r2, r3, r4, r5, r6, r7, t1, bEqS hp (by omega), bEqS hp (by omega), bEqS hp (by omega), bEqS hp (by omega), bEqS hp (by omega), bEqS hp (by omega), bEqS hp (by omega), bEqS hp (by omega), bEqS hp (by omega), bEqS hp (by omega)]
    exact bK.of rfl
  · intro σ1 h1 e hs
    have hq := h1.s
    have e96 := hs.ne (c := 96) (by omega)
    have hU : bUse σ1 = bUse σ := by unfold bUse; rw [e96]
    have step : ∀ (nf : Nat) (a : Int) (k : Nat), k < 4 → pf_X12_count_121 (nf + 1) a (k : Int) σ1 = pf_X12_count_121 nf (a + if σ1 96 k = -1 then 0 else 1) ((k + 1 : Nat) : Int) σ1 := by
      intro nf a k k1
      have h := (hq k k1).1
      rw [pf_X12_count_121, bLtT (by omega) (by omega) (by omega), bRd (by omega) (by omega)]
      rcases h with ⟨h1, h2⟩ | ⟨h1, h2, h3, h4⟩
      · rw [bEqT (by omega) h2, if_pos h2]; rfl
      · rw [bEqF (by omega) (by omega) (by omega), if_neg (by omega)]; rfl
    have hl : pf_X12_count_121 on_N 0 0 σ1 = some (bUse σ1, σ1) := by
      unfold bUse
      rw [show on_N = 99995 + 1 + 1 + 1 + 1 + 1 from rfl]
      have := step 99999 0 0 (by omega)
      rw [show pf_X12_count_121 (99995 + 1 + 1 + 1 + 1 + 1) 0 0 σ1 = pf_X12_count_121 (99995 + 1 + 1 + 1 + 1 + 1) 0 ((0 : Nat) : Int) σ1 from rfl, step _ _ 0 (by omega), step _ _ (0 + 1) (by omega), step _ _ (0 + 1 + 1) (by omega), step _ _ (0 + 1 + 1 + 1) (by omega), pf_X12_count_121, bLtF (by omega) (by omega) (by omega)]
      congr 2
      show 0 + (if σ1 96 0 = -1 then 0 else 1) + (if σ1 96 1 = -1 then 0 else 1) + (if σ1 96 2 = -1 then 0 else 1) + (if σ1 96 3 = -1 then 0 else 1) = _
      rw [Int.zero_add]
    unfold pf_X12_count
    simp only [on_sw]
    rw [bRd (by omega) (by omega), bRd (by omega) (by omega), bRd (by omega) (by omega), bRd (by omega) (by omega), bRd (by omega) (by omega), bRd (by omega) (by omega), bRd (by omega) (by omega), bRd (by omega) (by omega), bGt, hl, hU, hs.2.1, bEqS hp (by omega), bEqS hp (by omega), bEqS hp (by omega), bEqS hp (by omega), bEqS hp (by omega), bEqS hp (by omega), bEqS hp (by omega), bEqS hp (by omega), bEqS hp (by omega), bEqS hp (by omega), ← e]
    exact bK.of rfl
end O35
