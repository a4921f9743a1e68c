/-! B: alarm, last, middle, route -/
def bMi (w : bW) (a b : Int) : Int := if bDs w a b < 1000000 then bDs w a b else -1
/-- the last minute, over those from k on -/
def bTill (w : bW) (a : Int) : Nat → Int → Int → Int
  | 0, _, m => if m < 1000000 then m else -1
  | r + 1, k, m => bTill w a r (k + 1) (max m (bDs w a k))
/-- the house of the least last minute -/
def bMid (f : Int → Int) : Nat → Int → Int → Int
  | 0, _, l => l
  | r + 1, k, l => bMid f r (k + 1) (if f k = -1 then l else if l = -1 then k else if f k < f l then k else l)
/-- the next house on the way to b -/
def bStR (w : bW) (b x : Int) : Nat → Int → Int
  | 0, _ => -1
  | r + 1, k => if 0 < bRoad w x k ∧ bRoad w x k + bDs w k b = bDs w x b then k else bStR w b x r (k + 1)
def bSt (w : bW) (b x : Int) : Int := if x = b then -1 else bStR w b x (w 0).toNat 0
def bWk (w : bW) (b : Int) : Nat → Int → Int
  | 0, x => x
  | r + 1, x => if x = -1 then -1 else bWk w b r (bSt w b x)
section O51
variable {n : Nat} {σ : on_S} {p q r : Int} {w : bW}
theorem bDs_sym (hk : bOk w) : ∀ i j : Int, 0 ≤ i → i < 4 → 0 ≤ j → j < 4 → bDs w i j = bDs w j i := by
  have f : ∀ (k : Int) (d : Int → Int → Int), 0 ≤ k → k < 4 → (∀ i j : Int, 0 ≤ i → i < 4 → 0 ≤ j → j < 4 → d i j = d j i) → ∀ i j : Int, 0 ≤ i → i < 4 → 0 ≤ j → j < 4 → bFw k d i j = bFw k d j i := by
    intro k d k0 k4 h i j i0 i4 j0 j4
    have a := h i j i0 i4 j0 j4
    have b := h i k i0 i4 k0 k4
    have c := h k j k0 k4 j0 j4
    unfold bFw; omega
  refine f 3 _ (by omega) (by omega) (f 2 _ (by omega) (by omega) (f 1 _ (by omega) (by omega) (f 0 _ (by omega) (by omega) ?_)))
  intro i j i0 i4 j0 j4
  have a := (hk.r i j i0 i4 j0 j4).2.1
  unfold bEd
  by_cases e : i = j
  · rw [if_pos e, if_pos e.symm]
  · rw [if_neg e, if_neg (show ¬ j = i from fun t => e t.symm), a]
theorem bMi_b (hk : bOk w) {a b : Int} (a0 : 0 ≤ a) (a4 : a < 4) (b0 : 0 ≤ b) (b4 : b < 4) : -1 ≤ bMi w a b ∧ bMi w a b < 1000000 := by
  have := (bDs_way hk).1 a b a0 a4 b0 b4
  unfold bMi; split <;> omega
theorem c_minutesOf (hk : bOk w) (hT : bTab (bDs w) (σ 64)) {a b : Int} (a0 : 0 ≤ a) (a4 : a < 4) (b0 : 0 ≤ b) (b4 : b < 4) : pf_X0_minutesOf a b σ = some (bMi w a b, σ) := by
  have := (bDs_way hk).1 a b a0 a4 b0 b4
  unfold pf_X0_minutesOf bMi
  rw [bRd (by omega) (by omega), hT a b a0 a4 b0 b4]
  by_cases h : bDs w a b < 1000000
  · rw [bLtT (by omega) (by omega) h, if_pos h]
  · rw [bLtF (by omega) (by omega) (by omega), if_neg h]
theorem o_alarm (hI : bI n σ) (hp : on_R p) (hq : on_R q) : bOp n σ (pf_X11_alarm p q) (pf_X12_alarm p q) := by
  have hc := hI.k.c.1
  by_cases hs : 0 ≤ p ∧ p < σ 78 0
  · by_cases hz : 0 ≤ q ∧ q < σ 78 0
    · obtain ⟨σ1, a1, a2, a3⟩ := c_roads hI.k hI.r
      have i1 : bI n σ1 := hI.idle fun c hc => a2 c (by omega)
      have w1 : σ1 78 = σ 78 := a2 78 (by omega)
      obtain ⟨σ2, b1, b2, b3⟩ := m_spreads (σ := σ1) i1.k (b := q) (by omega) (by omega)
      have db := (bDs_way hI.k).1 p q (by omega) (by omega) (by omega) (by omega)
      have mb := bMi_b hI.k (a := p) (b := q) (by omega) (by omega) (by omega) (by omega)
      refine ⟨bMi (σ 78) p q, σ1, σ2, ?_, ?_, by omega, i1.idle fun c hc => b2 c (by omega)⟩
      · unfold pf_X11_alarm
        rw [bCl (c_hasHouse hI.k hI.r hp), bE01, if_pos hs, bCl (c_hasHouse hI.k hI.r hq), bE01, if_pos hz, bCl a1, bCl (c_minutesOf hI.k a3 (by omega) (by omega) (by omega) (by omega))]
      · unfold pf_X12_alarm bMi
        rw [bCl (m_isHouse i1.k hp), bE01, w1, if_pos hs, bCl (m_isHouse i1.k hq), bE01, w1, if_pos hz, bCl b1, bRd (by omega) (by omega), b3 p (by omega) (by omega), w1]
        by_cases h : bDs (σ 78) p q < 1000000
        · rw [bLtT (by omega) (by omega) h, if_pos h, bRd (by omega) (by omega), b3 p (by omega) (by omega), w1]
        · rw [bLtF (by omega) (by omega) (by omega), if_neg h]
    · refine bOp.no (r := -2) hI (by omega) ?_ ?_
      · unfold pf_X11_alarm
        rw [bCl (c_hasHouse hI.k hI.r hp), bE01, if_pos hs, bCl (c_hasHouse hI.k hI.r hq), bE01, if_neg hz]
      · unfold pf_X12_alarm
        rw [bCl (m_isHouse hI.k hp), bE01, if_pos hs, bCl (m_isHouse hI.k hq), bE01, if_neg hz]
  · refine bOp.no (r := -2) hI (by omega) ?_ ?_
    · unfold pf_X11_alarm
      rw [bCl (c_hasHouse hI.k hI.r hp), bE01, if_neg hs]
    · unfold pf_X12_alarm
      rw [bCl (m_isHouse hI.k hp), bE01, if_neg hs]
theorem bTill_hi {a : Int} : ∀ (r : Nat) (k m : Int), 1000000 ≤ m → bTill w a r k m = -1 := by
  intro r
  induction r with
  | zero => intro k m h; rw [bTill, if_neg (by omega)]
  | succ r ih => intro k m h; rw [bTill]; exact ih _ _ (by omega)
theorem bTill_b (hk : bOk w) {a : Int} (a0 : 0 ≤ a) (a4 : a < 4) : ∀ (r : Nat) (k m : Int), 0 ≤ k → k + (r : Int) ≤ 4 → 0 ≤ m → -1 ≤ bTill w a r k m ∧ bTill w a r k m < 1000000 := by
  intro r
  induction r with
  | zero => intro k m _ _ m0; rw [bTill]; split <;> omega
  | succ r ih => intro k m k0 hk' m0; rw [bTill]; exact ih _ _ (by omega) (by omega) (by omega)
abbrev bLas (w : bW) (a : Int) : Int := bTill w a (w 0).toNat 0 0
theorem bLas_b (hk : bOk w) {a : Int} (a0 : 0 ≤ a) (a4 : a < 4) : -1 ≤ bLas w a ∧ bLas w a < 1000000 := by
  have hc := hk.c.1
  exact bTill_b hk a0 a4 _ _ _ (by omega) (by omega) (by omega)
theorem c_tillAllHear (hk : bOk w) (hR : bRp 2 w σ) (hT : bTab (bDs w) (σ 64)) {a : Int} (a0 : 0 ≤ a) (a4 : a < 4) : pf_X0_tillAllHear a σ = some (bLas w a, σ) := by
  have hc := hk.c.1
  have e0 : σ 2 0 = w 0 := hR.c.1
  have L : ∀ (r nf : Nat) (k m : Int), 0 ≤ k → k + (r : Int) = w 0 → r < nf → 0 ≤ m → m < 1000000 → pf_X0_tillAllHear_4 nf a m k σ = some (bTill w a r k m, σ) := by
    intro r
    induction r with
    | zero =>
      intro nf k m k0 hk' hnf m0 m1
      cases nf with
      | zero => omega
      | succ nf => rw [pf_X0_tillAllHear_4, bGt, e0, bLtF (by omega) (by omega) (by omega), bTill, if_pos m1]
    | succ r ih =>
      intro nf k m k0 hk' hnf m0 m1
      cases nf with
      | zero => omega
      | succ nf =>
        have db := (bDs_way hk).1 a k a0 a4 k0 (by omega)
        rw [pf_X0_tillAllHear_4, bGt, e0, bLtT (by omega) (by omega) (by omega), bCl (c_minutesOf hk hT a0 a4 k0 (by omega)), bTill]
        unfold bMi
        by_cases h : bDs w a k < 1000000
        · rw [if_pos h, bEqF (by omega) (by omega) (by omega), bMx (by omega) (by omega)]
          exact ih nf (k + 1) _ (by omega) (by omega) (by omega) (by omega) (by omega)
        · rw [if_neg h, bEqT (by omega) rfl, bTill_hi _ _ _ (by omega)]
  exact L (w 0).toNat on_N 0 0 (by omega) (by omega) (by unfold on_N; omega) (by omega) (by omega)
theorem m_lastFrom (hk : bOk (σ 78)) {a : Int} (a0 : 0 ≤ a) (a4 : a < 4) : ∃ σ' : on_S, pf_X12_lastFrom a σ = some (bLas (σ 78) a, σ') ∧ ∀ c, c ≠ 93 → σ' c = σ c := by
  have hc := hk.c.1
  obtain ⟨σ2, b1, b2, b3⟩ := m_spreads hk a0 a4
  have w2 : σ2 78 = σ 78 := b2 78 (by omega)
  have L : ∀ (r nf : Nat) (k m : Int), 0 ≤ k → k + (r : Int) = σ 78 0 → r < nf → 0 ≤ m → m ≤ 1000000 → pf_X12_lastFrom_9 nf m k σ2 = some (bTill (σ 78) a r k m, σ2) := by
    intro r
    induction r with
    | zero =>
      intro nf k m k0 hk' hnf m0 m1
      cases nf with
      | zero => omega
      | succ nf =>
        rw [pf_X12_lastFrom_9, bRd (by omega) (by omega), w2, bLtF (by omega) (by omega) (by omega), bTill]
        by_cases h : m < 1000000
        · rw [bLtT (by omega) (by omega) h, if_pos h]
        · rw [bLtF (by omega) (by omega) (by omega), if_neg h]
    | succ r ih =>
      intro nf k m k0 hk' hnf m0 m1
      cases nf with
      | zero => omega
      | succ nf =>
        have db := (bDs_way hk).1 a k a0 a4 k0 (by omega)
        rw [pf_X12_lastFrom_9, bRd (by omega) (by omega), w2, bLtT (by omega) (by omega) (by omega), bRd (by omega) (by omega), b3 k k0 (by omega), bDs_sym hk k a k0 (by omega) a0 a4, bMx (by omega) (by omega), bTill]
        exact ih nf (k + 1) _ (by omega) (by omega) (by omega) (by omega) (by omega)
  refine ⟨σ2, ?_, b2⟩
  unfold pf_X12_lastFrom
  rw [bCl b1]
  exact L (σ 78 0).toNat on_N 0 0 (by omega) (by omega) (by unfold on_N; omega) (by omega) (by omega)
theorem o_last (hI : bI n σ) (hp : on_R p) : bOp n σ (pf_X11_last p) (pf_X12_last p) := by
  have hc := hI.k.c.1
  by_cases hs : 0 ≤ p ∧ p < σ 78 0
  · obtain ⟨σ1, a1, a2, a3⟩ := c_roads hI.k hI.r
    have i1 : bI n σ1 := hI.idle fun c hc => a2 c (by omega)
    have w1 : σ1 78 = σ 78 := a2 78 (by omega)
    obtain ⟨σ2, b1, b2⟩ := m_lastFrom (σ := σ1) i1.k (a := p) (by omega) (by omega)
    have lb := bLas_b hI.k (a := p) (by omega) (by omega)
    have r1 : bRp 2 (σ 78) σ1 := by rw [← w1]; exact i1.r
    rw [w1] at b1
    refine ⟨bLas (σ 78) p, σ1, σ2, ?_, ?_, by omega, i1.idle fun c hc => b2 c (by omega)⟩
    · unfold pf_X11_last
      rw [bCl (c_hasHouse hI.k hI.r hp), bE01, if_pos hs, bCl a1, bCl (c_tillAllHear hI.k r1 a3 (by omega) (by omega))]
    · unfold pf_X12_last
      rw [bCl (m_isHouse i1.k hp), bE01, w1, if_pos hs, bCl b1]
  · refine bOp.no (r := -2) hI (by omega) ?_ ?_
    · unfold pf_X11_last
      rw [bCl (c_hasHouse hI.k hI.r hp), bE01, if_neg hs]
    · unfold pf_X12_last
      rw [bCl (m_isHouse hI.k hp), bE01, if_neg hs]
theorem bMid_b {f : Int → Int} : ∀ (r : Nat) (k l : Int), 0 ≤ k → k + (r : Int) ≤ 4 → (-1 ≤ l ∧ l < k) → -1 ≤ bMid f r k l ∧ bMid f r k l < 4 := by
  intro r
  induction r with
  | zero => intro k l _ _ h; rw [bMid]; omega
  | succ r ih =>
    intro k l k0 hk h
    rw [bMid]
    refine ih _ _ (by omega) (by omega) ?_
    split
    · omega
    · split
      · omega
      · split <;> omega
theorem o_middle (hI : bI n σ) : bOp n σ pf_X11_middle pf_X12_middle := by
  have hc := hI.k.c.1
  by_cases hs : 0 < σ 78 7
  · obtain ⟨σ1, a1, a2, a3⟩ := c_roads hI.k hI.r
    have i1 : bI n σ1 := hI.idle fun c hc => a2 c (by omega)
    have w1 : σ1 78 = σ 78 := a2 78 (by omega)
    have r1 : bRp 2 (σ 78) σ1 := by rw [← w1]; exact i1.r
    have e0 : σ1 2 0 = σ 78 0 := r1.c.1
    have C : ∀ (r nf : Nat) (k l m : Int), 0 ≤ k → k + (r : Int) = σ 78 0 → r < nf → (-1 ≤ l ∧ l < k) → (l ≠ -1 → m = bLas (σ 78) l) → (0 ≤ m ∧ m < 1000000) → pf_X11_middle_26 nf l m k σ1 = some (bMid (bLas (σ 78)) r k l, σ1) := by
      intro r
      induction r with
      | zero =>
        intro nf k l m k0 hk hnf hl hm hmb
        cases nf with
        | zero => omega
        | succ nf => rw [pf_X11_middle_26, bGt, e0, bLtF (by omega) (by omega) (by omega), bMid]
      | succ r ih =>
        intro nf k l m k0 hk hnf hl hm hmb
        cases nf with
        | zero => omega
        | succ nf =>
          have lb := bLas_b hI.k (a := k) (by omega) (by omega)
          rw [pf_X11_middle_26, bGt, e0, bLtT (by omega) (by omega) (by omega), bCl (c_tillAllHear hI.k r1 a3 (by omega) (by omega)), bMid]
          by_cases z : bLas (σ 78) k = -1
          · rw [bEqT (by omega) z, if_pos z]
            exact ih nf (k + 1) l m (by omega) (by omega) (by omega) (by omega) hm hmb
          · rw [bEqF (by omega) (by omega) z, if_neg z]
            by_cases y : l = -1
            · rw [bEqT (by omega) y, if_pos y]
              exact ih nf (k + 1) k _ (by omega) (by omega) (by omega) (by omega) (fun _ => rfl) (by omega)
            · rw [bEqF (by omega) (by omega) y, if_neg y, hm y]
              have lc := bLas_b hI.k (a := l) (by omega) (by omega)
              by_cases x : bLas (σ 78) k < bLas (σ 78) l
              · rw [bLtT (by omega) (by omega) x, if_pos x]
                exact ih nf (k + 1) k _ (by omega) (by omega) (by omega) (by omega) (fun _ => rfl) (by omega)
              · rw [bLtF (by omega) (by omega) (by omega), if_neg x, ← hm y]
                exact ih nf (k + 1) l m (by omega) (by omega) (by omega) (by omega) hm hmb
    have M : ∀ (r nf : Nat) (k l : Int) (σ' : on_S), 0 ≤ k → k + (r : Int) = σ 78 0 → r < nf → (-1 ≤ l ∧ l < k) → (∀ c, c ≠ 93 → σ' c = σ1 c) → ∃ σ'' : on_S, pf_X12_middle_14 nf l k σ' = some (bMid (bLas (σ 78)) r k l, σ'') ∧ ∀ c, c ≠ 93 → σ'' c = σ1 c := by
      intro r
      induction r with
      | zero =>
        intro nf k l σ' k0 hk hnf hl h1
        have w2 : σ' 78 = σ 78 := by rw [h1 78 (by omega), w1]
        cases nf with
        | zero => omega
        | succ nf => exact ⟨σ', by rw [pf_X12_middle_14, bRd (by omega) (by omega), w2, bLtF (by omega) (by omega) (by omega), bMid], h1⟩
      | succ r ih =>
        intro nf k l σ' k0 hk hnf hl h1
        have w2 : σ' 78 = σ 78 := by rw [h1 78 (by omega), w1]
        cases nf with
        | zero => omega
        | succ nf =>
          have lb := bLas_b hI.k (a := k) (by omega) (by omega)
          obtain ⟨σ2, b1, b2⟩ := m_lastFrom (σ := σ') (by rw [w2]; exact hI.k) (a := k) (by omega) (by omega)
          have f2 : ∀ c, c ≠ 93 → σ2 c = σ1 c := fun c hc => by rw [b2 c hc]; exact h1 c hc
          have w3 : σ2 78 = σ 78 := by rw [f2 78 (by omega), w1]
          rw [w2] at b1
          rw [pf_X12_middle_14, bRd (by omega) (by omega), w2, bLtT (by omega) (by omega) (by omega), bCl b1, bMid]
          by_cases z : bLas (σ 78) k = -1
          · rw [bEqT (by omega) z, if_pos z]
            exact ih nf (k + 1) l σ2 (by omega) (by omega) (by omega) (by omega) f2
          · rw [bEqF (by omega) (by omega) z, if_neg z]
            by_cases y : l = -1
            · rw [bEqT (by omega) y, if_pos y]
              exact ih nf (k + 1) k σ2 (by omega) (by omega) (by omega) (by omega) f2
            · have lc := bLas_b hI.k (a := l) (by omega) (by omega)
              obtain ⟨σ3, c1, c2⟩ := m_lastFrom (σ := σ2) (by rw [w3]; exact hI.k) (a := k) (by omega) (by omega)
              have f3 : ∀ c, c ≠ 93 → σ3 c = σ1 c := fun c hc => by rw [c2 c hc]; exact f2 c hc
              have w4 : σ3 78 = σ 78 := by rw [f3 78 (by omega), w1]
              obtain ⟨σ4, d1, d2⟩ := m_lastFrom (σ := σ3) (by rw [w4]; exact hI.k) (a := l) (by omega) (by omega)
              have f4 : ∀ c, c ≠ 93 → σ4 c = σ1 c := fun c hc => by rw [d2 c hc]; exact f3 c hc
              rw [w3] at c1
              rw [w4] at d1
              rw [bEqF (by omega) (by omega) y, if_neg y, bCl c1, bCl d1]
              by_cases x : bLas (σ 78) k < bLas (σ 78) l
              · rw [bLtT (by omega) (by omega) x, if_pos x]
                exact ih nf (k + 1) k σ4 (by omega) (by omega) (by omega) (by omega) f4
              · rw [bLtF (by omega) (by omega) (by omega), if_neg x]
                exact ih nf (k + 1) l σ4 (by omega) (by omega) (by omega) (by omega) f4
    obtain ⟨σ2, d1, d2⟩ := M (σ 78 0).toNat on_N 0 (-1) σ1 (by omega) (by omega) (by unfold on_N; omega) (by omega) (fun _ _ => rfl)
    have mb := bMid_b (f := bLas (σ 78)) (σ 78 0).toNat 0 (-1) (by omega) (by omega) (by omega)
    refine ⟨bMid (bLas (σ 78)) (σ 78 0).toNat 0 (-1), σ1, σ2, ?_, ?_, by omega, i1.idle fun c hc => d2 c (by omega)⟩
    · unfold pf_X11_middle
      rw [bCl (c_isThere hI.k hI.r), bE01, if_pos hs, bCl a1]
      exact C (σ 78 0).toNat on_N 0 (-1) 0 (by omega) (by omega) (by unfold on_N; omega) (by omega) (fun t => absurd rfl t) (by omega)
    · unfold pf_X12_middle
      rw [bCl (m_isStreet i1.k), bE01, w1, if_pos hs]
      exact d1
  · refine bOp.no (r := -2) hI (by omega) ?_ ?_
    · unfold pf_X11_middle
      rw [bCl (c_isThere hI.k hI.r), bE01, if_neg hs]
    · unfold pf_X12_middle
      rw [bCl (m_isStreet hI.k), bE01, if_neg hs]
theorem bStR_spec {b x : Int} : ∀ (r : Nat) (k : Int), (bStR w b x r k = -1 ∧ ∀ c : Int, k ≤ c → c < k + (r : Int) → ¬ (0 < bRoad w x c ∧ bRoad w x c + bDs w c b = bDs w x b)) ∨ ((k ≤ bStR w b x r k ∧ bStR w b x r k < k + (r : Int)) ∧ 0 < bRoad w x (bStR w b x r k) ∧ bRoad w x (bStR w b x r k) + bDs w (bStR w b x r k) b = bDs w x b) := by
  intro r
  induction r with
  | zero => intro k; exact Or.inl ⟨rfl, fun c h1 h2 => by omega⟩
  | succ r ih =>
    intro k
    rw [bStR]
    by_cases h : 0 < bRoad w x k ∧ bRoad w x k + bDs w k b = bDs w x b
    · rw [if_pos h]; exact Or.inr ⟨by omega, h⟩
    · rw [if_neg h]
      rcases ih (k + 1) with ⟨a1, a2⟩ | ⟨a1, a2⟩
      · refine Or.inl ⟨a1, fun c h1 h2 => ?_⟩
        by_cases e : c = k
        · subst e; exact h
        · exact a2 c (by omega) (by omega)
      · exact Or.inr ⟨by omega, a2⟩
/-- a house that hears -/
def bHr (w : bW) (b x : Int) : Prop := 0 ≤ x ∧ x < w 0 ∧ bDs w x b < 1000000
theorem bSt_spec (hk : bOk w) {b x : Int} (b0 : 0 ≤ b) (b4 : b < 4) (hx : bHr w b x) (hn : x ≠ b) : bSt w b x = bStR w b x (w 0).toNat 0 ∧ bHr w b (bSt w b x) ∧ bDs w (bSt w b x) b < bDs w x b := by
  have hc := hk.c.1
  obtain ⟨x0, x1, x2⟩ := hx
  have e : bSt w b x = bStR w b x (w 0).toNat 0 := by unfold bSt; rw [if_neg hn]
  rcases bStR_spec (w := w) (b := b) (x := x) (w 0).toNat 0 with ⟨a1, a2⟩ | ⟨a1, a2, a3⟩
  · exfalso
    obtain ⟨c, c0, c4, cr, -, cd⟩ := bDs_pred hk x0 (by omega) b0 b4 hn x2
    exact a2 c c0 (by have := bRoad_in hk x0 (by omega) c0 c4 cr; omega) ⟨cr, by omega⟩
  · rw [e]
    exact ⟨rfl, ⟨by omega, by omega, by omega⟩, by omega⟩
theorem bWk_no {b : Int} : ∀ r : Nat, bWk w b r (-1) = -1 := by
  intro r
  cases r with
  | zero => rfl
  | succ r => rw [bWk, if_pos rfl]
theorem bWk_at {b : Int} (b0 : 0 ≤ b) (r : Nat) : bWk w b (r + 1) b = -1 := by
  rw [bWk, if_neg (by omega), show bSt w b b = -1 by unfold bSt; rw [if_pos rfl], bWk_no]
theorem bWk_go {b x : Int} (hx : 0 ≤ x) (r : Nat) : bWk w b (r + 1) x = bWk w b r (bSt w b x) := by
  rw [bWk, if_neg (by omega)]
theorem bWk4 (hk : bOk w) {b x : Int} (b0 : 0 ≤ b) (b4 : b < 4) (hx : bHr w b x) : bWk w b 4 x = -1 := by
  have hc := hk.c.1
  by_cases e : x = b
  · rw [e]; exact bWk_at b0 3
  · obtain ⟨-, v1, d1⟩ := bSt_spec hk b0 b4 hx e
    rw [show (4 : Nat) = 3 + 1 from rfl, bWk_go hx.1]
    generalize bSt w b x = c at v1 d1
    by_cases e1 : c = b
    · rw [e1]; exact bWk_at b0 2
    · obtain ⟨-, v2, d2⟩ := bSt_spec hk b0 b4 v1 e1
      rw [show (3 : Nat) = 2 + 1 from rfl, bWk_go v1.1]
      generalize bSt w b c = d at v2 d2
      by_cases e2 : d = b
      · rw [e2]; exact bWk_at b0 1
      · obtain ⟨-, v3, d3⟩ := bSt_spec hk b0 b4 v2 e2
        rw [show (2 : Nat) = 1 + 1 from rfl, bWk_go v2.1]
        generalize bSt w b d = f at v3 d3
        by_cases e3 : f = b
        · rw [e3]; exact bWk_at b0 0
        · exfalso
          have h1 := hx.1; have h2 := hx.2.1; have h3 := v1.1; have h4 := v1.2.1; have h5 := v2.1; have h6 := v2.2.1; have h7 := v3.1; have h8 := v3.2.1
          exact bPig' (a := x) (b := c) (c := d) (d := f) (e := b) (by omega) (by omega) (by omega) (by omega) (by omega) (fun t => by rw [t] at d1; omega) (fun t => by rw [t] at d1; omega) (fun t => by rw [t] at d1; omega) e (fun t => by rw [t] at d2; omega) (fun t => by rw [t] at d2; omega) e1 (fun t => by rw [t] at d3; omega) e2 e3
theorem c_stepTo (hk : bOk w) (hR : bRp 2 w σ) (hT : bTab (bDs w) (σ 64)) {b x : Int} (b0 : 0 ≤ b) (b4 : b < 4) (x0 : 0 ≤ x) (x4 : x < 4) : pf_X0_stepTo x b σ = some (bSt w b x, σ) := by
  have hc := hk.c.1
  have e0 : σ 2 0 = w 0 := hR.c.1
  have L : ∀ (r nf : Nat) (k : Int), 0 ≤ k → k + (r : Int) = w 0 → r < nf → pf_X0_stepTo_9 nf x b k σ = some (bStR w b x r k, σ) := by
    intro r
    induction r with
    | zero =>
      intro nf k k0 hk' hnf
      cases nf with
      | zero => omega
      | succ nf => rw [pf_X0_stepTo_9, bGt, e0, bLtF (by omega) (by omega) (by omega), bStR]
    | succ r ih =>
      intro nf k k0 hk' hnf
      cases nf with
      | zero => omega
      | succ nf =>
        have d1 := (bDs_way hk).1 k b k0 (by omega) b0 b4
        have d2 := (bDs_way hk).1 x b x0 x4 b0 b4
        have rb := (hk.r x k x0 x4 k0 (by omega)).1
        rw [pf_X0_stepTo_9, bGt, e0, bLtT (by omega) (by omega) (by omega), bRd (by omega) (by omega), (hR.f x k x0 x4 k0 (by omega)).2, bRd (by omega) (by omega), hT k b k0 (by omega) b0 b4, bStR]
        by_cases z : bRoad w x k ≤ 0
        · rw [bLeT (by omega) (by omega) z, if_neg (by omega)]
          exact ih nf (k + 1) (by omega) (by omega) (by omega)
        · rw [bLeF (by omega) (by omega) (by omega), bRd (by omega) (by omega), hT x b x0 x4 b0 b4]
          by_cases y : bRoad w x k + bDs w k b = bDs w x b
          · rw [bEqT (by omega) y, if_pos (by omega)]
          · rw [bEqF (by omega) (by omega) y, if_neg (by omega)]
            exact ih nf (k + 1) (by omega) (by omega) (by omega)
  unfold pf_X0_stepTo bSt
  by_cases e : x = b
  · rw [bEqT (by omega) e, if_pos e]
  · rw [bEqF (by omega) (by omega) e, if_neg e]
    exact L (w 0).toNat on_N 0 (by omega) (by omega) (by unfold on_N; omega)
theorem o_route (hI : bI n σ) (hp : on_R p) (hq : on_R q) (hr : on_R r) : bOp n σ (pf_X11_route p q r) (pf_X12_route p q r) := by
  have hc := hI.k.c.1
  by_cases hs : 0 ≤ p ∧ p < σ 78 0
  · by_cases hz : 0 ≤ q ∧ q < σ 78 0
    · obtain ⟨σ1, a1, a2, a3⟩ := c_roads hI.k hI.r
      have i1 : bI n σ1 := hI.idle fun c hc => a2 c (by omega)
      have w1 : σ1 78 = σ 78 := a2 78 (by omega)
      have r1 : bRp 2 (σ 78) σ1 := by rw [← w1]; exact i1.r
      obtain ⟨σ2, b1, b2, b3⟩ := m_spreads (σ := σ1) i1.k (b := q) (by omega) (by omega)
      rw [w1] at b3
      have w2 : σ2 78 = σ 78 := by rw [b2 78 (by omega), w1]
      have db := (bDs_way hI.k).1 p q (by omega) (by omega) (by omega) (by omega)
      have cA : pf_X11_route p q r σ = on_Cl (pf_X0_houseOnWay p q r σ1) fun v7 σ8 => some (v7, σ8) := by
        unfold pf_X11_route
        rw [bCl (c_hasHouse hI.k hI.r hp), bE01, if_pos hs, bCl (c_hasHouse hI.k hI.r hq), bE01, if_pos hz, bCl a1]
      have mA : pf_X12_route p q r σ1 = on_Lt (bDs (σ 78) p q) 1000000 (on_Lt r 0 (some (-1, σ2)) (pf_X12_route_48 on_N q r p 0 σ2)) (some (-1, σ2)) := by
        unfold pf_X12_route
        rw [bCl (m_isHouse i1.k hp), bE01, w1, if_pos hs, bCl (m_isHouse i1.k hq), bE01, w1, if_pos hz, bCl b1, bRd (by omega) (by omega), b3 p (by omega) (by omega)]
      have fin : ∀ v : Int, on_R v → pf_X0_houseOnWay p q r σ1 = some (v, σ1) → pf_X12_route p q r σ1 = some (v, σ2) → bOp n σ (pf_X11_route p q r) (pf_X12_route p q r) := fun v hv h1 h2 => ⟨v, σ1, σ2, by rw [cA, bCl h1], h2, hv, i1.idle fun c hc => b2 c (by omega)⟩
      -- the reference takes a step
      have S : ∀ (nf : Nat) (x l : Int), bHr (σ 78) q x → x ≠ q → pf_X12_route_65 (pf_X12_route_48 nf) on_N q r x l 0 σ2 = pf_X12_route_48 nf q r (bSt (σ 78) q x) (l + 1) σ2 := by
        intro nf x l hx hn
        obtain ⟨e1, v1, d1⟩ := bSt_spec hI.k (by omega) (by omega) hx hn
        obtain ⟨x0, x1, x2⟩ := hx
        have L : ∀ (m nf' : Nat) (k : Int), 0 ≤ k → k + (m : Int) = σ 78 0 → m < nf' → bStR (σ 78) q x m k ≠ -1 → pf_X12_route_65 (pf_X12_route_48 nf) nf' q r x l k σ2 = pf_X12_route_48 nf q r (bStR (σ 78) q x m k) (l + 1) σ2 := by
          intro m
          induction m with
          | zero => intro nf' k _ _ _ h; exact absurd rfl h
          | succ m ih =>
            intro nf' k k0 hk hnf h
            cases nf' with
            | zero => omega
            | succ nf' =>
              have d1 := (bDs_way hI.k).1 k q k0 (by omega) (by omega) (by omega)
              have d2 := (bDs_way hI.k).1 x q x0 (by omega) (by omega) (by omega)
              have rb := (hI.k.r x k x0 (by omega) k0 (by omega)).1
              rw [bStR] at h ⊢
              rw [pf_X12_route_65]
              by_cases e : k = x
              · subst e
                have z : ¬ (0 < bRoad (σ 78) k k ∧ bRoad (σ 78) k k + bDs (σ 78) k q = bDs (σ 78) k q) := by omega
                rw [if_neg z] at h ⊢
                rw [bEqT (by omega) rfl]
                exact ih nf' (k + 1) (by omega) (by omega) (by omega) h
              · rw [bEqF (by omega) (by omega) e, bCl (m_roadOf (by omega) (by omega)), w2]
                by_cases z : bRoad (σ 78) x k = 0
                · rw [if_neg (by omega)] at h ⊢
                  rw [bEqT (by omega) z]
                  exact ih nf' (k + 1) (by omega) (by omega) (by omega) h
                · rw [bEqF (by omega) (by omega) z, bRd (by omega) (by omega), bCl (m_roadOf (by omega) (by omega)), w2, bRd (by omega) (by omega), b3 k k0 (by omega), b3 x x0 (by omega)]
                  by_cases y : bRoad (σ 78) x k + bDs (σ 78) k q = bDs (σ 78) x q
                  · rw [if_pos (by omega), bEqT (by omega) (by omega)]
                  · rw [if_neg (by omega)] at h ⊢
                    rw [bEqF (by omega) (by omega) (by omega)]
                    exact ih nf' (k + 1) (by omega) (by omega) (by omega) h
        rw [L (σ 78 0).toNat on_N 0 (by omega) (by omega) (by unfold on_N; omega) (by rw [← e1]; have := v1.1; omega), ← e1]
      have C : ∀ (m nf : Nat) (k x : Int), 0 ≤ k → k + (m : Int) = r → m < nf → m ≤ 3 → (x = -1 ∨ bHr (σ 78) q x) → pf_X0_houseOnWay_27 nf q r x k σ1 = some (bWk (σ 78) q m x, σ1) := by
        intro m
        induction m with
        | zero =>
          intro nf k x k0 hk hnf h3 hx
          cases nf with
          | zero => omega
          | succ nf => rw [pf_X0_houseOnWay_27, bLtF (by omega) (by omega) (by omega)]; rfl
        | succ m ih =>
          intro nf k x k0 hk hnf h3 hx
          cases nf with
          | zero => omega
          | succ nf =>
            rw [pf_X0_houseOnWay_27, bLtT (by omega) (by omega) (by omega)]
            rcases hx with hx | hx
            · rw [bEqT (by omega) hx, hx, bWk_no]
            · have x0 := hx.1
              have x1 := hx.2.1
              rw [bEqF (by omega) (by omega) (by omega), bCl (c_stepTo hI.k r1 a3 (by omega) (by omega) x0 (by omega)), bWk_go x0]
              refine ih nf (k + 1) _ (by omega) (by omega) (by omega) (by omega) ?_
              by_cases e : x = q
              · exact Or.inl (by unfold bSt; rw [if_pos e])
              · exact Or.inr (bSt_spec hI.k (by omega) (by omega) hx e).2.1
      have M1 : ∀ (m nf : Nat) (k x : Int), 0 ≤ k → k + (m : Int) = r → m < nf → m ≤ 3 → bHr (σ 78) q x → pf_X12_route_48 nf q r x k σ2 = some (bWk (σ 78) q m x, σ2) := by
        intro m
        induction m with
        | zero =>
          intro nf k x k0 hk hnf h3 hx
          cases nf with
          | zero => omega
          | succ nf => rw [pf_X12_route_48, bLtF (by omega) (by omega) (by omega)]; rfl
        | succ m ih =>
          intro nf k x k0 hk hnf h3 hx
          have x0 := hx.1
          have x1 := hx.2.1
          cases nf with
          | zero => omega
          | succ nf =>
            rw [pf_X12_route_48, bLtT (by omega) (by omega) (by omega)]
            by_cases e : x = q
            · rw [bEqT (by omega) e, e, bWk_at (by omega)]
            · rw [bEqF (by omega) (by omega) e, S nf x k hx e, bWk_go x0]
              exact ih nf (k + 1) _ (by omega) (by omega) (by omega) (by omega) (bSt_spec hI.k (by omega) (by omega) hx e).2.1
      have M2 : ∀ (m nf : Nat) (k x : Int), 0 ≤ k → k + (m : Int) ≤ r → m < nf → bWk (σ 78) q m x = -1 → bHr (σ 78) q x → pf_X12_route_48 nf q r x k σ2 = some (-1, σ2) := by
        intro m
        induction m with
        | zero => intro nf k x k0 hk hnf h hx; have : x = -1 := h; have := hx.1; omega
        | succ m ih =>
          intro nf k x k0 hk hnf h hx
          have x0 := hx.1
          have x1 := hx.2.1
          cases nf with
          | zero => omega
          | succ nf =>
            rw [pf_X12_route_48, bLtT (by omega) (by omega) (by omega)]
            by_cases e : x = q
            · rw [bEqT (by omega) e]
            · rw [bWk_go x0] at h
              rw [bEqF (by omega) (by omega) e, S nf x k hx e]
              exact ih nf (k + 1) _ (by omega) (by omega) (by omega) h (bSt_spec hI.k (by omega) (by omega) hx e).2.1
      have mi := c_minutesOf (σ := σ1) hI.k a3 (a := p) (b := q) (by omega) (by omega) (by omega) (by omega)
      have mb := bMi_b hI.k (a := p) (b := q) (by omega) (by omega) (by omega) (by omega)
      by_cases g0 : r < 0
      · refine fin (-1) (by omega) ?_ ?_
        · unfold pf_X0_houseOnWay; rw [bLtT (by omega) (by omega) g0]
        · rw [mA]
          by_cases h : bDs (σ 78) p q < 1000000
          · rw [bLtT (by omega) (by omega) h, bLtT (by omega) (by omega) g0]
          · rw [bLtF (by omega) (by omega) (by omega)]
      · by_cases h : bDs (σ 78) p q < 1000000
        · have hv : bHr (σ 78) q p := ⟨hs.1, hs.2, h⟩
          have me : bMi (σ 78) p q = bDs (σ 78) p q := by unfold bMi; rw [if_pos h]
          by_cases g4 : r < 4
          · have wb : ∀ (m : Nat) (x : Int), (x = -1 ∨ bHr (σ 78) q x) → -1 ≤ bWk (σ 78) q m x ∧ bWk (σ 78) q m x < 4 := by
              intro m
              induction m with
              | zero =>
                intro x hx
                rcases hx with hx | hx
                · rw [hx, bWk_no]; omega
                · have := hx.1; have := hx.2.1; rw [bWk]; omega
              | succ m ih =>
                intro x hx
                rcases hx with hx | hx
                · rw [hx, bWk_no]; omega
                · rw [bWk_go hx.1]
                  refine ih _ ?_
                  by_cases e : x = q
                  · exact Or.inl (by unfold bSt; rw [if_pos e])
                  · exact Or.inr (bSt_spec hI.k (by omega) (by omega) hx e).2.1
            have := wb r.toNat p (Or.inr hv)
            refine fin (bWk (σ 78) q r.toNat p) (by omega) ?_ ?_
            · unfold pf_X0_houseOnWay
              rw [bLtF (by omega) (by omega) (by omega), bLtT (by omega) (by omega) g4, bCl mi, bEqF (by omega) (by omega) (by omega)]
              exact C r.toNat on_N 0 p (by omega) (by omega) (by unfold on_N; omega) (by omega) (Or.inr hv)
            · rw [mA, bLtT (by omega) (by omega) h, bLtF (by omega) (by omega) (by omega)]
              exact M1 r.toNat on_N 0 p (by omega) (by omega) (by unfold on_N; omega) (by omega) hv
          · refine fin (-1) (by omega) ?_ ?_
            · unfold pf_X0_houseOnWay
              rw [bLtF (by omega) (by omega) (by omega), bLtF (by omega) (by omega) (by omega)]
            · rw [mA, bLtT (by omega) (by omega) h, bLtF (by omega) (by omega) (by omega)]
              exact M2 4 on_N 0 p (by omega) (by omega) (by unfold on_N; omega) (bWk4 hI.k (by omega) (by omega) hv) hv
        · have me : bMi (σ 78) p q = -1 := by unfold bMi; rw [if_neg h]
          refine fin (-1) (by omega) ?_ ?_
          · unfold pf_X0_houseOnWay
            rw [bLtF (by omega) (by omega) (by omega)]
            by_cases g4 : r < 4
            · rw [bLtT (by omega) (by omega) g4, bCl mi, bEqT (by omega) me]
            · rw [bLtF (by omega) (by omega) (by omega)]
          · rw [mA, bLtF (by omega) (by omega) (by omega)]
    · refine bOp.no (r := -2) hI (by omega) ?_ ?_
      · unfold pf_X11_route
        rw [bCl (c_hasHouse hI.k hI.r hp), bE01, if_pos hs, bCl (c_hasHouse hI.k hI.r hq), bE01, if_neg hz]
      · unfold pf_X12_route
        rw [bCl (m_isHouse hI.k hp), bE01, if_pos hs, bCl (m_isHouse hI.k hq), bE01, if_neg hz]
  · refine bOp.no (r := -2) hI (by omega) ?_ ?_
    · unfold pf_X11_route
      rw [bCl (c_hasHouse hI.k hI.r hp), bE01, if_neg hs]
    · unfold pf_X12_route
      rw [bCl (m_isHouse hI.k hp), bE01, if_neg hs]
end O51
