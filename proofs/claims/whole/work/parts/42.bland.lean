/-! B: a jump on a net -/
/-- but for knots -/
def bKx (w w' : bW) : Prop := ∀ i : Int, ¬ (65 ≤ i ∧ i < 69) → ¬ (72 ≤ i ∧ i < 76) → w' i = w i
theorem bKx.rf (w : bW) : bKx w w := fun _ _ _ => rfl
theorem bKx.tr {w w' w'' : bW} (a : bKx w w') (b : bKx w' w'') : bKx w w'' := fun i h1 h2 => (b i h1 h2).trans (a i h1 h2)
section K42
variable {w w' : bW} {σ σ' : on_S}
theorem bKx.rg (h : bKx w w') {l t : Int} (hl : t ≤ 62 ∨ 76 ≤ l) : bRg w w' l t := fun i i0 i1 => h i (by omega) (by omega)
theorem bKx.net (h : bKx w w') {n q : Int} (n0 : 0 ≤ n) (n1 : n < 2) (q0 : 0 ≤ q) (q1 : q < 3) : bNet w' n q = bNet w n q := h _ (by omega) (by omega)
theorem bKx.netAt (h : bKx w w') (hc : bOkC w) (x : Int) : bNetAt w' x = bNetAt w x := by
  obtain ⟨q0, q1, q2, q3, q4, q5, q6, q7⟩ := hc
  unfold bNetAt
  rw [h 4 (by omega) (by omega)]
  exact bFst_congr _ _ (fun j j0 j1 => by rw [h.net (n := j) (q := 0) (by omega) (by omega) (by omega) (by omega)])
theorem bKx.at (h : bKx w w') (hc : bOkC w) (n : Int) : bAt w' n = bAt w n := by
  funext c; exact bRg.manAt hc (h.rg (by omega)) (h.rg (by omega)) n c
theorem bKx.ok (h : bKx w w') (hk : bOk w) (hw : ∀ n, 0 ≤ n → n < w 4 → ∀ c, 0 ≤ c → c < 4 → 0 ≤ bNet w' n (3 + c) ∧ bNet w' n (3 + c) ≤ 99) : bOk w' := by
  obtain ⟨k1, k2, k3, k4, k5, k6, k7, k8, k9, k10, k11⟩ := hk
  obtain ⟨q0, q1, q2, q3, q4, q5, q6, q7⟩ := id k1
  have a0 := h.rg (l := 0) (t := 8) (by omega)
  have aJ := h.rg (l := 173) (t := 191) (by omega)
  refine ⟨k1.rg a0, bOkW.rg k1 k2 a0 (h.rg (by omega)), bOkM.rg k1 k3 a0 (h.rg (by omega)), bOkD.rg k1 k4 a0 (h.rg (by omega)), ?_, ?_, k7.rg (h.rg (by omega)), k8.rg (h.rg (by omega)), bOkJ.rg k1 k9 a0 aJ, k10.rg a0 (h.rg (by omega)), bOkP.rg k1 k11 a0 (h.netAt k1) aJ (h.rg (by omega))⟩
  · intro n n0 n1
    rw [a0 4 (by omega) (by omega)] at n1
    have hn := k5 n n0 n1
    rw [a0 2 (by omega) (by omega), h.net (q := 0) n0 (by omega) (by omega) (by omega), h.net (q := 1) n0 (by omega) (by omega) (by omega), h.net (q := 2) n0 (by omega) (by omega) (by omega)]
    exact ⟨hn.1, hn.2.1, hn.2.2.1, hw n n0 n1⟩
  · intro m m' m0 m1 n0 n1
    rw [a0 4 (by omega) (by omega)] at m1 n1
    rw [h.net (q := 0) m0 (by omega) (by omega) (by omega), h.net (q := 0) n0 (by omega) (by omega) (by omega)]
    exact k6 m m' m0 m1 n0 n1
theorem bKx.rp (h : bKx w w') (hk : bOk w) (hR : bRp 2 w σ) (hC : ∀ c : Nat, 2 ≤ c → c ≤ 25 → c ≠ 20 → σ' c = σ c) (h20 : ∀ n c, 0 ≤ n → n < w 4 → 0 ≤ c → c < 4 → σ' (2 + 18) ((n * 4) + c) = bNet w' n (3 + c)) : bRp 2 w' σ' := by
  obtain ⟨k1, k2, k3, k4, k5, k6, k7, k8, k9, k10, k11⟩ := hk
  obtain ⟨q0, q1, q2, q3, q4, q5, q6, q7⟩ := id k1
  obtain ⟨r1, r2, r3, r4, r5, r6, r7, r8, r9⟩ := hR
  have a0 := h.rg (l := 0) (t := 8) (by omega)
  refine ⟨r1.rg a0 (hC 2 (by omega) (by omega) (by omega)) (hC 10 (by omega) (by omega) (by omega)) (hC 16 (by omega) (by omega) (by omega)) (hC 22 (by omega) (by omega) (by omega)), bRpW.rg k1 r2 a0 (h.rg (by omega)) (h.netAt k1) (hC 3 (by omega) (by omega) (by omega)) (hC 4 (by omega) (by omega) (by omega)) (hC 5 (by omega) (by omega) (by omega)), bRpJ.rg k1 r3 a0 (h.rg (by omega)) (hC 6 (by omega) (by omega) (by omega)) (hC 7 (by omega) (by omega) (by omega)), r4.rg (h.rg (by omega)) (h.rg (by omega)) (hC 8 (by omega) (by omega) (by omega)) (hC 9 (by omega) (by omega) (by omega)), bRpM.rg k1 r5 a0 (h.rg (by omega)) (hC 11 (by omega) (by omega) (by omega)) (hC 12 (by omega) (by omega) (by omega)) (hC 13 (by omega) (by omega) (by omega)) (hC 14 (by omega) (by omega) (by omega)), r6.rg (h.rg (by omega)) (hC 15 (by omega) (by omega) (by omega)), ?_, bRpH.rg k1 r8 a0 (h.rg (by omega)) (hC 21 (by omega) (by omega) (by omega)), bRpP.rg k1 r9 a0 (h.rg (by omega)) (hC 23 (by omega) (by omega) (by omega)) (hC 24 (by omega) (by omega) (by omega)) (hC 25 (by omega) (by omega) (by omega))⟩
  intro n n0 n1
  rw [a0 4 (by omega) (by omega)] at n1
  obtain ⟨e1, e2, e3, e4⟩ := r7 n n0 n1
  rw [hC (2 + 15) (by omega) (by omega) (by omega), hC (2 + 16) (by omega) (by omega) (by omega), hC (2 + 17) (by omega) (by omega) (by omega), h.net (q := 0) n0 (by omega) (by omega) (by omega), h.net (q := 1) n0 (by omega) (by omega) (by omega), h.net (q := 2) n0 (by omega) (by omega) (by omega)]
  exact ⟨e1, e2, e3, fun c c0 c1 => h20 n c n0 n1 c0 c1⟩
theorem bKx.left (h : bKx w w') (hk : bOk w) {p : Int → Int} (hp : bPo w p) {x made c : Int} (x0 : 0 ≤ x) (x1 : x < w 2) (c0 : 0 ≤ c) (c1 : c < 4) : bLeft w' p x made c = bLeft w p x made c := by
  obtain ⟨q0, q1, q2, q3, q4, q5, q6, q7⟩ := hk.c
  have hx := (hk.wi x x0 x1).1
  have pq : ∀ a d, 0 ≤ a → a < 4 → 0 ≤ d → d < 4 → bPq w' p a d = bPq w p a d := by
    intro a d a0 a1 d0 d1
    have hpa := hp a a0 a1
    have hpd := hp d d0 d1
    unfold bPq
    by_cases e : p a = -1 ∨ p d = -1
    · rw [if_pos e, if_pos e]
    · rw [if_neg e, if_neg e]
      exact h.rg (l := 76) (t := 157) (by omega) _ (by omega) (by omega)
  have hpc := hp c c0 c1
  have pm : ∀ a, 0 ≤ a → a < 4 → bPm w' p made a = bPm w p made a := by
    intro a a0 a1
    unfold bPm
    rw [pq a ((a + 1) % 4) a0 a1 (by omega) (by omega)]
  unfold bLeft
  rw [pm c c0 c1, pm ((c + 3) % 4) (by omega) (by omega)]
  by_cases z : p c = -1
  · rw [if_pos (Or.inl z), if_pos (Or.inl z)]
  · have hm := hk.m (p c) (by omega) (by omega)
    have eW : bWill w' (p c) x ↔ bWill w (p c) x := by
      unfold bWill
      rw [(h.rg (l := 26) (t := 62) (by omega)).man (q := 0) (by omega) (by omega) (by omega) (by omega), show bHouse w' x = bHouse w x from h.rg (l := 8) (t := 26) (by omega) _ (by omega) (by omega), show bFd w' (bMan w (p c) 0) (bHouse w x) = bFd w (bMan w (p c) 0) (bHouse w x) from h.rg (l := 157) (t := 173) (by omega) _ (by omega) (by omega)]
    by_cases y : bWill w (p c) x
    · rw [if_neg (fun t => t.elim z (fun s => s (eW.mpr y))), if_neg (fun t => t.elim z (fun s => s y)), (h.rg (l := 26) (t := 62) (by omega)).man (q := 1) (by omega) (by omega) (by omega) (by omega)]
    · rw [if_pos (Or.inr (fun s => y (eW.mp s))), if_pos (Or.inr y)]
theorem bKx.force (h : bKx w w') (hk : bOk w) {j : Int} (j0 : 0 ≤ j) (j1 : j < w 5) : bForce w' j = bForce w j ∧ bWin w' j = bWin w j := by
  obtain ⟨q0, q1, q2, q3, q4, q5, q6, q7⟩ := hk.c
  have hj := hk.j j j0 j1
  have e : bWin w' j = bWin w j := h.rg (l := 173) (t := 191) (by omega) _ (by omega) (by omega)
  unfold bForce
  rw [e, show bWt w' j = bWt w j from h.rg (l := 173) (t := 191) (by omega) _ (by omega) (by omega), show bStorey w' (bWin w j) = bStorey w (bWin w j) from h.rg (l := 8) (t := 26) (by omega) _ (by omega) (by omega)]
  exact ⟨rfl, rfl⟩
/-- what the men have left is reckoned -/
def bLf (w : bW) (σ : on_S) : Prop := ∀ n c : Int, 0 ≤ n → n < w 4 → 0 ≤ c → c < 4 → σ (2 + 24) ((n * 4) + c) = bLeft w (bAt w n) (bNet w n 0) 0 c
theorem bLf.kx (hl : bLf w σ) (hk : bOk w) (h : bKx w w') (h26 : σ' (2 + 24) = σ (2 + 24)) : bLf w' σ' := by
  obtain ⟨q0, q1, q2, q3, q4, q5, q6, q7⟩ := hk.c
  intro n c n0 n1 c0 c1
  rw [h 4 (by omega) (by omega)] at n1
  have hn := (hk.n n n0 n1).1
  rw [h26, hl n c n0 n1 c0 c1, h.at hk.c, h.net (q := 0) n0 (by omega) (by omega) (by omega), h.left hk (bAt_po hk.c n) hn.1 hn.2 c0 c1]
theorem c_measureLeft (hk : bOk w) (hR : bRp 2 w σ) : ∃ σ' : on_S, pf_X9_measureLeft 2 σ = some (0, σ') ∧ bLf w σ' ∧ ∀ c, c ≠ 26 → σ' c = σ c := by
  obtain ⟨q0, q1, q2, q3, q4, q5, q6, q7⟩ := hk.c
  have L : ∀ (r nf : Nat) (k : Int) (σ' : on_S), 0 ≤ k → k + (r : Int) = 4 * w 4 → r < nf → (∀ c, c ≠ 26 → σ' c = σ c) → (∀ n c, 0 ≤ n → n < w 4 → 0 ≤ c → c < 4 → (n * 4) + c < k → σ' (2 + 24) ((n * 4) + c) = bLeft w (bAt w n) (bNet w n 0) 0 c) → ∃ σ'' : on_S, pf_X9_measureLeft_2 2 nf k σ' = some (0, σ'') ∧ bLf w σ'' ∧ ∀ c, c ≠ 26 → σ'' c = σ c := by
    intro r
    induction r with
    | zero =>
      intro nf k σ' k0 hk1 hn h1 h2
      cases nf with
      | zero => omega
      | succ nf =>
        refine ⟨σ', ?_, fun n c n0 n1 c0 c1 => h2 n c n0 n1 c0 c1 (by omega), h1⟩
        rw [pf_X9_measureLeft_2, bGt, h1 (2 + 14) (by omega), hR.c.2.2.2.2.2.2.1, bLtF (by omega) (by omega) (by omega)]
    | succ r ih =>
      intro nf k σ' k0 hk1 hnf h1 h2
      cases nf with
      | zero => omega
      | succ nf =>
        have hR' : bRp 2 w σ' := hR.to fun j hj => h1 _ (by omega)
        rw [pf_X9_measureLeft_2, bGt, h1 (2 + 14) (by omega), hR.c.2.2.2.2.2.2.1, bLtT (by omega) (by omega) (by omega), bDv k0 (by omega) (by omega) (by omega), bRm k0 (by omega) (by omega) (by omega), bCl (c_leftAt hk hR' (by omega) (by omega) (by omega) (by omega)), bWr k0 (by omega)]
        refine ih nf (k + 1) _ (by omega) (by omega) (by omega) (fun c hc => by rw [bst_nc hc]; exact h1 c hc) (fun n c n0 n1 c0 c1 hlt => ?_)
        rw [bst_if]
        by_cases e : (n * 4) + c = k
        · rw [if_pos e, show k / 4 = n by omega, show k % 4 = c by omega]
        · rw [if_neg e]; exact h2 n c n0 n1 c0 c1 (by omega)
  exact L (4 * w 4).toNat on_N 0 σ (by omega) (by omega) (by unfold on_N; omega) (fun _ _ => rfl) (fun n c n0 n1 c0 c1 h => by omega)
end K42
/-- the street behind a jump of force f on net n -/
def bLd (w : bW) (n f : Int) : bW := fun i => if ((62 + (7 * n)) + 3) ≤ i ∧ i < ((62 + (7 * n)) + 7) then (if f ≤ bCar w n (bNet w n 2) then max 0 (w i - bNet w n 1 * bStorey w (bNet w n 0)) else if i = ((62 + (7 * n)) + 3) + bWeak (bHold w (bAt w n) n (bNet w n 0) (bNet w n 2)) then 0 else w i) else w i
section L42
variable {w : bW} {σ : on_S} {n f : Int}
theorem bLd_kx (n0 : 0 ≤ n) (n1 : n < 2) : bKx w (bLd w n f) := by
  intro i h1 h2
  unfold bLd
  rw [if_neg (by omega)]
theorem bLd_net (n0 : 0 ≤ n) (n1 : n < 2) {m c : Int} (c0 : 0 ≤ c) (c1 : c < 4) : bNet (bLd w n f) m (3 + c) = if m = n then (if f ≤ bCar w n (bNet w n 2) then max 0 (bNet w n (3 + c) - bNet w n 1 * bStorey w (bNet w n 0)) else if c = bWeak (bHold w (bAt w n) n (bNet w n 0) (bNet w n 2)) then 0 else bNet w n (3 + c)) else bNet w m (3 + c) := by
  show bLd w n f ((62 + (7 * m)) + (3 + c)) = _
  unfold bLd
  by_cases e : m = n
  · subst e
    rw [if_pos (by omega), if_pos rfl]
    by_cases z : f ≤ bCar w m (bNet w m 2)
    · rw [if_pos z, if_pos z]; rfl
    · rw [if_neg z, if_neg z]
      by_cases g : c = bWeak (bHold w (bAt w m) m (bNet w m 0) (bNet w m 2))
      · rw [if_pos g, if_pos (by omega)]
      · rw [if_neg g, if_neg (by omega)]; rfl
  · rw [if_neg (by omega), if_neg e]; rfl
theorem bOff_b (hk : bOk w) (n0 : 0 ≤ n) (n1 : n < w 4) : 0 ≤ bNet w n 1 * bStorey w (bNet w n 0) ∧ bNet w n 1 * bStorey w (bNet w n 0) ≤ 54 := by
  have hn := hk.n n n0 n1
  have hw := (hk.wi _ hn.1.1 hn.1.2).2
  have a := Int.mul_nonneg hn.2.1.1 (show 0 ≤ bStorey w (bNet w n 0) by omega)
  have b := Int.mul_le_mul hn.2.1.2 hw.2 (by omega) (by omega)
  omega
theorem bLd_ok (hk : bOk w) (n0 : 0 ≤ n) (n1 : n < w 4) : bOk (bLd w n f) := by
  obtain ⟨q0, q1, q2, q3, q4, q5, q6, q7⟩ := hk.c
  have ho := bOff_b hk n0 n1
  refine (bLd_kx n0 (by omega)).ok hk (fun m m0 m1 c c0 c1 => ?_)
  have hm := (hk.n m m0 m1).2.2.2 c c0 c1
  have hn := (hk.n n n0 n1).2.2.2 c c0 c1
  rw [bLd_net n0 (by omega) c0 c1]
  split
  · split
    · omega
    · split <;> omega
  · exact hm
theorem c_fallInto (hk : bOk w) (hR : bRp 2 w σ) (hL : bLf w σ) (n0 : 0 ≤ n) (n1 : n < w 4) (hf : on_R f) : ∃ σ' : on_S, pf_X9_fallInto 2 n f σ = some (if f ≤ bCar w n (bNet w n 2) then -1 else bWeak (bHold w (bAt w n) n (bNet w n 0) (bNet w n 2)), σ') ∧ bRp 2 (bLd w n f) σ' ∧ (∀ c, c ≠ 20 → σ' c = σ c) := by
  obtain ⟨q0, q1, q2, q3, q4, q5, q6, q7⟩ := hk.c
  have hn := hk.n n n0 n1
  obtain ⟨u1, u2, u3, u4⟩ := hR.n n n0 n1
  have ho := bOff_b hk n0 n1
  have hb : ∀ c : Int, 0 ≤ c → c < 4 → 0 ≤ bHold w (bAt w n) n (bNet w n 0) (bNet w n 2) c ∧ bHold w (bAt w n) n (bNet w n 0) (bNet w n 2) c ≤ 99 := fun c c0 c1 => bHold_b hk n0 n1 c0 c1
  have hmin : ∀ c : Int, 0 ≤ c → c < 4 → min (bLeft w (bAt w n) (bNet w n 0) 0 c) (bKn w n (bNet w n 2) c) = bHold w (bAt w n) n (bNet w n 0) (bNet w n 2) c := fun c c0 c1 => bHoldM0 hk (bAt_po hk.c n) n0 n1 c0 c1
  have hcar : bCar w n (bNet w n 2) = 4 * bLst (bHold w (bAt w n) n (bNet w n 0) (bNet w n 2)) := rfl
  have hwk := bWeak_b (bHold w (bAt w n) n (bNet w n 0) (bNet w n 2))
  have hwv := bWeak_v (bHold w (bAt w n) n (bNet w n 0) (bNet w n 2))
  have hls := bLst_b (f := bHold w (bAt w n) n (bNet w n 0) (bNet w n 2)) hb
  have meas : ∀ k : Int, 0 ≤ k → k < 4 → pf_X9_holdAsMeasured 2 n k σ = some (bHold w (bAt w n) n (bNet w n 0) (bNet w n 2) k, σ) := by
    intro k k0 k1
    have h1 := hb k k0 k1
    have h2 := bLeft_b hk (bAt_po hk.c n) (x := bNet w n 0) (made := 0) k0 k1
    have h3 := bKn_b hk (wet := bNet w n 2) n0 n1 k0 k1
    unfold pf_X9_holdAsMeasured
    rw [bRd (by omega) (by omega), hL n k n0 n1 k0 k1, bRd n0 (by omega), u3, bCl (c_knotIf hk hR n0 n1 k0 k1 (by omega)), bMn (by omega) (by omega), hmin k k0 k1]
  have step : ∀ (nf : Nat) (a l k : Int), 0 ≤ k → k < 4 → on_R l → pf_X9_fallInto_13 2 (nf + 1) n f a l k σ = pf_X9_fallInto_13 2 nf n f (if bHold w (bAt w n) n (bNet w n 0) (bNet w n 2) k < l then k else a) (if bHold w (bAt w n) n (bNet w n 0) (bNet w n 2) k < l then bHold w (bAt w n) n (bNet w n 0) (bNet w n 2) k else l) (k + 1) σ := by
    intro nf a l k k0 k1 hl
    have h1 := hb k k0 k1
    rw [pf_X9_fallInto_13, bLtT (by omega) (by omega) k1, bCl (meas k k0 k1)]
    by_cases e : bHold w (bAt w n) n (bNet w n 0) (bNet w n 2) k < l
    · rw [bLtT (by omega) (by omega) e, if_pos e, if_pos e]
    · rw [bLtF (by omega) (by omega) (by omega), if_neg e, if_neg e]
  have loop : pf_X9_fallInto 2 n f σ = pf_X9_fallInto_13 2 99997 n f (bWeak (bHold w (bAt w n) n (bNet w n 0) (bNet w n 2))) (bHold w (bAt w n) n (bNet w n 0) (bNet w n 2) (bWeak (bHold w (bAt w n) n (bNet w n 0) (bNet w n 2)))) 4 σ := by
    unfold pf_X9_fallInto bWeak
    dsimp only
    rw [bCl (meas 0 (by omega) (by omega))]
    generalize bHold w (bAt w n) n (bNet w n 0) (bNet w n 2) = g at hb step ⊢
    have g0 := hb 0 (by omega) (by omega)
    have g1 := hb 1 (by omega) (by omega)
    have g2 := hb 2 (by omega) (by omega)
    have g3 := hb 3 (by omega) (by omega)
    rw [show on_N = 99997 + 1 + 1 + 1 from rfl, step _ _ _ 1 (by omega) (by omega) (by omega), show (1 + 1 : Int) = 2 from rfl]
    have e1 : (if g 1 < g 0 then g 1 else g 0) = g (if g 1 < g 0 then 1 else 0) := by split <;> rfl
    rw [e1]
    generalize hA : (if g 1 < g 0 then (1 : Int) else 0) = A
    have hA1 : 0 ≤ A ∧ A < 4 := by rw [← hA]; split <;> omega
    have gA := hb A hA1.1 hA1.2
    rw [step _ _ _ 2 (by omega) (by omega) (by omega), show (2 + 1 : Int) = 3 from rfl]
    have e2 : (if g 2 < g A then g 2 else g A) = g (if g 2 < g A then 2 else A) := by split <;> rfl
    rw [e2]
    generalize hB : (if g 2 < g A then (2 : Int) else A) = B
    have hB1 : 0 ≤ B ∧ B < 4 := by rw [← hB]; split <;> omega
    have gB := hb B hB1.1 hB1.2
    rw [step _ _ _ 3 (by omega) (by omega) (by omega), show (3 + 1 : Int) = 4 from rfl]
    have e3 : (if g 3 < g B then g 3 else g B) = g (if g 3 < g B then 3 else B) := by split <;> rfl
    rw [e3]
  rw [loop, show (99997 : Nat) = 99996 + 1 from rfl, pf_X9_fallInto_13, bLtF (by omega) (by omega) (by omega), hwv]
  by_cases z : f ≤ bCar w n (bNet w n 2)
  · rw [bLeT hf (by omega) (by omega), if_pos z, bCl (c_storeyOf hk hR n0 n1)]
    unfold pf_X4_wearDown
    rw [bRd n0 (by omega), u2]
    have hk4 : ∀ c : Int, 0 ≤ c → c < 4 → 0 ≤ bNet w n (3 + c) ∧ bNet w n (3 + c) ≤ 99 := hn.2.2.2
    generalize hoff : bNet w n 1 * bStorey w (bNet w n 0) = off at ho
    have wd : ∀ (r nf : Nat) (k : Int) (σ' : on_S), 0 ≤ k → k + (r : Int) = 4 → r < nf → (∀ c, c ≠ 20 → σ' c = σ c) → (∀ m c, 0 ≤ m → m < w 4 → 0 ≤ c → c < 4 → σ' (2 + 18) ((m * 4) + c) = if m = n ∧ c < k then max 0 (bNet w n (3 + c) - off) else bNet w m (3 + c)) → ∃ σ'' : on_S, pf_X4_wearDown_14 2 nf n off ((n * 4) + k) σ' = some (0, σ'') ∧ (∀ c, c ≠ 20 → σ'' c = σ c) ∧ ∀ m c, 0 ≤ m → m < w 4 → 0 ≤ c → c < 4 → σ'' (2 + 18) ((m * 4) + c) = if m = n then max 0 (bNet w n (3 + c) - off) else bNet w m (3 + c) := by
      intro r
      induction r with
      | zero =>
        intro nf k σ' k0 hk1 hnf h1 h2
        cases nf with
        | zero => omega
        | succ nf =>
          refine ⟨σ', ?_, h1, fun m c m0 m1 c0 c1 => ?_⟩
          · rw [pf_X4_wearDown_14, bLtF (by omega) (by omega) (by omega)]
          · rw [h2 m c m0 m1 c0 c1]
            by_cases e : m = n
            · rw [if_pos ⟨e, by omega⟩, if_pos e]
            · rw [if_neg (fun t => e t.1), if_neg e]
      | succ r ih =>
        intro nf k σ' k0 hk1 hnf h1 h2
        cases nf with
        | zero => omega
        | succ nf =>
          have hkk := hk4 k k0 (by omega)
          have e := h2 n k n0 n1 k0 (by omega)
          rw [if_neg (by omega)] at e
          rw [pf_X4_wearDown_14, bLtT (by omega) (by omega) (by omega), bRd (by omega) (by omega), e, bMx (by omega) (by omega), bWr (by omega) (by omega), Int.add_assoc]
          refine ih nf (k + 1) _ (by omega) (by omega) (by omega) (fun c hc => by rw [bst_nc (by omega)]; exact h1 c hc) (fun m c m0 m1 c0 c1 => ?_)
          rw [bst_if]
          by_cases g : (m * 4) + c = (n * 4) + k
          · have gm : m = n := by omega
            have gc : c = k := by omega
            rw [if_pos g, if_pos ⟨gm, by omega⟩, gc]
          · rw [if_neg g, h2 m c m0 m1 c0 c1]
            by_cases y : m = n ∧ c < k
            · rw [if_pos y, if_pos ⟨y.1, by omega⟩]
            · rw [if_neg y, if_neg (by omega)]
    obtain ⟨σ'', a1, a2, a3⟩ := wd 4 on_N 0 σ (by omega) (by omega) (by unfold on_N; omega) (fun _ _ => rfl) (fun m c m0 m1 c0 c1 => by rw [if_neg (by omega)]; exact (hR.n m m0 m1).2.2.2 c c0 c1)
    rw [Int.add_zero] at a1
    rw [bCl a1]
    refine ⟨σ'', rfl, (bLd_kx n0 (by omega)).rp hk hR (fun c _ _ h => a2 c h) (fun m c m0 m1 c0 c1 => ?_), a2⟩
    rw [a3 m c m0 m1 c0 c1, bLd_net n0 (by omega) c0 c1, if_pos z, hoff]
  · rw [bLeF hf (by omega) (by omega), if_neg z, bWr (by omega) (by omega)]
    refine ⟨_, rfl, (bLd_kx n0 (by omega)).rp hk hR (fun c _ _ h => bst_nc (by omega)) (fun m c m0 m1 c0 c1 => ?_), fun c h => bst_nc (by omega)⟩
    rw [bst_if, bLd_net n0 (by omega) c0 c1, if_neg z]
    by_cases g : m = n
    · rw [if_pos g]
      by_cases y : c = bWeak (bHold w (bAt w n) n (bNet w n 0) (bNet w n 2))
      · rw [if_pos (by omega), if_pos y]
      · rw [if_neg (by omega), if_neg y, g]; exact u4 c c0 c1
    · rw [if_neg (by omega), if_neg g]; exact (hR.n m m0 m1).2.2.2 c c0 c1
/-- the reference's jump -/
theorem m_lands (hk : bOk (σ 78)) (n0 : 0 ≤ n) (n1 : n < σ 78 4) (hf : on_R f) : ∃ σ' : on_S, pf_X12_lands n f σ = some (if f ≤ bCar (σ 78) n (bNet (σ 78) n 2) then 1 else 0, σ') ∧ σ' 78 = bLd (σ 78) n f ∧ σ' 77 16 = (if f ≤ bCar (σ 78) n (bNet (σ 78) n 2) then -1 else bWeak (bHold (σ 78) (bAt (σ 78) n) n (bNet (σ 78) n 0) (bNet (σ 78) n 2))) ∧ (∀ c, c ≠ 77 → c ≠ 78 → c ≠ 84 → σ' c = σ c) ∧ ∀ i, i ≠ 16 → σ' 77 i = σ 77 i := by
  obtain ⟨q0, q1, q2, q3, q4, q5, q6, q7⟩ := hk.c
  have hn := hk.n n n0 n1
  have hst := (hk.wi _ hn.1.1 hn.1.2).2
  have ho := bOff_b hk n0 n1
  have hc := bCar_b hk (wet := bNet (σ 78) n 2) n0 n1
  have hw := (bLay_S σ n).w
  have hk2 : bOk (bLay σ n 78) := by rw [hw]; exact hk
  have hlay : ∀ c, c ≠ 84 → bLay σ n c = σ c := fun c hc => by unfold bLay; rw [bst_nc hc, bst_nc hc, bst_nc hc, bst_nc hc]
  have hwk := bWeak_b (bHold (σ 78) (bAt (σ 78) n) n (bNet (σ 78) n 0) (bNet (σ 78) n 2))
  -- the loop over the knots
  have loop : ∀ (held gv : Int), (held = 1 ∧ f ≤ bCar (σ 78) n (bNet (σ 78) n 2) ∧ gv = -1) ∨ (held = 0 ∧ ¬ f ≤ bCar (σ 78) n (bNet (σ 78) n 2) ∧ gv = bWeak (bHold (σ 78) (bAt (σ 78) n) n (bNet (σ 78) n 0) (bNet (σ 78) n 2))) → ∀ (r nf : Nat) (k : Int) (σ' : on_S), 0 ≤ k → k + (r : Int) = 4 → r < nf → σ' 77 16 = gv → (∀ c, c ≠ 77 → c ≠ 78 → c ≠ 84 → σ' c = σ c) → (∀ i, i ≠ 16 → σ' 77 i = σ 77 i) → (∀ i, σ' 78 i = if i < ((62 + (7 * n)) + 3) + k then bLd (σ 78) n f i else σ 78 i) → ∃ σ'' : on_S, pf_X12_lands_66 nf n held (bNet (σ 78) n 1 * bStorey (σ 78) (bNet (σ 78) n 0)) k σ' = some (held, σ'') ∧ σ'' 78 = bLd (σ 78) n f ∧ σ'' 77 16 = gv ∧ (∀ c, c ≠ 77 → c ≠ 78 → c ≠ 84 → σ'' c = σ c) ∧ ∀ i, i ≠ 16 → σ'' 77 i = σ 77 i := by
    intro held gv hh r
    induction r with
    | zero =>
      intro nf k σ' k0 hk1 hnf h16 h1 h2 h3
      cases nf with
      | zero => omega
      | succ nf =>
        refine ⟨σ', ?_, ?_, h16, h1, h2⟩
        · rw [pf_X12_lands_66, bLtF (by omega) (by omega) (by omega), bBz (by omega)]
        · funext i
          rw [h3]
          split
          · rfl
          · unfold bLd
            rw [if_neg (by omega)]
    | succ r ih =>
      intro nf k σ' k0 hk1 hnf h16 h1 h2 h3
      cases nf with
      | zero => omega
      | succ nf =>
        have hkk := hn.2.2.2 k k0 (by omega)
        have e : σ' 78 (((62 + (7 * n)) + 3) + k) = bNet (σ 78) n (3 + k) := by
          rw [h3, if_neg (by omega)]
          unfold bNet
          congr 1; omega
        have val : bLd (σ 78) n f (((62 + (7 * n)) + 3) + k) = if f ≤ bCar (σ 78) n (bNet (σ 78) n 2) then max 0 (bNet (σ 78) n (3 + k) - bNet (σ 78) n 1 * bStorey (σ 78) (bNet (σ 78) n 0)) else if k = bWeak (bHold (σ 78) (bAt (σ 78) n) n (bNet (σ 78) n 0) (bNet (σ 78) n 2)) then 0 else bNet (σ 78) n (3 + k) := by
          have := bLd_net (w := σ 78) (f := f) n0 (show n < 2 by omega) (m := n) k0 (show k < 4 by omega)
          rw [if_pos rfl] at this
          rw [← this]
          unfold bNet
          congr 1; omega
        have go : ∀ v : Int, v = bLd (σ 78) n f (((62 + (7 * n)) + 3) + k) → ∃ σ'' : on_S, pf_X12_lands_133 (pf_X12_lands_66 nf) n held (bNet (σ 78) n 1 * bStorey (σ 78) (bNet (σ 78) n 0)) k (((62 + (7 * n)) + 3) + k) v σ' = some (held, σ'') ∧ σ'' 78 = bLd (σ 78) n f ∧ σ'' 77 16 = gv ∧ (∀ c, c ≠ 77 → c ≠ 78 → c ≠ 84 → σ'' c = σ c) ∧ ∀ i, i ≠ 16 → σ'' 77 i = σ 77 i := by
          intro v hv
          unfold pf_X12_lands_133
          rw [bWr (by omega) (by omega)]
          refine ih nf (k + 1) _ (by omega) (by omega) (by omega) (by rw [bst_nc (by omega)]; exact h16) (fun c c1 c2 c3 => by rw [bst_nc c2]; exact h1 c c1 c2 c3) (fun i hi => by rw [bst_nc (by omega)]; exact h2 i hi) (fun i => ?_)
          rw [bst_if]
          by_cases g : i = (((62 + (7 * n)) + 3) + k)
          · rw [if_pos g, if_pos (by omega), hv, g]
          · rw [if_neg g, h3]
            by_cases y : i < ((62 + (7 * n)) + 3) + k
            · rw [if_pos y, if_pos (by omega)]
            · rw [if_neg y, if_neg (by omega)]
        rw [pf_X12_lands_66, bLtT (by omega) (by omega) (by omega)]
        rcases hh with ⟨a1, a2, a3⟩ | ⟨a1, a2, a3⟩
        · rw [bEqF (by omega) (by omega) (by omega), bRd (by omega) (by omega), e, bMx (by omega) (by omega)]
          exact go _ (by rw [val, if_pos a2])
        · rw [bEqT (by omega) a1, bGt, h16]
          by_cases y : k = gv
          · rw [bEqT (by omega) y]
            exact go _ (by rw [val, if_neg a2, if_pos (by omega)])
          · rw [bEqF (by omega) (by omega) y, bRd (by omega) (by omega), e]
            exact go _ (by rw [val, if_neg a2, if_neg (by omega)])
  have tail : ∀ (held gv : Int), (held = 1 ∧ f ≤ bCar (σ 78) n (bNet (σ 78) n 2) ∧ gv = -1) ∨ (held = 0 ∧ ¬ f ≤ bCar (σ 78) n (bNet (σ 78) n 2) ∧ gv = bWeak (bHold (σ 78) (bAt (σ 78) n) n (bNet (σ 78) n 0) (bNet (σ 78) n 2))) → ∃ σ'' : on_S, pf_X12_lands_41 n held gv (bLay σ n) = some (held, σ'') ∧ σ'' 78 = bLd (σ 78) n f ∧ σ'' 77 16 = gv ∧ (∀ c, c ≠ 77 → c ≠ 78 → c ≠ 84 → σ'' c = σ c) ∧ ∀ i, i ≠ 16 → σ'' 77 i = σ 77 i := by
    intro held gv hh
    have w3 : on_st (bLay σ n) 77 16 gv 78 = σ 78 := by rw [bst_nc (by omega), hw]
    unfold pf_X12_lands_41
    rw [bPt, bCl (m_ofNet n0 (by omega) (by omega) (by omega)), bCl (m_ofNet n0 (by omega) (by omega) (by omega)), w3, bCl (m_storeyOf (by omega) (by omega)), w3]
    refine loop held gv hh 4 on_N 0 _ (by omega) (by omega) (by unfold on_N; omega) bst_eq (fun c c1 c2 c3 => by rw [bst_nc c1, hlay c c3]) (fun i hi => by rw [bst_ni hi, hlay 77 (by omega)]) (fun i => ?_)
    rw [w3]
    split
    · unfold bLd
      rw [if_neg (by omega)]
    · rfl
  unfold pf_X12_lands pf_X12_lands_14
  rw [bCl (m_carries hk n0 n1)]
  by_cases z : f ≤ bCar (σ 78) n (bNet (σ 78) n 2)
  · rw [bLeT hf (by omega) z, bEqF (by omega) (by omega) (by omega), if_pos z, if_pos z]
    exact tail 1 (-1) (Or.inl ⟨rfl, z, rfl⟩)
  · rw [bLeF hf (by omega) (by omega), bEqT (by omega) rfl, if_neg z, if_neg z, bCl (m_ofNet n0 (by omega) (by omega) (by omega)), bCl (m_ofNet n0 (by omega) (by omega) (by omega)), hw, bCl (m_weakest hk2 (by rw [hw]; exact bLay_po σ hk n) n0 (by rw [hw]; exact n1) hn.1.1 (by rw [hw]; exact hn.1.2) (by omega)), hw, bWeak_congr (fun c c0 c1 => bHold_congr (p' := bAt (σ 78) n) (fun d d0 d1 => bLay_84 σ n d0 d1) c0 c1)]
    exact tail 0 _ (Or.inr ⟨rfl, z, rfl⟩)
end L42
