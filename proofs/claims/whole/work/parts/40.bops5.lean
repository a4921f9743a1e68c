/-! B: peace, mends -/
def bBc (n : Int) : Int := n % 2 + (n / 2) % 2 + (n / 4) % 2 + (n / 8) % 2
def bBcV (p : Int) : Int := ((pf_J6_bitCount_0f7a4 p (fun _ _ => 0)).map Prod.fst).getD 0
theorem bBcV_ok : ∀ k : Nat, k < 16 → bBcV (k : Int) = bBc (k : Int) := by decide +kernel
theorem c_bitCount {σ : on_S} {p : Int} (h0 : 0 ≤ p) (h1 : p < 16) : pf_J6_bitCount_0f7a4 p σ = some (bBc p, σ) := by
  have h := bBcV_ok p.toNat (by omega)
  rw [show ((p.toNat : Nat) : Int) = p by omega] at h
  rw [← h]; rfl
theorem bBits_ok : ∀ k : Nat, k < 16 → 0 + on_and (on_shr (k : Int) 0) 1 + on_and (on_shr (k : Int) (0 + 1)) 1 + on_and (on_shr (k : Int) (0 + 1 + 1)) 1 + on_and (on_shr (k : Int) (0 + 1 + 1 + 1)) 1 + on_and (on_shr (k : Int) (0 + 1 + 1 + 1 + 1)) 1 + on_and (on_shr (k : Int) (0 + 1 + 1 + 1 + 1 + 1)) 1 + on_and (on_shr (k : Int) (0 + 1 + 1 + 1 + 1 + 1 + 1)) 1 + on_and (on_shr (k : Int) (0 + 1 + 1 + 1 + 1 + 1 + 1 + 1)) 1 + on_and (on_shr (k : Int) (0 + 1 + 1 + 1 + 1 + 1 + 1 + 1 + 1)) 1 + on_and (on_shr (k : Int) (0 + 1 + 1 + 1 + 1 + 1 + 1 + 1 + 1 + 1)) 1 = bBc (k : Int) := by decide +kernel
theorem m_bits {σ : on_S} {p : Int} (h0 : 0 ≤ p) (h1 : p < 16) : pf_X12_bits p σ = some (bBc p, σ) := by
  have step : ∀ (nf : Nat) (a k : Int), 0 ≤ k → k < 10 → pf_X12_bits_4 (nf + 1) p a k σ = pf_X12_bits_4 nf p (a + on_and (on_shr p k) 1) (k + 1) σ := by
    intro nf a k k0 k1
    rw [pf_X12_bits_4, bLtT (by omega) (by omega) k1]
  have h := bBits_ok p.toNat (by omega)
  rw [show ((p.toNat : Nat) : Int) = p by omega] at h
  unfold pf_X12_bits
  rw [show on_N = 99989 + 1 + 1 + 1 + 1 + 1 + 1 + 1 + 1 + 1 + 1 + 1 from rfl]
  rw [step _ _ _ (by omega) (by omega), step _ _ _ (by omega) (by omega), step _ _ _ (by omega) (by omega), step _ _ _ (by omega) (by omega), step _ _ _ (by omega) (by omega), step _ _ _ (by omega) (by omega), step _ _ _ (by omega) (by omega), step _ _ _ (by omega) (by omega), step _ _ _ (by omega) (by omega), step _ _ _ (by omega) (by omega), pf_X12_bits_4, bLtF (by omega) (by omega) (by omega), h]
theorem bBit_ok : ∀ k : Nat, k < 16 → ∀ c : Nat, c < 4 → on_and (on_shr (k : Int) (c : Int)) 1 = 0 ∨ on_and (on_shr (k : Int) (c : Int)) 1 = 1 := by decide +kernel
theorem bBit {k c : Int} (k0 : 0 ≤ k) (k1 : k < 16) (c0 : 0 ≤ c) (c1 : c < 4) : on_and (on_shr k c) 1 = 0 ∨ on_and (on_shr k c) 1 = 1 := by
  have h := bBit_ok k.toNat (by omega) c.toNat (by omega)
  rw [show ((k.toNat : Nat) : Int) = k by omega, show ((c.toNat : Nat) : Int) = c by omega] at h
  exact h
theorem bBc_b {p : Int} : 0 ≤ bBc p ∧ bBc p ≤ 4 := by unfold bBc; omega
/-- the least set of pairs of so few by which f holds -/
def bMdR (P : Int → Bool) : Nat → Int → Int → Int
  | 0, _, a => a
  | r + 1, k, a => bMdR P r (k + 1) (if (a = -1 ∨ bBc k < bBc a) ∧ P k = true then k else a)
theorem bMdR_b (P : Int → Bool) : ∀ (r : Nat) (k a : Int), 0 ≤ k → k + (r : Int) = 16 → (-1 ≤ a ∧ a < 16) → -1 ≤ bMdR P r k a ∧ bMdR P r k a < 16 := by
  intro r
  induction r with
  | zero => intro k a _ _ h; exact h
  | succ r ih =>
    intro k a k0 hk1 h
    rw [bMdR]
    split
    · exact ih (k + 1) k (by omega) (by omega) (by omega)
    · exact ih (k + 1) a (by omega) (by omega) h
def bMd (w : bW) (n : Int) : Int := bMdR (fun s => decide (bNeed w n ≤ bCarM w n (bNet w n 2) s)) 16 0 (-1)
theorem c_pairs {σ : on_S} (hk : bOk (σ 78)) (hR : bRp 2 (σ 78) σ) {n : Int} (n0 : 0 ≤ n) (n1 : n < σ 78 4) : pf_X11_pairsToMakeUp n σ = some (bMd (σ 78) n, σ) := by
  obtain ⟨q0, q1, q2, q3, q4, q5, q6, q7⟩ := hk.c
  have hn := hk.n n n0 n1
  have hb := bNeed_b hk n
  have L : ∀ (r nf : Nat) (k a : Int), 0 ≤ k → k + (r : Int) = 16 → r < nf → (-1 ≤ a ∧ a < 16) → pf_X11_pairsToMakeUp_28 nf n (bNeed (σ 78) n) (bNet (σ 78) n 2) a k σ = some (bMdR (fun s => decide (bNeed (σ 78) n ≤ bCarM (σ 78) n (bNet (σ 78) n 2) s)) r k a, σ) := by
    intro r
    induction r with
    | zero =>
      intro nf k a k0 hk1 hn ha
      cases nf with
      | zero => omega
      | succ nf => rw [pf_X11_pairsToMakeUp_28, bLtF (by omega) (by omega) (by omega)]; rfl
    | succ r ih =>
      intro nf k a k0 hk1 hnf ha
      cases nf with
      | zero => omega
      | succ nf =>
        have hc := bCarM_b hk (wet := bNet (σ 78) n 2) (made := k) n0 n1
        have h59 : ∀ k28 : Int → Int → Int → Int → Int → on_S → Option on_O, pf_X11_pairsToMakeUp_59 k28 n (bNeed (σ 78) n) (bNet (σ 78) n 2) a k 1 σ = k28 n (bNeed (σ 78) n) (bNet (σ 78) n 2) (if bNeed (σ 78) n ≤ bCarM (σ 78) n (bNet (σ 78) n 2) k then k else a) (k + 1) σ := by
          intro k28
          unfold pf_X11_pairsToMakeUp_59
          rw [bEqF (by omega) (by omega) (by omega), bCl (c_carriedIf hk hR n0 n1 (by omega))]
          by_cases y : bNeed (σ 78) n ≤ bCarM (σ 78) n (bNet (σ 78) n 2) k
          · rw [bLtF (by omega) (by omega) y, if_pos y]
          · rw [bLtT (by omega) (by omega) (by omega), if_neg y]
        rw [pf_X11_pairsToMakeUp_28, bLtT (by omega) (by omega) (by omega), bMdR]
        unfold pf_X11_pairsToMakeUp_54
        by_cases z : a = -1
        · rw [bEqT (by omega) z, h59]
          by_cases y : bNeed (σ 78) n ≤ bCarM (σ 78) n (bNet (σ 78) n 2) k
          · rw [if_pos y, if_pos ⟨Or.inl z, by simpa using y⟩]
            exact ih nf (k + 1) k (by omega) (by omega) (by omega) (by omega)
          · rw [if_neg y, if_neg (fun x => y (by simpa using x.2))]
            exact ih nf (k + 1) a (by omega) (by omega) (by omega) ha
        · have b1 := bBc_b (p := k)
          have b2 := bBc_b (p := a)
          rw [bEqF (by omega) (by omega) z, bCl (c_bitCount k0 (by omega)), bCl (c_bitCount (by omega) (by omega))]
          by_cases x : bBc k < bBc a
          · rw [bLtT (by omega) (by omega) x, h59]
            by_cases y : bNeed (σ 78) n ≤ bCarM (σ 78) n (bNet (σ 78) n 2) k
            · rw [if_pos y, if_pos ⟨Or.inr x, by simpa using y⟩]
              exact ih nf (k + 1) k (by omega) (by omega) (by omega) (by omega)
            · rw [if_neg y, if_neg (fun x => y (by simpa using x.2))]
              exact ih nf (k + 1) a (by omega) (by omega) (by omega) ha
          · rw [bLtF (by omega) (by omega) (by omega), if_neg (fun y => y.1.elim z x)]
            unfold pf_X11_pairsToMakeUp_59
            rw [bEqT (by omega) rfl]
            exact ih nf (k + 1) a (by omega) (by omega) (by omega) ha
  unfold pf_X11_pairsToMakeUp bMd
  rw [bCl (c_needOf hk hR n0 n1), bRd n0 (by omega), (hR.n n n0 n1).2.2.1]
  exact L 16 on_N 0 (-1) (by omega) (by omega) (by unfold on_N; omega) (by omega)
/-! the model: quarrels of some pairs are made 0 -/
def bOn (p : Int → Int) (made i : Int) : Prop := on_and (on_shr made i) 1 ≠ 0 ∧ p i ≠ -1 ∧ p ((i + 1) % 4) ≠ -1
def bIn (p : Int → Int) (i j : Int) : Prop := j = (76 + (9 * p i)) + p ((i + 1) % 4) ∨ j = (76 + (9 * p ((i + 1) % 4))) + p i
/-- no man at two corners -/
def bInj (p : Int → Int) : Prop := ∀ a b : Int, 0 ≤ a → a < 4 → 0 ≤ b → b < 4 → p a ≠ -1 → p a = p b → a = b
def bZ (w : bW) (p : Int → Int) (made k : Int) (w' : bW) : Prop := (∀ j, w' j = w j ∨ (w' j = 0 ∧ ∃ i, 0 ≤ i ∧ i < k ∧ bOn p made i ∧ bIn p i j)) ∧ ∀ i, 0 ≤ i → i < k → bOn p made i → ∀ j, bIn p i j → w' j = 0
section Z40
variable {w w' : bW} {p : Int → Int} {made k : Int}
theorem bZ.rg (h : bZ w p made k w') (hk : bOk w) (hp : bPo w p) (k4 : k ≤ 4) {l t : Int} (hl : t ≤ 76 ∨ 157 ≤ l) : bRg w w' l t := by
  obtain ⟨q0, q1, q2, q3, q4, q5, q6, q7⟩ := hk.c
  intro j j0 j1
  rcases h.1 j with e | ⟨-, i, i0, i1, ⟨o1, o2, o3⟩, hi⟩
  · exact e
  · have h1 := hp i i0 (by omega)
    have h2 := hp ((i + 1) % 4) (by omega) (by omega)
    unfold bIn at hi
    omega
theorem bIn_ne (hp : bPo w p) (hj : bInj p) (h3 : w 3 ≤ 9) {i i' j : Int} (i0 : 0 ≤ i) (i1 : i < 4) (i0' : 0 ≤ i') (i1' : i' < 4) (a1 : p i ≠ -1) (a2 : p ((i + 1) % 4) ≠ -1) (b1 : p i' ≠ -1) (b2 : p ((i' + 1) % 4) ≠ -1) (h : bIn p i j) (h' : bIn p i' j) : i = i' := by
  have c1 := hp i i0 i1
  have c2 := hp ((i + 1) % 4) (by omega) (by omega)
  have c3 := hp i' i0' i1'
  have c4 := hp ((i' + 1) % 4) (by omega) (by omega)
  unfold bIn at h h'
  have key : (p i = p i' ∧ p ((i + 1) % 4) = p ((i' + 1) % 4)) ∨ (p i = p ((i' + 1) % 4) ∧ p ((i + 1) % 4) = p i') := by omega
  rcases key with ⟨e, -⟩ | ⟨e, f⟩
  · exact hj i i' i0 i1 i0' i1' a1 e
  · have x1 := hj i ((i' + 1) % 4) i0 i1 (by omega) (by omega) a1 e
    have x2 := hj ((i + 1) % 4) i' (by omega) (by omega) i0' i1' a2 f
    omega
theorem bZ.ok (h : bZ w p made 4 w') (hk : bOk w) (hp : bPo w p) : bOk w' := by
  obtain ⟨k1, k2, k3, k4, k5, k6, k7, k8, k9, k10, k11⟩ := id hk
  have rg : ∀ l t : Int, t ≤ 76 ∨ 157 ≤ l → bRg w w' l t := fun l t hl => h.rg hk hp (by omega) hl
  have a0 := rg 0 8 (by omega)
  have aN := rg 62 76 (by omega)
  have aJ := rg 173 191 (by omega)
  refine ⟨k1.rg a0, bOkW.rg k1 k2 a0 (rg _ _ (by omega)), bOkM.rg k1 k3 a0 (rg _ _ (by omega)), bOkD.rg k1 k4 a0 (rg _ _ (by omega)), bOkN.rg k1 k5 a0 aN, bOkE.rg k1 k6 a0 aN, ?_, k8.rg (rg _ _ (by omega)), bOkJ.rg k1 k9 a0 aJ, k10.rg a0 (rg _ _ (by omega)), bOkP.rg k1 k11 a0 (fun x => bRg.netAt k1 a0 aN x) aJ (rg _ _ (by omega))⟩
  intro a b a0' a1 b0 b1
  have ho := k7 a b a0' a1 b0 b1
  have sym : ∀ i j j', bIn p i j → j = (76 + (9 * a)) + b → j' = (76 + (9 * b)) + a → 0 ≤ i → i < 4 → bOn p made i → bIn p i j' := by
    intro i j j' hi e1 e2 i0 i1 ⟨o1, o2, o3⟩
    have h1 := hp i i0 i1
    have h2 := hp ((i + 1) % 4) (by omega) (by omega)
    have h3 := k1.2.2.2.1
    unfold bIn at hi ⊢
    omega
  have sym' : ∀ i j j', bIn p i j → j = (76 + (9 * b)) + a → j' = (76 + (9 * a)) + b → 0 ≤ i → i < 4 → bOn p made i → bIn p i j' := by
    intro i j j' hi e1 e2 i0 i1 ⟨o1, o2, o3⟩
    have h1 := hp i i0 i1
    have h2 := hp ((i + 1) % 4) (by omega) (by omega)
    have h3 := k1.2.2.2.1
    unfold bIn at hi ⊢
    omega
  show (0 ≤ w' ((76 + (9 * a)) + b) ∧ w' ((76 + (9 * a)) + b) ≤ 9) ∧ w' ((76 + (9 * a)) + b) = w' ((76 + (9 * b)) + a)
  have ho1 : (0 ≤ w ((76 + (9 * a)) + b) ∧ w ((76 + (9 * a)) + b) ≤ 9) ∧ w ((76 + (9 * a)) + b) = w ((76 + (9 * b)) + a) := ho
  rcases h.1 ((76 + (9 * a)) + b) with e | ⟨e, i, i0, i1, o, hi⟩
  · rcases h.1 ((76 + (9 * b)) + a) with f | ⟨f, i, i0, i1, o, hi⟩
    · rw [e, f]; exact ho1
    · have := h.2 i i0 i1 o _ (sym' i _ _ hi rfl rfl i0 i1 o)
      rw [f, this]; omega
  · have := h.2 i i0 i1 o _ (sym i _ _ hi rfl rfl i0 i1 o)
    rw [e, this]; omega
theorem bZ.pq (h : bZ w p made 4 w') (hk : bOk w) (hp : bPo w p) (hj : bInj p) {c : Int} (c0 : 0 ≤ c) (c1 : c < 4) : bPq w' p c ((c + 1) % 4) = bPm w p made c := by
  have h3 := hk.c.2.2.2.1
  unfold bPm bPq
  by_cases e : p c = -1 ∨ p ((c + 1) % 4) = -1
  · rw [if_pos e, if_pos e]; split <;> rfl
  · rw [if_neg e, if_neg e]
    by_cases g : on_and (on_shr made c) 1 = 0
    · rw [if_pos g]
      rcases h.1 ((76 + (9 * p c)) + p ((c + 1) % 4)) with f | ⟨f, i, i0, i1, ⟨o1, o2, o3⟩, hi⟩
      · exact f
      · have := bIn_ne hp hj h3.2 i0 i1 c0 c1 o2 o3 (by omega) (by omega) hi (Or.inl rfl)
        rw [this] at o1
        exact absurd g o1
    · rw [if_neg g]
      exact h.2 c c0 c1 ⟨g, by omega, by omega⟩ _ (Or.inl rfl)
theorem bZ.hold (h : bZ w p made 4 w') (hk : bOk w) (hp : bPo w p) (hj : bInj p) {n x wet c : Int} (n0 : 0 ≤ n) (n1 : n < w 4) (x0 : 0 ≤ x) (x1 : x < w 2) (c0 : 0 ≤ c) (c1 : c < 4) : bHold w' p n x wet c = bHoldM w p n x wet made c := by
  obtain ⟨q0, q1, q2, q3, q4, q5, q6, q7⟩ := hk.c
  have hk' := h.ok hk hp
  have h3' : w' 3 = w 3 := h.rg hk hp (l := 0) (t := 8) (by omega) (by omega) 3 (by omega) (by omega)
  have hp' : bPo w' p := fun d d0 d1 => by rw [h3']; exact hp d d0 d1
  have hkn := bKn_b hk (wet := wet) n0 n1 c0 c1
  have hpc := hp c c0 c1
  have e1 := h.pq hk hp hj c0 c1
  have e2 := h.pq hk hp hj (c := (c + 3) % 4) (by omega) (by omega)
  rw [show ((c + 3) % 4 + 1) % 4 = c by omega, bPq_c hk' hp' (by omega) (by omega) c0 c1] at e2
  have rg : ∀ l t : Int, t ≤ 76 ∨ 157 ≤ l → bRg w w' l t := fun l t hl => h.rg hk hp (by omega) hl
  have eK : bKn w' n wet c = bKn w n wet c := by
    unfold bKn
    rw [(rg 62 76 (by omega)).net (q := 3 + c) n0 (by omega) (by omega) (by omega)]
  unfold bHold bHoldM bLeft
  rw [e1, e2, eK]
  by_cases z : p c = -1
  · rw [if_pos (Or.inl z), if_pos (Or.inl z)]; omega
  · have hm := hk.m (p c) (by omega) (by omega)
    have hx := (hk.wi x x0 x1).1
    have eW : bWill w' (p c) x ↔ bWill w (p c) x := by
      unfold bWill
      rw [(rg 26 62 (by omega)).man (q := 0) (by omega) (by omega) (by omega) (by omega), show bHouse w' x = bHouse w x from rg 8 26 (by omega) _ (by omega) (by omega), show bFd w' (bMan w (p c) 0) (bHouse w x) = bFd w (bMan w (p c) 0) (bHouse w x) from rg 157 173 (by omega) _ (by omega) (by omega)]
    by_cases y : bWill w (p c) x
    · rw [if_neg (fun t => t.elim z (fun s => s (eW.mpr y))), if_neg (fun t => t.elim z (fun s => s y)), (rg 26 62 (by omega)).man (q := 1) (by omega) (by omega) (by omega) (by omega)]
      omega
    · rw [if_pos (Or.inr (fun s => y (eW.mp s))), if_pos (Or.inr y)]; omega
end Z40
theorem bNeed_rg {w w' : bW} (hk : bOk w) {n : Int} (n0 : 0 ≤ n) (n1 : n < w 4) (hA : bRg w w' 0 8) (hW : bRg w w' 8 26) (hN : bRg w w' 62 76) (hJ : bRg w w' 173 191) : bNeed w' n = bNeed w n := by
  obtain ⟨q0, q1, q2, q3, q4, q5, q6, q7⟩ := hk.c
  unfold bNeed
  rw [hA 5 (by omega) (by omega), hN.net (q := 0) n0 (by omega) (by omega) (by omega)]
  have L : ∀ (r : Nat) (k a : Int), 0 ≤ k → k + (r : Int) = w 5 → bNeedR w' (bNet w n 0) r k a = bNeedR w (bNet w n 0) r k a := by
    intro r
    induction r with
    | zero => intro k a _ _; rfl
    | succ r ih =>
      intro k a k0 hk1
      have hj := hk.j k k0 (by omega)
      have e1 : bWin w' k = bWin w k := hJ _ (by omega) (by omega)
      have e2 : bForce w' k = bForce w k := by
        unfold bForce
        rw [e1, show bWt w' k = bWt w k from hJ _ (by omega) (by omega), show bStorey w' (bWin w k) = bStorey w (bWin w k) from hW _ (by omega) (by omega)]
      rw [bNeedR, bNeedR, e1, e2, ih (k + 1) _ (by omega) (by omega)]
  exact L _ _ _ (by omega) (by omega)
theorem bAt_inj {w : bW} (hk : bOk w) {n : Int} : bInj (bAt w n) := by
  intro a b a0 a1 b0 b1 h e
  unfold bAt at *
  rcases bManAt_spec hk.c n a with ⟨x, -⟩ | ⟨x, y, z, t⟩
  · exact absurd x h
  · rcases bManAt_spec hk.c n b with ⟨x', -⟩ | ⟨x', y', z', t'⟩
    · omega
    · rw [← t, ← t', e]
theorem m_doesBy {σ : on_S} (hk : bOk (σ 78)) {n made : Int} (n0 : 0 ≤ n) (n1 : n < σ 78 4) (m0 : 0 ≤ made) (m1 : made < 16) : bK (pf_X12_doesBy n made σ) σ (if bNeed (σ 78) n ≤ bCarM (σ 78) n (bNet (σ 78) n 2) made then 1 else 0) := by
  obtain ⟨q0, q1, q2, q3, q4, q5, q6, q7⟩ := hk.c
  have hn := hk.n n n0 n1
  have hp := bAt_po hk.c n
  have hj := bAt_inj hk (n := n)
  have hnb := bNeed_b hk n
  have hcb := bCarM_b hk (wet := bNet (σ 78) n 2) (made := made) n0 n1
  -- the loop that gives back
  have L2 : ∀ (r nf : Nat) (v k : Int) (σ' : on_S), bSm σ σ' → (∀ c, 0 ≤ c → c < 4 → σ' 84 c = bAt (σ 78) n c) → 0 ≤ k → k + (r : Int) = 4 → r < nf → (v = 0 ∨ v = 1) → (∀ i, 0 ≤ i → i < 4 → bOn (bAt (σ 78) n) made i → σ' 92 i = bQ (σ 78) (bAt (σ 78) n i) (bAt (σ 78) n ((i + 1) % 4))) → (∀ j, σ' 78 j = σ 78 j ∨ ∃ i, k ≤ i ∧ i < 4 ∧ bOn (bAt (σ 78) n) made i ∧ bIn (bAt (σ 78) n) i j) → bK (pf_X12_doesBy_118 nf made v k σ') σ v := by
    intro r
    induction r with
    | zero =>
      intro nf v k σ' hs h84 k0 hk1 hnf hv h92 h78
      cases nf with
      | zero => omega
      | succ nf =>
        rw [pf_X12_doesBy_118, bLtF (by omega) (by omega) (by omega), bBz hv]
        refine ⟨σ', rfl, hs.s ?_⟩
        funext j
        rcases h78 j with e | ⟨i, i0, i1, -⟩
        · exact e
        · omega
    | succ r ih =>
      intro nf v k σ' hs h84 k0 hk1 hnf hv h92 h78
      cases nf with
      | zero => omega
      | succ nf =>
        have c1 := hp k k0 (by omega)
        have c2 := hp ((k + 1) % 4) (by omega) (by omega)
        have hb := bBit m0 m1 k0 (show k < 4 by omega)
        rw [pf_X12_doesBy_118, bLtT (by omega) (by omega) (by omega), bRd k0 (by omega), bRm (by omega) (by omega) (by omega) (by omega), bRd (by omega) (by omega), h84 k k0 (by omega), h84 ((k + 1) % 4) (by omega) (by omega)]
        have skip : ¬ bOn (bAt (σ 78) n) made k → bK (pf_X12_doesBy_118 nf made v (k + 1) σ') σ v := by
          intro ho
          refine ih nf v (k + 1) σ' hs h84 (by omega) (by omega) (by omega) hv h92 (fun j => ?_)
          rcases h78 j with e | ⟨i, i0, i1, o, hi⟩
          · exact Or.inl e
          · by_cases e : i = k
            · rw [e] at o; exact absurd o ho
            · exact Or.inr ⟨i, by omega, i1, o, hi⟩
        by_cases g : on_and (on_shr made k) 1 = 1
        · rw [bEqT (by omega) g]
          by_cases e : bAt (σ 78) n k = -1
          · rw [bEqT (by omega) e]; exact skip (fun o => o.2.1 e)
          · rw [bEqF (by omega) (by omega) e]
            by_cases f : bAt (σ 78) n ((k + 1) % 4) = -1
            · rw [bEqT (by omega) f]; exact skip (fun o => o.2.2 f)
            · have o : bOn (bAt (σ 78) n) made k := ⟨by omega, e, f⟩
              have hQ := hk.q (bAt (σ 78) n k) (bAt (σ 78) n ((k + 1) % 4)) (by omega) (by omega) (by omega) (by omega)
              rw [bEqF (by omega) (by omega) f, bRd k0 (by omega), h92 k k0 (by omega) o]
              unfold pf_X12_setQuarrel
              rw [bWr (by omega) (by omega), bWr (by omega) (by omega), bClS]
              refine ih nf v (k + 1) _ ((hs.tr bSm.st).tr bSm.st) (fun c c0 c1 => by rw [bst_nc (by decide), bst_nc (by decide)]; exact h84 c c0 c1) (by omega) (by omega) (by omega) hv (fun i i0 i1 oi => by rw [bst_nc (by decide), bst_nc (by decide)]; exact h92 i i0 i1 oi) (fun j => ?_)
              rw [bst_up, bst_up]
              by_cases j2 : j = (76 + (9 * bAt (σ 78) n ((k + 1) % 4))) + bAt (σ 78) n k
              · refine Or.inl ?_
                rw [j2, bUp_eq, hQ.2]; rfl
              · rw [bUp_ne j2]
                by_cases j1 : j = (76 + (9 * bAt (σ 78) n k)) + bAt (σ 78) n ((k + 1) % 4)
                · refine Or.inl ?_
                  rw [j1, bUp_eq]; rfl
                · rw [bUp_ne j1]
                  rcases h78 j with e' | ⟨i, i0, i1, oi, hi⟩
                  · exact Or.inl e'
                  · by_cases e' : i = k
                    · rw [e'] at hi
                      exact absurd hi (fun z => z.elim j1 j2)
                    · exact Or.inr ⟨i, by omega, i1, oi, hi⟩
        · rw [bEqF (by omega) (by omega) g]; exact skip (fun o => o.1 (by omega))
  -- the loop that makes up
  have L1 : ∀ (r nf : Nat) (k : Int) (σ' : on_S), bSm σ σ' → (∀ c, 0 ≤ c → c < 4 → σ' 84 c = bAt (σ 78) n c) → 0 ≤ k → k + (r : Int) = 4 → r < nf → (∀ i, 0 ≤ i → i < k → bOn (bAt (σ 78) n) made i → σ' 92 i = bQ (σ 78) (bAt (σ 78) n i) (bAt (σ 78) n ((i + 1) % 4))) → bZ (σ 78) (bAt (σ 78) n) made k (σ' 78) → bK (pf_X12_doesBy_7 nf n made k σ') σ (if bNeed (σ 78) n ≤ bCarM (σ 78) n (bNet (σ 78) n 2) made then 1 else 0) := by
    intro r
    induction r with
    | zero =>
      intro nf k σ' hs h84 k0 hk1 hnf h92 hz
      cases nf with
      | zero => omega
      | succ nf =>
        have k4 : k = 4 := by omega
        subst k4
        have hk' := hz.ok hk hp
        have rg : ∀ l t : Int, t ≤ 76 ∨ 157 ≤ l → bRg (σ 78) (σ' 78) l t := fun l t hl => hz.rg hk hp (by omega) hl
        have h4' : σ' 78 4 = σ 78 4 := rg 0 8 (by omega) 4 (by omega) (by omega)
        have h3' : σ' 78 3 = σ 78 3 := rg 0 8 (by omega) 3 (by omega) (by omega)
        have h2' : σ' 78 2 = σ 78 2 := rg 0 8 (by omega) 2 (by omega) (by omega)
        have eN : ∀ q, 0 ≤ q → q < 7 → bNet (σ' 78) n q = bNet (σ 78) n q := fun q a b => (rg 62 76 (by omega)).net n0 (by omega) a b
        have hp' : bPo (σ' 78) (σ' 84) := fun d d0 d1 => by rw [h84 d d0 d1, h3']; exact hp d d0 d1
        have eL : bLst (bHold (σ' 78) (σ' 84) n (bNet (σ 78) n 0) (bNet (σ 78) n 2)) = bLst (bHoldM (σ 78) (bAt (σ 78) n) n (bNet (σ 78) n 0) (bNet (σ 78) n 2) made) := bLst_congr (fun c c0 c1 => by rw [bHold_congr h84 c0 c1, hz.hold hk hp hj n0 n1 hn.1.1 hn.1.2 c0 c1])
        have eNd : bNeed (σ' 78) n = bNeed (σ 78) n := bNeed_rg hk n0 n1 (rg _ _ (by omega)) (rg _ _ (by omega)) (rg _ _ (by omega)) (rg _ _ (by omega))
        have eC : 4 * bLst (bHoldM (σ 78) (bAt (σ 78) n) n (bNet (σ 78) n 0) (bNet (σ 78) n 2) made) = bCarM (σ 78) n (bNet (σ 78) n 2) made := rfl
        have fin : ∀ v : Int, (v = 0 ∨ v = 1) → bK (pf_X12_doesBy_114 made v σ') σ v := by
          intro v hv
          unfold pf_X12_doesBy_114
          refine L2 4 on_N v 0 σ' hs h84 (by omega) (by omega) (by unfold on_N; omega) hv h92 (fun j => ?_)
          rcases hz.1 j with e | ⟨-, i, i0, i1, o, hi⟩
          · exact Or.inl e
          · exact Or.inr ⟨i, i0, i1, o, hi⟩
        rw [pf_X12_doesBy_7, bLtF (by omega) (by omega) (by omega), bCl (m_ofNet n0 (by omega) (by omega) (by omega)), bCl (m_ofNet n0 (by omega) (by omega) (by omega)), eN 0 (by omega) (by omega), eN 2 (by omega) (by omega), bCl (m_carriesBy hk' hp' n0 (by rw [h4']; exact n1) hn.1.1 (by rw [h2']; exact hn.1.2) (by omega)), bCl (m_needOf hk' n0 (by rw [h4']; exact n1)), eL, eNd, eC]
        by_cases y : bNeed (σ 78) n ≤ bCarM (σ 78) n (bNet (σ 78) n 2) made
        · rw [bLtF (by omega) (by omega) y, if_pos y]; exact fin 1 (Or.inr rfl)
        · rw [bLtT (by omega) (by omega) (by omega), if_neg y]; exact fin 0 (Or.inl rfl)
    | succ r ih =>
      intro nf k σ' hs h84 k0 hk1 hnf h92 hz
      cases nf with
      | zero => omega
      | succ nf =>
        have c1 := hp k k0 (by omega)
        have c2 := hp ((k + 1) % 4) (by omega) (by omega)
        have hb := bBit m0 m1 k0 (show k < 4 by omega)
        rw [pf_X12_doesBy_7, bLtT (by omega) (by omega) (by omega), bRd k0 (by omega), bRm (by omega) (by omega) (by omega) (by omega), bRd (by omega) (by omega), h84 k k0 (by omega), h84 ((k + 1) % 4) (by omega) (by omega)]
        have skip : ¬ bOn (bAt (σ 78) n) made k → bK (pf_X12_doesBy_7 nf n made (k + 1) σ') σ (if bNeed (σ 78) n ≤ bCarM (σ 78) n (bNet (σ 78) n 2) made then 1 else 0) := by
          intro ho
          refine ih nf (k + 1) σ' hs h84 (by omega) (by omega) (by omega) (fun i i0 i1 o => ?_) ⟨fun j => ?_, fun i i0 i1 o => ?_⟩
          · by_cases e : i = k
            · rw [e] at o; exact absurd o ho
            · exact h92 i i0 (by omega) o
          · rcases hz.1 j with e | ⟨e, i, i0, i1, o, hi⟩
            · exact Or.inl e
            · exact Or.inr ⟨e, i, i0, by omega, o, hi⟩
          · by_cases e : i = k
            · rw [e] at o; exact absurd o ho
            · exact hz.2 i i0 (by omega) o
        by_cases g : on_and (on_shr made k) 1 = 0
        · rw [bEqT (by omega) g]; exact skip (fun o => o.1 g)
        · rw [bEqF (by omega) (by omega) g]
          by_cases e : bAt (σ 78) n k = -1
          · rw [bEqT (by omega) e]; exact skip (fun o => o.2.1 e)
          · rw [bEqF (by omega) (by omega) e]
            by_cases f : bAt (σ 78) n ((k + 1) % 4) = -1
            · rw [bEqT (by omega) f]; exact skip (fun o => o.2.2 f)
            · have o : bOn (bAt (σ 78) n) made k := ⟨g, e, f⟩
              have eq : bQ (σ' 78) (bAt (σ 78) n k) (bAt (σ 78) n ((k + 1) % 4)) = bQ (σ 78) (bAt (σ 78) n k) (bAt (σ 78) n ((k + 1) % 4)) := by
                rcases hz.1 ((76 + (9 * bAt (σ 78) n k)) + bAt (σ 78) n ((k + 1) % 4)) with z | ⟨-, i, i0, i1, oi, hi⟩
                · exact z
                · have := bIn_ne hp hj q3.2 i0 (by omega) k0 (by omega) oi.2.1 oi.2.2 e f hi (Or.inl rfl)
                  omega
              rw [bEqF (by omega) (by omega) f, bCl (m_quarrelOf (by omega) (by omega) (by omega) (by omega)), eq, bWr k0 (by omega)]
              unfold pf_X12_setQuarrel
              rw [bWr (by omega) (by omega), bWr (by omega) (by omega), bClS]
              refine ih nf (k + 1) _ (((hs.tr (bS.st (c := 92) (by decide) (by decide)).sm).tr bSm.st).tr bSm.st) (fun c c0 c1 => by rw [bst_nc (by decide), bst_nc (by decide), bst_nc (by decide)]; exact h84 c c0 c1) (by omega) (by omega) (by omega) (fun i i0 i1 oi => ?_) ?_
              · rw [bst_nc (by decide), bst_nc (by decide), bst_if]
                by_cases z : i = k
                · rw [if_pos z, z]
                · rw [if_neg z]; exact h92 i i0 (by omega) oi
              · rw [bst_up, bst_up, bst_nc (by decide)]
                refine ⟨fun j => ?_, fun i i0 i1 oi j hi => ?_⟩
                · by_cases j2 : j = (76 + (9 * bAt (σ 78) n ((k + 1) % 4))) + bAt (σ 78) n k
                  · exact Or.inr ⟨by rw [j2, bUp_eq], k, k0, by omega, o, Or.inr j2⟩
                  · rw [bUp_ne j2]
                    by_cases j1 : j = (76 + (9 * bAt (σ 78) n k)) + bAt (σ 78) n ((k + 1) % 4)
                    · exact Or.inr ⟨by rw [j1, bUp_eq], k, k0, by omega, o, Or.inl j1⟩
                    · rw [bUp_ne j1]
                      rcases hz.1 j with z | ⟨z, i, i0, i1, oi, hi⟩
                      · exact Or.inl z
                      · exact Or.inr ⟨z, i, i0, by omega, oi, hi⟩
                · by_cases j2 : j = (76 + (9 * bAt (σ 78) n ((k + 1) % 4))) + bAt (σ 78) n k
                  · rw [j2, bUp_eq]
                  · rw [bUp_ne j2]
                    by_cases j1 : j = (76 + (9 * bAt (σ 78) n k)) + bAt (σ 78) n ((k + 1) % 4)
                    · rw [j1, bUp_eq]
                    · rw [bUp_ne j1]
                      by_cases z : i = k
                      · rw [z] at hi; exact absurd hi (fun y => y.elim j1 j2)
                      · exact hz.2 i i0 (by omega) oi j hi
  unfold pf_X12_doesBy
  rw [bCl (m_layPosts hk (by omega))]
  have hs := bLay_S σ n
  exact L1 4 on_N 0 (bLay σ n) hs.sm (fun c c0 c1 => bLay_84 σ n c0 c1) (by omega) (by omega) (by unfold on_N; omega) (fun i i0 i1 _ => by omega) ⟨fun j => Or.inl (by rw [hs.w]), fun i i0 i1 => by omega⟩
theorem m_mendsOf {σ : on_S} (hk : bOk (σ 78)) {n : Int} (n0 : 0 ≤ n) (n1 : n < σ 78 4) : bK (pf_X12_mendsOf n σ) σ (bMd (σ 78) n) := by
  have L : ∀ (r nf : Nat) (k a : Int) (σ' : on_S), bS σ σ' → 0 ≤ k → k + (r : Int) = 16 → r < nf → (-1 ≤ a ∧ a < 16) → bK (pf_X12_mendsOf_4 nf n a k σ') σ (bMdR (fun s => decide (bNeed (σ 78) n ≤ bCarM (σ 78) n (bNet (σ 78) n 2) s)) r k a) := by
    intro r
    induction r with
    | zero =>
      intro nf k a σ' hs k0 hk1 hn ha
      cases nf with
      | zero => omega
      | succ nf => rw [pf_X12_mendsOf_4, bLtF (by omega) (by omega) (by omega)]; exact ⟨σ', rfl, hs⟩
    | succ r ih =>
      intro nf k a σ' hs k0 hk1 hnf ha
      cases nf with
      | zero => omega
      | succ nf =>
        have hw := hs.w
        have hk' : bOk (σ' 78) := by rw [hw]; exact hk
        obtain ⟨σ2, a2, s2⟩ := m_doesBy hk' (made := k) n0 (by rw [hw]; exact n1) k0 (by omega)
        rw [hw] at a2
        have h26 : (a = -1 ∨ bBc k < bBc a) → bK (pf_X12_mendsOf_26 (pf_X12_mendsOf_4 nf) n a k σ') σ (bMdR (fun s => decide (bNeed (σ 78) n ≤ bCarM (σ 78) n (bNet (σ 78) n 2) s)) (r + 1) k a) := by
          intro hx
          unfold pf_X12_mendsOf_26
          rw [bCl a2, bE01, bMdR]
          by_cases y : bNeed (σ 78) n ≤ bCarM (σ 78) n (bNet (σ 78) n 2) k
          · rw [if_pos y, if_pos ⟨hx, by simpa using y⟩]
            exact ih nf (k + 1) k σ2 (hs.tr s2) (by omega) (by omega) (by omega) (by omega)
          · rw [if_neg y, if_neg (fun x => y (by simpa using x.2))]
            exact ih nf (k + 1) a σ2 (hs.tr s2) (by omega) (by omega) (by omega) ha
        rw [pf_X12_mendsOf_4, bLtT (by omega) (by omega) (by omega)]
        by_cases z : a = -1
        · rw [bEqT (by omega) z]; exact h26 (Or.inl z)
        · have b1 := bBc_b (p := k)
          have b2 := bBc_b (p := a)
          rw [bEqF (by omega) (by omega) z, bCl (m_bits k0 (by omega)), bCl (m_bits (by omega) (by omega))]
          by_cases x : bBc k < bBc a
          · rw [bLtT (by omega) (by omega) x]; exact h26 (Or.inr x)
          · rw [bLtF (by omega) (by omega) (by omega), bMdR, if_neg (fun y => y.1.elim z x)]
            exact ih nf (k + 1) a σ' hs (by omega) (by omega) (by omega) ha
  exact L 16 on_N 0 (-1) σ (bS.rf σ) (by omega) (by omega) (by unfold on_N; omega) (by omega)
section O40
variable {n : Nat} {σ : on_S} {p q t : Int}
theorem bMd_b (w : bW) (n : Int) : -1 ≤ bMd w n ∧ bMd w n < 16 := bMdR_b _ 16 0 (-1) (by omega) (by omega) (by omega)
theorem o_mends (hI : bI n σ) (hp : on_R p) : bOp n σ (pf_X11_mends p) (pf_X12_mends p) := by
  refine bOp.ro (r := if 0 ≤ p ∧ p < σ 78 4 then bMd (σ 78) p else -2) hI ?_ ?_ ?_
  · have := bMd_b (σ 78) p
    split <;> omega
  · unfold pf_X11_mends
    rw [bCl (c_hasNet hI.k hI.r hp), bE01]
    split
    · rename_i h
      rw [bCl (c_pairs hI.k hI.r h.1 h.2)]; exact bK.of rfl
    · exact bK.of rfl
  · intro σ1 h1 e _
    rw [← e]
    unfold pf_X12_mends
    rw [bCk hp, bCl (m_isNet h1.k (by omega)), bE01]
    split
    · rename_i h
      obtain ⟨σ2, a2, s2⟩ := m_mendsOf h1.k h.1 h.2
      rw [bCl a2]; exact ⟨_, rfl, s2⟩
    · exact bK.of rfl
theorem o_peace (hI : bI n σ) (hp : on_R p) : bOp n σ (pf_X11_peace p) (pf_X12_peace p) := by
  have hb := bMd_b (σ 78) p
  have hc := bBc_b (p := bMd (σ 78) p)
  refine bOp.ro (r := if 0 ≤ p ∧ p < σ 78 4 then (if bMd (σ 78) p = -1 then -1 else bBc (bMd (σ 78) p)) else -2) hI ?_ ?_ ?_
  · split
    · split <;> omega
    · omega
  · unfold pf_X11_peace
    rw [bCl (c_hasNet hI.k hI.r hp), bE01]
    split
    · rename_i h
      rw [bCl (c_pairs hI.k hI.r h.1 h.2)]
      by_cases z : bMd (σ 78) p = -1
      · rw [bEqT (by omega) z, if_pos z]; exact bK.of rfl
      · rw [bEqF (by omega) (by omega) z, if_neg z, bCl (c_bitCount (by omega) (by omega))]; exact bK.of rfl
    · exact bK.of rfl
  · intro σ1 h1 e _
    rw [← e] at hb ⊢
    unfold pf_X12_peace
    rw [bCk hp, bCl (m_isNet h1.k (by omega)), bE01]
    split
    · rename_i h
      obtain ⟨σ2, a2, s2⟩ := m_mendsOf h1.k h.1 h.2
      rw [bCl a2]
      by_cases z : bMd (σ1 78) p = -1
      · rw [bEqT (by omega) z, if_pos z]; exact ⟨_, rfl, s2⟩
      · rw [bEqF (by omega) (by omega) z, if_neg z, bCl (m_bits (by omega) (by omega))]; exact ⟨_, rfl, s2⟩
    · exact bK.of rfl
end O40
