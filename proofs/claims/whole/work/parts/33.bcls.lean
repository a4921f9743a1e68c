/-! B: hold and carry, on the class's side -/
def bPm (w : bW) (p : Int → Int) (made i : Int) : Int := if on_and (on_shr made i) 1 = 0 then bPq w p i ((i + 1) % 4) else 0
def bLeft (w : bW) (p : Int → Int) (x made c : Int) : Int := if p c = -1 ∨ ¬ bWill w (p c) x then 0 else max 0 (bMan w (p c) 1 - 3 * (bPm w p made c + bPm w p made ((c + 3) % 4)))
def bHoldM (w : bW) (p : Int → Int) (n x wet made c : Int) : Int := min (bLeft w p x made c) (bKn w n wet c)
theorem bPm_b {w : bW} (hk : bOk w) {p : Int → Int} (hp : bPo w p) {made a : Int} (a0 : 0 ≤ a) (a1 : a < 4) : 0 ≤ bPm w p made a ∧ bPm w p made a ≤ 9 := by
  unfold bPm
  split
  · exact bPq_b hk hp a0 a1 (by omega) (by omega)
  · omega
theorem bLeft_b {w : bW} (hk : bOk w) {p : Int → Int} (hp : bPo w p) {x made c : Int} (c0 : 0 ≤ c) (c1 : c < 4) : 0 ≤ bLeft w p x made c ∧ bLeft w p x made c ≤ 60 := by
  have hc := hp c c0 c1
  have b1 := bPm_b hk hp (made := made) c0 c1
  have b2 := bPm_b hk hp (made := made) (show 0 ≤ (c + 3) % 4 by omega) (show (c + 3) % 4 < 4 by omega)
  unfold bLeft
  split
  · omega
  · rename_i h
    have hm := (hk.m (p c) (by omega) (by omega)).2.1
    omega
theorem bHoldM_b {w : bW} (hk : bOk w) {p : Int → Int} (hp : bPo w p) {n x wet made c : Int} (n0 : 0 ≤ n) (n1 : n < w 4) (c0 : 0 ≤ c) (c1 : c < 4) : 0 ≤ bHoldM w p n x wet made c ∧ bHoldM w p n x wet made c ≤ 99 := by
  have h1 := bLeft_b hk hp (x := x) (made := made) c0 c1
  have h2 := bKn_b hk (wet := wet) n0 n1 c0 c1
  unfold bHoldM; omega
theorem bPm0 {w : bW} {p : Int → Int} {a : Int} (a0 : 0 ≤ a) (a1 : a < 4) : bPm w p 0 a = bPq w p a ((a + 1) % 4) := by
  unfold bPm
  have : a = 0 ∨ a = 1 ∨ a = 2 ∨ a = 3 := by omega
  rcases this with rfl | rfl | rfl | rfl <;> exact if_pos (by decide)
theorem bHoldM0 {w : bW} (hk : bOk w) {p : Int → Int} (hp : bPo w p) {n x wet c : Int} (n0 : 0 ≤ n) (n1 : n < w 4) (c0 : 0 ≤ c) (c1 : c < 4) : bHoldM w p n x wet 0 c = bHold w p n x wet c := by
  have h2 := bKn_b hk (wet := wet) n0 n1 c0 c1
  unfold bHoldM bLeft bHold
  rw [bPm0 c0 c1, bPm0 (by omega) (by omega), show ((c + 3) % 4 + 1) % 4 = c by omega, bPq_c hk hp (a := (c + 3) % 4) (b := c) (by omega) (by omega) c0 c1]
  split <;> omega
section C33
variable {b : Nat} {w : bW} {σ : on_S}
theorem c_willHold (hk : bOk w) (hR : bRp b w σ) {m x : Int} (m0 : 0 ≤ m) (m1 : m < w 3) (x0 : 0 ≤ x) (x1 : x < w 2) : pf_X9_willHold b m x σ = some (if bWill w m x then 1 else 0, σ) := by
  obtain ⟨q0, q1, q2, q3, q4, q5, q6, q7⟩ := hk.c
  have h1 := (hk.m m m0 m1).1
  have h2 := (hk.wi x x0 x1).1
  have f1 := hk.f (bMan w m 0) (bHouse w x) h1.1 (by omega) h2.1 (by omega)
  unfold pf_X9_willHold pf_X9_willHold_42
  rw [bRd m0 (by omega), bRd x0 (by omega), (hR.m m m0 m1).1, (hR.wi x x0 x1).1]
  by_cases e : bMan w m 0 = bHouse w x
  · rw [bEqT (by omega) e, if_neg (fun z => z.1 e)]
  · rw [bEqF (by omega) (by omega) e, bRd x0 (by omega), (hR.wi x x0 x1).1, bRd (by omega) (by omega), (hR.f _ _ h1.1 (by omega) h2.1 (by omega)).1]
    by_cases f : bFd w (bMan w m 0) (bHouse w x) = 0
    · rw [bEqT (by omega) f, if_pos ⟨e, f⟩]
    · rw [bEqF (by omega) (by omega) f, if_neg (fun z => f z.2)]
theorem c_knotIf (hk : bOk w) (hR : bRp b w σ) {n c wet : Int} (n0 : 0 ≤ n) (n1 : n < w 4) (c0 : 0 ≤ c) (c1 : c < 4) (hw : on_R wet) : pf_X4_knotIf b n c wet σ = some (bKn w n wet c, σ) := by
  obtain ⟨q0, q1, q2, q3, q4, q5, q6, q7⟩ := hk.c
  have hkk := (hk.n n n0 n1).2.2.2 c c0 c1
  unfold pf_X4_knotIf bKn
  rw [bRd (by omega) (by omega), (hR.n n n0 n1).2.2.2 c c0 c1]
  by_cases g : wet = 1
  · rw [bEqT (by omega) g, if_pos g, bDv (by omega) (by omega) (by omega) (by omega)]
  · rw [bEqF (by omega) (by omega) g, if_neg g]
theorem c_quarrelBehind (hk : bOk w) (hR : bRp b w σ) {n c : Int} (n0 : 0 ≤ n) (n1 : n < w 4) (c0 : 0 ≤ c) (c1 : c < 4) : pf_X9_quarrelBehind b n c σ = some (bPq w (bAt w n) c ((c + 1) % 4), σ) := by
  obtain ⟨q0, q1, q2, q3, q4, q5, q6, q7⟩ := hk.c
  have hp := bAt_po hk.c n
  have h1 := hp c c0 c1
  have h2 := hp ((c + 1) % 4) (by omega) (by omega)
  unfold pf_X9_quarrelBehind pf_X9_quarrelBehind_44 bPq
  rw [bRd (by omega) (by omega), bRm (by omega) (by omega) (by omega) (by omega), bRd (by omega) (by omega), hR.h n c n0 (by omega) c0 c1, hR.h n _ n0 (by omega) (by omega) (by omega)]
  unfold bAt at *
  by_cases e : bManAt w n c = -1
  · rw [bEqT (by omega) e, if_pos (Or.inl e)]
  · rw [bEqF (by omega) (by omega) e]
    by_cases f : bManAt w n ((c + 1) % 4) = -1
    · rw [bEqT (by omega) f, if_pos (Or.inr f)]
    · rw [bEqF (by omega) (by omega) f, if_neg (fun z => z.elim e f), bRd (by omega) (by omega), hR.q _ _ (by omega) (by omega) (by omega) (by omega)]
theorem c_leftAt (hk : bOk w) (hR : bRp b w σ) {n c made : Int} (n0 : 0 ≤ n) (n1 : n < w 4) (c0 : 0 ≤ c) (c1 : c < 4) : pf_X9_leftAt b n c made σ = some (bLeft w (bAt w n) (bNet w n 0) made c, σ) := by
  obtain ⟨q0, q1, q2, q3, q4, q5, q6, q7⟩ := hk.c
  have hp := bAt_po hk.c n
  have h1 := hp c c0 c1
  have hn := (hk.n n n0 n1).1
  have b1 := bPq_b hk hp c0 c1 (show 0 ≤ (c + 1) % 4 by omega) (show (c + 1) % 4 < 4 by omega)
  have b2 := bPq_b hk hp (show 0 ≤ (c + 3) % 4 by omega) (show (c + 3) % 4 < 4 by omega) (show 0 ≤ ((c + 3) % 4 + 1) % 4 by omega) (show ((c + 3) % 4 + 1) % 4 < 4 by omega)
  have hand : ∀ a : Int, on_R (on_and a 1) := fun a => ⟨Int32.le_toInt _, Int32.toInt_lt _⟩
  unfold pf_X9_leftAt bLeft
  rw [bRd (by omega) (by omega), hR.h n c n0 (by omega) c0 c1, show bManAt w n c = bAt w n c from rfl]
  by_cases e : bAt w n c = -1
  · rw [bEqT (by omega) e, if_pos (Or.inl e)]
  · have hm := (hk.m (bAt w n c) (by omega) (by omega)).2.1
    have tail : ∀ v : Int, 0 ≤ v → v ≤ 18 → pf_X9_leftAt_93 b (bAt w n c) v σ = some (max 0 (bMan w (bAt w n c) 1 - 3 * v), σ) := by
      intro v v0 v1
      unfold pf_X9_leftAt_93
      rw [bRd (by omega) (by omega), (hR.m _ (by omega) (by omega)).2.1, bMx (by omega) (by omega)]
    rw [bEqF (by omega) (by omega) e, bRd n0 (by omega), (hR.n n n0 n1).1, bCl (c_willHold hk hR (by omega) (by omega) hn.1 hn.2), bE01]
    by_cases f : bWill w (bAt w n c) (bNet w n 0)
    · rw [if_pos f, if_neg (fun z => z.elim e (fun q => q f)), bRm (by omega) (by omega) (by omega) (by omega), show (c + 4 - 1) % 4 = (c + 3) % 4 by omega]
      have second : ∀ v : Int, 0 ≤ v → v ≤ 9 → pf_X9_leftAt_72 b n made (bAt w n c) ((c + 3) % 4) v σ = some (max 0 (bMan w (bAt w n c) 1 - 3 * (v + bPm w (bAt w n) made ((c + 3) % 4))), σ) := by
        intro v v0 v1
        unfold pf_X9_leftAt_72 bPm
        by_cases g : on_and (on_shr made ((c + 3) % 4)) 1 = 0
        · rw [bEqT (hand _) g, if_pos g, bCl (c_quarrelBehind hk hR n0 (by omega) (by omega) (by omega)), tail _ (by omega) (by omega)]
        · rw [bEqF (hand _) (by omega) g, if_neg g, tail _ (by omega) (by omega), Int.add_zero]
      rw [show bPm w (bAt w n) made c = if on_and (on_shr made c) 1 = 0 then bPq w (bAt w n) c ((c + 1) % 4) else 0 from rfl]
      by_cases g : on_and (on_shr made c) 1 = 0
      · rw [bEqT (hand _) g, if_pos g, bCl (c_quarrelBehind hk hR n0 (by omega) c0 c1), second _ (by omega) (by omega), Int.zero_add]
      · rw [bEqF (hand _) (by omega) g, if_neg g, second _ (by omega) (by omega)]
    · rw [if_neg f, if_pos (Or.inr f)]
theorem c_holdIf (hk : bOk w) (hR : bRp b w σ) {n c wet made : Int} (n0 : 0 ≤ n) (n1 : n < w 4) (c0 : 0 ≤ c) (c1 : c < 4) (hw : on_R wet) : pf_X9_holdIf b n c wet made σ = some (bHoldM w (bAt w n) n (bNet w n 0) wet made c, σ) := by
  have h1 := bLeft_b hk (bAt_po hk.c n) (x := bNet w n 0) (made := made) c0 c1
  have h2 := bKn_b hk (wet := wet) n0 n1 c0 c1
  unfold pf_X9_holdIf
  rw [bCl (c_leftAt hk hR n0 n1 c0 c1), bCl (c_knotIf hk hR n0 n1 c0 c1 hw), bMn (by omega) (by omega)]; rfl
def bCarM (w : bW) (n wet made : Int) : Int := 4 * bLst (bHoldM w (bAt w n) n (bNet w n 0) wet made)
theorem bCarM0 (hk : bOk w) {n wet : Int} (n0 : 0 ≤ n) (n1 : n < w 4) : bCarM w n wet 0 = bCar w n wet := by
  unfold bCarM bCar
  rw [bLst_congr (fun c c0 c1 => bHoldM0 hk (bAt_po hk.c n) n0 n1 c0 c1)]
theorem bCarM_b (hk : bOk w) {n wet made : Int} (n0 : 0 ≤ n) (n1 : n < w 4) : 0 ≤ bCarM w n wet made ∧ bCarM w n wet made ≤ 396 := by
  have := bLst_b (f := bHoldM w (bAt w n) n (bNet w n 0) wet made) (l := 0) (h := 99) (fun c c0 c1 => bHoldM_b hk (bAt_po hk.c n) n0 n1 c0 c1)
  unfold bCarM; omega
theorem c_carriedIf (hk : bOk w) (hR : bRp b w σ) {n wet made : Int} (n0 : 0 ≤ n) (n1 : n < w 4) (hw : on_R wet) : pf_X9_carriedIf b n wet made σ = some (bCarM w n wet made, σ) := by
  have hb : ∀ c : Int, 0 ≤ c → c < 4 → 0 ≤ bHoldM w (bAt w n) n (bNet w n 0) wet made c ∧ bHoldM w (bAt w n) n (bNet w n 0) wet made c ≤ 99 := fun c c0 c1 => bHoldM_b hk (bAt_po hk.c n) n0 n1 c0 c1
  have hc : ∀ c : Int, 0 ≤ c → c < 4 → pf_X9_holdIf b n c wet made σ = some (bHoldM w (bAt w n) n (bNet w n 0) wet made c, σ) := fun c c0 c1 => c_holdIf hk hR n0 n1 c0 c1 hw
  unfold pf_X9_carriedIf bCarM bLst
  generalize bHoldM w (bAt w n) n (bNet w n 0) wet made = f at hb hc
  have f0 := hb 0 (by omega) (by omega)
  have f1 := hb 1 (by omega) (by omega)
  have f2 := hb 2 (by omega) (by omega)
  have f3 := hb 3 (by omega) (by omega)
  rw [bCl (hc 0 (by omega) (by omega)), show on_N = 99996 + 1 + 1 + 1 + 1 from rfl, pf_X9_carriedIf_13, bLtT (by omega) (by omega) (by omega)]
  by_cases z : f 0 ≤ 0
  · rw [bLeT (by omega) (by omega) z]; congr 2; omega
  · rw [bLeF (by omega) (by omega) (by omega), bCl (hc 1 (by omega) (by omega)), bMn (by omega) (by omega), pf_X9_carriedIf_13, bLtT (by omega) (by omega) (by omega)]
    by_cases z1 : min (f 0) (f 1) ≤ 0
    · rw [bLeT (by omega) (by omega) z1]; congr 2; omega
    · rw [bLeF (by omega) (by omega) (by omega), bCl (hc (1 + 1) (by omega) (by omega)), show (1 + 1 : Int) = 2 from rfl, bMn (by omega) (by omega), pf_X9_carriedIf_13, bLtT (by omega) (by omega) (by omega)]
      by_cases z2 : min (min (f 0) (f 1)) (f 2) ≤ 0
      · rw [bLeT (by omega) (by omega) z2]; congr 2; omega
      · rw [bLeF (by omega) (by omega) (by omega), bCl (hc (2 + 1) (by omega) (by omega)), show (2 + 1 : Int) = 3 from rfl, bMn (by omega) (by omega), pf_X9_carriedIf_13, bLtF (by omega) (by omega) (by omega)]; congr 2; omega
theorem c_carriedNow (hk : bOk w) (hR : bRp b w σ) {n : Int} (n0 : 0 ≤ n) (n1 : n < w 4) : pf_X9_carriedNow b n σ = some (bCar w n (bNet w n 2), σ) := by
  obtain ⟨q0, q1, q2, q3, q4, q5, q6, q7⟩ := hk.c
  have hn := (hk.n n n0 n1).2.2.1
  unfold pf_X9_carriedNow
  rw [bRd n0 (by omega), (hR.n n n0 n1).2.2.1, bCl (c_carriedIf hk hR n0 n1 (by omega)), bCarM0 hk n0 n1]
theorem c_holdNow (hk : bOk w) (hR : bRp b w σ) {n c : Int} (n0 : 0 ≤ n) (n1 : n < w 4) (c0 : 0 ≤ c) (c1 : c < 4) : pf_X9_holdNow b n c σ = some (bHold w (bAt w n) n (bNet w n 0) (bNet w n 2) c, σ) := by
  obtain ⟨q0, q1, q2, q3, q4, q5, q6, q7⟩ := hk.c
  have hn := (hk.n n n0 n1).2.2.1
  unfold pf_X9_holdNow
  rw [bRd n0 (by omega), (hR.n n n0 n1).2.2.1, bCl (c_holdIf hk hR n0 n1 c0 c1 (by omega)), bHoldM0 hk (bAt_po hk.c n) n0 n1 c0 c1]
theorem c_weakestCorner (hk : bOk w) (hR : bRp b w σ) {n : Int} (n0 : 0 ≤ n) (n1 : n < w 4) : pf_X9_weakestCorner b n σ = some (bWeak (bHold w (bAt w n) n (bNet w n 0) (bNet w n 2)), σ) := by
  have hb : ∀ c : Int, 0 ≤ c → c < 4 → 0 ≤ bHold w (bAt w n) n (bNet w n 0) (bNet w n 2) c ∧ bHold w (bAt w n) n (bNet w n 0) (bNet w n 2) c ≤ 99 := fun c c0 c1 => bHold_b hk n0 n1 c0 c1
  have hc : ∀ c : Int, 0 ≤ c → c < 4 → pf_X9_holdNow b n c σ = some (bHold w (bAt w n) n (bNet w n 0) (bNet w n 2) c, σ) := fun c c0 c1 => c_holdNow hk hR n0 n1 c0 c1
  unfold pf_X9_weakestCorner
  generalize bHold w (bAt w n) n (bNet w n 0) (bNet w n 2) = f at hb hc
  have step : ∀ (nf : Nat) (a k : Int), 0 ≤ a → a < 4 → 1 ≤ k → k < 4 → pf_X9_weakestCorner_12 b (nf + 1) n a (f a) k σ = pf_X9_weakestCorner_12 b nf n (if f k < f a then k else a) (f (if f k < f a then k else a)) (k + 1) σ := by
    intro nf a k a0 a1 k0 k1
    have h1 := hb a a0 a1
    have h2 := hb k (by omega) k1
    rw [pf_X9_weakestCorner_12, bLtT (by omega) (by omega) k1, bCl (hc k (by omega) k1)]
    by_cases e : f k < f a
    · rw [bLtT (by omega) (by omega) e, if_pos e]
    · rw [bLtF (by omega) (by omega) (by omega), if_neg e]
  unfold bWeak
  dsimp only
  rw [bCl (hc 0 (by omega) (by omega)), show on_N = 99996 + 1 + 1 + 1 + 1 from rfl, step _ 0 1 (by omega) (by omega) (by omega) (by omega), show (1 + 1 : Int) = 2 from rfl]
  generalize hA : (if f 1 < f 0 then (1 : Int) else 0) = A
  have hA1 : 0 ≤ A ∧ A < 4 := by rw [← hA]; split <;> omega
  rw [step _ A 2 hA1.1 hA1.2 (by omega) (by omega), show (2 + 1 : Int) = 3 from rfl]
  generalize hB : (if f 2 < f A then (2 : Int) else A) = B
  have hB1 : 0 ≤ B ∧ B < 4 := by rw [← hB]; split <;> omega
  rw [step _ B 3 hB1.1 hB1.2 (by omega) (by omega), show (3 + 1 : Int) = 4 from rfl]
  rw [pf_X9_weakestCorner_12, bLtF (by omega) (by omega) (by omega)]
end C33
/-- what all nets carry -/
def bAllR (w : bW) : Nat → Int → Int → Int
  | 0, _, a => a
  | r + 1, k, a => bAllR w r (k + 1) (a + bCar w k (bNet w k 2))
def bAll (w : bW) : Int := bAllR w (w 4).toNat 0 0
theorem bAllR_b {w : bW} (hk : bOk w) : ∀ (r : Nat) (k a : Int), 0 ≤ k → k + (r : Int) = w 4 → a ≤ bAllR w r k a ∧ bAllR w r k a ≤ a + 396 * r := by
  intro r
  induction r with
  | zero => intro k a _ _; simp [bAllR]
  | succ r ih =>
    intro k a k0 hk1
    have := bCar_b hk (wet := bNet w k 2) k0 (by omega)
    have h2 := ih (k + 1) (a + bCar w k (bNet w k 2)) (by omega) (by omega)
    rw [bAllR]
    omega
theorem bAll_b {w : bW} (hk : bOk w) : 0 ≤ bAll w ∧ bAll w ≤ 792 := by
  obtain ⟨q0, q1, q2, q3, q4, q5, q6, q7⟩ := hk.c
  have := bAllR_b hk (w 4).toNat 0 0 (by omega) (by omega)
  unfold bAll; omega
theorem c_allCarry {b : Nat} {w : bW} {σ : on_S} (hk : bOk w) (hR : bRp b w σ) : pf_X9_allCarry b σ = some (bAll w, σ) := by
  obtain ⟨q0, q1, q2, q3, q4, q5, q6, q7⟩ := hk.c
  obtain ⟨r0, r1, r2, r3, r4, r5, r6, r7⟩ := hR.c
  have L : ∀ (r nf : Nat) (k a : Int), 0 ≤ k → k + (r : Int) = w 4 → r < nf → pf_X9_allCarry_4 b nf a k σ = some (bAllR w r k a, σ) := by
    intro r
    induction r with
    | zero =>
      intro nf k a k0 hk1 hn
      cases nf with
      | zero => omega
      | succ nf => rw [pf_X9_allCarry_4, bGt, r6, bLtF (by omega) (by omega) (by omega)]; rfl
    | succ r ih =>
      intro nf k a k0 hk1 hn
      cases nf with
      | zero => omega
      | succ nf =>
        have hn2 := (hk.n k k0 (by omega)).2.2.1
        rw [pf_X9_allCarry_4, bGt, r6, bLtT (by omega) (by omega) (by omega), bRd k0 (by omega), (hR.n k k0 (by omega)).2.2.1, bCl (c_carriedIf hk hR k0 (by omega) (by omega)), bCarM0 hk k0 (by omega), ih nf (k + 1) _ (by omega) (by omega) (by omega)]; rfl
  exact L (w 4).toNat on_N 0 0 (by omega) (by omega) (by unfold on_N; omega)
theorem m_allCarry {σ : on_S} (hk : bOk (σ 78)) : bK (pf_X12_allCarry σ) σ (bAll (σ 78)) := by
  obtain ⟨q0, q1, q2, q3, q4, q5, q6, q7⟩ := hk.c
  have L : ∀ (r nf : Nat) (k a : Int) (σ' : on_S), bS σ σ' → 0 ≤ k → k + (r : Int) = σ 78 4 → r < nf → bK (pf_X12_allCarry_4 nf a k σ') σ (bAllR (σ 78) r k a) := by
    intro r
    induction r with
    | zero =>
      intro nf k a σ' hs k0 hk1 hn
      cases nf with
      | zero => omega
      | succ nf => rw [pf_X12_allCarry_4, bRd (by omega) (by omega), hs.w, bLtF (by omega) (by omega) (by omega)]; exact ⟨_, rfl, hs⟩
    | succ r ih =>
      intro nf k a σ' hs k0 hk1 hn
      cases nf with
      | zero => omega
      | succ nf =>
        rw [pf_X12_allCarry_4, bRd (by omega) (by omega), hs.w, bLtT (by omega) (by omega) (by omega), bCl (m_carries (by rw [hs.w]; exact hk) k0 (by rw [hs.w]; omega)), hs.w]
        exact ih nf (k + 1) _ _ (hs.tr (bLay_S σ' k)) (by omega) (by omega) (by omega)
  exact L (σ 78 4).toNat on_N 0 0 σ (bS.rf σ) (by omega) (by omega) (by unfold on_N; omega)
