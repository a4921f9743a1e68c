/-! B: who is there, what a corner holds, what a net carries -/
section H32
variable {σ : on_S}
theorem m_two {P Q : Prop} [Decidable P] [Decidable Q] {a b : Int} (ha : on_R a) (hb : on_R b) {x y : Option on_O} {σ : on_S} (h1 : x = some (if P then 1 else 0, σ)) (h2 : y = some (if Q then 1 else 0, σ)) :
    on_Cl x (fun v1 _ => on_Eq v1 0 (some (0, σ)) (on_Cl y fun v3 _ => on_Eq v3 0 (some (0, σ)) (on_Eq a b (some (0, σ)) (some (1, σ))))) = some (if P ∧ Q ∧ a ≠ b then 1 else 0, σ) := by
  rw [bCl h1, bE01]
  by_cases p : P
  · rw [if_pos p, bCl h2, bE01]
    by_cases q : Q
    · rw [if_pos q]
      by_cases e : a = b
      · rw [bEqT ha e, if_neg (fun z => z.2.2 e)]
      · rw [bEqF ha hb e, if_pos ⟨p, q, e⟩]
    · rw [if_neg q, if_neg (fun z => q z.2.1)]
  · rw [if_neg p, if_neg (fun z => p z.1)]
theorem m_areMen (hk : bOk (σ 78)) {p q : Int} (hp : on_R p) (hq : on_R q) : pf_X12_areMen p q σ = some (if (0 ≤ p ∧ p < σ 78 3) ∧ (0 ≤ q ∧ q < σ 78 3) ∧ p ≠ q then 1 else 0, σ) := by
  unfold pf_X12_areMen pf_X12_areMen_25
  rw [bCl (m_isMan hk hp)]
  have h := m_two hp hq (m_isMan hk hp) (m_isMan hk hq)
  rw [bCl (m_isMan hk hp), bCl (m_isMan hk hq)] at h
  rw [bCl (m_isMan hk hq)]
  exact h
theorem m_areHouses (hk : bOk (σ 78)) {p q : Int} (hp : on_R p) (hq : on_R q) : pf_X12_areHouses p q σ = some (if (0 ≤ p ∧ p < σ 78 0) ∧ (0 ≤ q ∧ q < σ 78 0) ∧ p ≠ q then 1 else 0, σ) := by
  unfold pf_X12_areHouses pf_X12_areHouses_25
  have h := m_two hp hq (m_isHouse hk hp) (m_isHouse hk hq)
  rw [bCl (m_isHouse hk hp), bCl (m_isHouse hk hq)] at h
  rw [bCl (m_isHouse hk hp), bCl (m_isHouse hk hq)]
  exact h
end H32
section C32
variable {b : Nat} {w : bW} {σ : on_S}
theorem c_has {p n : Int} (hp : on_R p) (hn : 0 ≤ n ∧ n ≤ 9) : on_Lt p 0 (some (0, σ)) (on_Lt p n (some (1, σ)) (some (0, σ))) = some (if 0 ≤ p ∧ p < n then 1 else 0, σ) := by
  by_cases h : p < 0
  · rw [bLtT hp (by omega) h, if_neg (by omega)]
  · rw [bLtF hp (by omega) (by omega)]
    by_cases h2 : p < n
    · rw [bLtT hp (by omega) h2, if_pos ⟨by omega, h2⟩]
    · rw [bLtF hp (by omega) (by omega), if_neg (by omega)]
theorem c_hasHouse (hk : bOk w) (hR : bRp b w σ) {p : Int} (hp : on_R p) : pf_X9_hasHouse b p σ = some (if 0 ≤ p ∧ p < w 0 then 1 else 0, σ) := by
  obtain ⟨q0, q1, q2, q3, q4, q5, q6, q7⟩ := hk.c
  obtain ⟨r0, r1, r2, r3, r4, r5, r6, r7⟩ := hR.c
  unfold pf_X9_hasHouse pf_X9_hasHouse_16
  rw [bGt, r0]
  exact c_has hp (by omega)
theorem c_hasWindow (hk : bOk w) (hR : bRp b w σ) {p : Int} (hp : on_R p) : pf_X9_hasWindow b p σ = some (if 0 ≤ p ∧ p < w 2 then 1 else 0, σ) := by
  obtain ⟨q0, q1, q2, q3, q4, q5, q6, q7⟩ := hk.c
  obtain ⟨r0, r1, r2, r3, r4, r5, r6, r7⟩ := hR.c
  unfold pf_X9_hasWindow pf_X9_hasWindow_16
  rw [bGt, r3]
  exact c_has hp (by omega)
theorem c_hasMan (hk : bOk w) (hR : bRp b w σ) {p : Int} (hp : on_R p) : pf_X9_hasMan b p σ = some (if 0 ≤ p ∧ p < w 3 then 1 else 0, σ) := by
  obtain ⟨q0, q1, q2, q3, q4, q5, q6, q7⟩ := hk.c
  obtain ⟨r0, r1, r2, r3, r4, r5, r6, r7⟩ := hR.c
  unfold pf_X9_hasMan pf_X9_hasMan_19
  rw [bGt, r5]
  exact c_has hp (by omega)
theorem c_hasJumper (hk : bOk w) (hR : bRp b w σ) {p : Int} (hp : on_R p) : pf_X9_hasJumper b p σ = some (if 0 ≤ p ∧ p < w 5 then 1 else 0, σ) := by
  obtain ⟨q0, q1, q2, q3, q4, q5, q6, q7⟩ := hk.c
  obtain ⟨r0, r1, r2, r3, r4, r5, r6, r7⟩ := hR.c
  unfold pf_X9_hasJumper pf_X9_hasJumper_16
  rw [bGt, r4]
  exact c_has hp (by omega)
theorem c_isThere (hk : bOk w) (hR : bRp b w σ) : pf_X9_isThere b σ = some (if 0 < w 7 then 1 else 0, σ) := by
  obtain ⟨q0, q1, q2, q3, q4, q5, q6, q7⟩ := hk.c
  obtain ⟨r0, r1, r2, r3, r4, r5, r6, r7⟩ := hR.c
  unfold pf_X9_isThere
  rw [bGt, r2]
  by_cases h : 0 < w 7
  · rw [bLeF (by omega) (by omega) h, if_pos h]
  · rw [bLeT (by omega) (by omega) (by omega), if_neg h]
theorem c_hasCorner (hk : bOk w) (hR : bRp b w σ) {p q : Int} (hp : on_R p) (hq : on_R q) : pf_X9_hasCorner b p q σ = some (if (0 ≤ p ∧ p < w 4) ∧ (0 ≤ q ∧ q < 4) then 1 else 0, σ) := by
  unfold pf_X9_hasCorner pf_X9_hasCorner_21
  rw [bCl (c_hasNet hk hR hp), bE01, c_has hq (by omega)]
  by_cases h : 0 ≤ p ∧ p < w 4
  · rw [if_pos h]
    congr 3; exact propext ⟨fun z => ⟨h, z⟩, fun z => z.2⟩
  · rw [if_neg h, if_neg (fun z => h z.1)]
theorem c_hasTwoMen (hk : bOk w) (hR : bRp b w σ) {p q : Int} (hp : on_R p) (hq : on_R q) : pf_X9_hasTwoMen b p q σ = some (if (0 ≤ p ∧ p < w 3) ∧ (0 ≤ q ∧ q < w 3) ∧ p ≠ q then 1 else 0, σ) := by
  unfold pf_X9_hasTwoMen pf_X9_hasTwoMen_25
  have h := m_two hp hq (c_hasMan hk hR hp) (c_hasMan hk hR hq)
  rw [bCl (c_hasMan hk hR hp), bCl (c_hasMan hk hR hq)] at h
  rw [bCl (c_hasMan hk hR hp), bCl (c_hasMan hk hR hq)]
  exact h
theorem c_hasTwoHouses (hk : bOk w) (hR : bRp b w σ) {p q : Int} (hp : on_R p) (hq : on_R q) : pf_X9_hasTwoHouses b p q σ = some (if (0 ≤ p ∧ p < w 0) ∧ (0 ≤ q ∧ q < w 0) ∧ p ≠ q then 1 else 0, σ) := by
  unfold pf_X9_hasTwoHouses pf_X9_hasTwoHouses_25
  have h := m_two hp hq (c_hasHouse hk hR hp) (c_hasHouse hk hR hq)
  rw [bCl (c_hasHouse hk hR hp), bCl (c_hasHouse hk hR hq)] at h
  rw [bCl (c_hasHouse hk hR hp), bCl (c_hasHouse hk hR hq)]
  exact h
theorem c_quarrelOf (hR : bRp b w σ) {p q : Int} (h0 : 0 ≤ p) (h1 : p < 9) (h2 : 0 ≤ q) (h3 : q < 9) : pf_X3_quarrelOf b p q σ = some (bQ w p q, σ) := by
  unfold pf_X3_quarrelOf
  rw [bRd (by omega) (by omega), hR.q p q h0 h1 h2 h3]
theorem c_netBelow (hk : bOk w) (hR : bRp b w σ) {p : Int} (h0 : 0 ≤ p) (h1 : p < w 5) : pf_X9_netBelow b p σ = some (bNetAt w (bWin w p), σ) := by
  obtain ⟨q0, q1, q2, q3, q4, q5, q6, q7⟩ := hk.c
  obtain ⟨j1, j2⟩ := hk.j p h0 h1
  unfold pf_X9_netBelow
  rw [bRd h0 (by omega), (hR.j p h0 h1).2, bRd (by omega) (by omega), (hR.wi _ j2.1 j2.2).2.2]
theorem c_storeyOf (hk : bOk w) (hR : bRp b w σ) {n : Int} (h0 : 0 ≤ n) (h1 : n < w 4) : pf_X9_storeyOf b n σ = some (bStorey w (bNet w n 0), σ) := by
  obtain ⟨q0, q1, q2, q3, q4, q5, q6, q7⟩ := hk.c
  have hn := (hk.n n h0 h1).1
  unfold pf_X9_storeyOf
  rw [bRd h0 (by omega), (hR.n n h0 h1).1, bRd (by omega) (by omega), (hR.wi _ hn.1 hn.2).2.1]
end C32
/-! hold -/
abbrev bWill (w : bW) (m x : Int) : Prop := bMan w m 0 ≠ bHouse w x ∧ bFd w (bMan w m 0) (bHouse w x) = 0
def bPq (w : bW) (p : Int → Int) (a b : Int) : Int := if p a = -1 ∨ p b = -1 then 0 else bQ w (p a) (p b)
def bKn (w : bW) (n wet c : Int) : Int := if wet = 1 then bNet w n (3 + c) / 2 else bNet w n (3 + c)
def bHold (w : bW) (p : Int → Int) (n x wet c : Int) : Int := if p c = -1 ∨ ¬ bWill w (p c) x then 0 else max 0 (min (bMan w (p c) 1 - 3 * bPq w p c ((c + 1) % 4) - 3 * bPq w p c ((c + 3) % 4)) (bKn w n wet c))
/-- posts: nobody, or a man -/
def bPo (w : bW) (p : Int → Int) : Prop := ∀ c : Int, 0 ≤ c → c < 4 → p c = -1 ∨ (0 ≤ p c ∧ p c < w 3)
theorem bPq_b {w : bW} (hk : bOk w) {p : Int → Int} (hp : bPo w p) {a b : Int} (a0 : 0 ≤ a) (a1 : a < 4) (b0 : 0 ≤ b) (b1 : b < 4) : 0 ≤ bPq w p a b ∧ bPq w p a b ≤ 9 := by
  obtain ⟨q0, q1, q2, q3, q4, q5, q6, q7⟩ := hk.c
  unfold bPq
  split
  · omega
  · rename_i h
    have h1 := hp a a0 a1
    have h2 := hp b b0 b1
    exact (hk.q _ _ (by omega) (by omega) (by omega) (by omega)).1
theorem bPq_c {w : bW} (hk : bOk w) {p : Int → Int} (hp : bPo w p) {a b : Int} (a0 : 0 ≤ a) (a1 : a < 4) (b0 : 0 ≤ b) (b1 : b < 4) : bPq w p a b = bPq w p b a := by
  obtain ⟨q0, q1, q2, q3, q4, q5, q6, q7⟩ := hk.c
  unfold bPq
  have h1 := hp a a0 a1
  have h2 := hp b b0 b1
  by_cases h : p a = -1 ∨ p b = -1
  · rw [if_pos h, if_pos (by omega)]
  · rw [if_neg h, if_neg (by omega)]
    exact (hk.q _ _ (by omega) (by omega) (by omega) (by omega)).2
theorem bKn_b {w : bW} (hk : bOk w) {n wet c : Int} (n0 : 0 ≤ n) (n1 : n < w 4) (c0 : 0 ≤ c) (c1 : c < 4) : 0 ≤ bKn w n wet c ∧ bKn w n wet c ≤ 99 := by
  have h := (hk.n n n0 n1).2.2.2 c c0 c1
  unfold bKn
  split <;> omega
theorem bHold_b {w : bW} (hk : bOk w) {p : Int → Int} {n x wet c : Int} (n0 : 0 ≤ n) (n1 : n < w 4) (c0 : 0 ≤ c) (c1 : c < 4) : 0 ≤ bHold w p n x wet c ∧ bHold w p n x wet c ≤ 99 := by
  have h := bKn_b hk (wet := wet) n0 n1 c0 c1
  unfold bHold
  split <;> omega
theorem m_isWilling {σ : on_S} (hk : bOk (σ 78)) {m x : Int} (m0 : 0 ≤ m) (m1 : m < σ 78 3) (x0 : 0 ≤ x) (x1 : x < σ 78 2) : pf_X12_isWilling m x σ = some (if bWill (σ 78) m x then 1 else 0, σ) := by
  obtain ⟨q0, q1, q2, q3, q4, q5, q6, q7⟩ := hk.c
  have h1 := (hk.m m m0 m1).1
  have h2 := (hk.wi x x0 x1).1
  unfold pf_X12_isWilling pf_X12_isWilling_33
  rw [bCl (m_ofMan m0 (by omega) (by omega) (by omega)), bCl (m_houseOf x0 (by omega))]
  by_cases e : bMan (σ 78) m 0 = bHouse (σ 78) x
  · rw [bEqT (by omega) e, if_neg (fun z => z.1 e)]
  · rw [bEqF (by omega) (by omega) e, bCl (m_houseOf x0 (by omega)), bCl (m_isFeud hk h1.1 (by omega) h2.1 (by omega))]
    by_cases f : bFd (σ 78) (bMan (σ 78) m 0) (bHouse (σ 78) x) = 0
    · rw [bEqT (by omega) f, if_pos ⟨e, f⟩]
    · have f1 := hk.f (bMan (σ 78) m 0) (bHouse (σ 78) x) h1.1 (by omega) h2.1 (by omega)
      rw [bEqF (by omega) (by omega) f, if_neg (fun z => f z.2)]
theorem m_holdAt {σ : on_S} (hk : bOk (σ 78)) (hp : bPo (σ 78) (σ 84)) {n x wet c : Int} (n0 : 0 ≤ n) (n1 : n < σ 78 4) (x0 : 0 ≤ x) (x1 : x < σ 78 2) (hw : on_R wet) (c0 : 0 ≤ c) (c1 : c < 4) : pf_X12_holdAt n x wet c σ = some (bHold (σ 78) (σ 84) n x wet c, σ) := by
  obtain ⟨q0, q1, q2, q3, q4, q5, q6, q7⟩ := hk.c
  have hc := hp c c0 c1
  have hkn := bKn_b hk (wet := wet) n0 n1 c0 c1
  have hkk := (hk.n n n0 n1).2.2.2 c c0 c1
  unfold pf_X12_holdAt
  rw [bRd c0 (by omega)]
  unfold bHold
  by_cases e : σ 84 c = -1
  · rw [bEqT (by omega) e, if_pos (Or.inl e)]
  · rw [bEqF (by omega) (by omega) e, bCl (m_isWilling hk (by omega) (by omega) x0 x1), bE01]
    by_cases f : bWill (σ 78) (σ 84 c) x
    · have hm := (hk.m (σ 84 c) (by omega) (by omega)).2.1
      rw [if_pos f, if_neg (fun z => z.elim e (fun q => q f)), bCl (m_ofMan (by omega) (by omega) (by omega) (by omega))]
      have step : ∀ (nf : Nat) (v k : Int), (k = 1 ∨ k = 3) → pf_X12_holdAt_39 (nf + 1) n wet c (σ 84 c) v k σ = pf_X12_holdAt_39 nf n wet c (σ 84 c) (v - 3 * bPq (σ 78) (σ 84) c ((c + k) % 4)) (k + 2) σ := by
        intro nf v k hk2
        have hc2 := hp ((c + k) % 4) (by omega) (by omega)
        rw [pf_X12_holdAt_39, bLtT (by omega) (by omega) (by omega), bRm (by omega) (by omega) (by omega) (by omega), bRd (by omega) (by omega)]
        unfold bPq
        by_cases g : σ 84 ((c + k) % 4) = -1
        · rw [bEqT (by omega) g, if_pos (Or.inr g)]; rfl
        · rw [bEqF (by omega) (by omega) g, if_neg (fun z => z.elim e g), bCl (m_quarrelOf (by omega) (by omega) (by omega) (by omega))]
      rw [show on_N = 99997 + 1 + 1 + 1 from rfl, step _ _ 1 (Or.inl rfl), step _ _ (1 + 2) (Or.inr rfl)]
      have b1 := bPq_b hk hp c0 c1 (show 0 ≤ (c + 1) % 4 by omega) (show (c + 1) % 4 < 4 by omega)
      have b2 := bPq_b hk hp c0 c1 (show 0 ≤ (c + 3) % 4 by omega) (show (c + 3) % 4 < 4 by omega)
      rw [pf_X12_holdAt_39, bLtF (by omega) (by omega) (by omega), bCl (m_ofNet n0 (by omega) (by omega) (by omega))]
      rw [show (1 + 2 : Int) = 3 from rfl]
      unfold bKn
      by_cases g : wet = 1
      · rw [bEqT (by omega) g, if_pos g, bDv (by omega) (by omega) (by omega) (by omega), pf_X12_holdAt_118, bMn (by omega) (by omega), bMx (by omega) (by omega)]
      · rw [bEqF (by omega) (by omega) g, if_neg g, pf_X12_holdAt_118, bMn (by omega) (by omega), bMx (by omega) (by omega)]
    · rw [if_neg f, if_pos (Or.inr f)]
/-- the first of four at which f is least -/
def bWeak (f : Int → Int) : Int := let x := if f 1 < f 0 then 1 else 0; let y := if f 2 < f x then 2 else x; if f 3 < f y then 3 else y
theorem bWeak_b (f : Int → Int) : 0 ≤ bWeak f ∧ bWeak f < 4 := by
  unfold bWeak; dsimp only; split <;> split <;> split <;> omega
def bLst (f : Int → Int) : Int := min (min (f 0) (f 1)) (min (f 2) (f 3))
theorem bWeak_v (f : Int → Int) : f (bWeak f) = bLst f := by
  unfold bWeak bLst; dsimp only
  by_cases a : f 1 < f 0
  · simp only [if_pos a]
    by_cases b : f 2 < f 1
    · simp only [if_pos b]
      by_cases c : f 3 < f 2
      · simp only [if_pos c]; omega
      · simp only [if_neg c]; omega
    · simp only [if_neg b]
      by_cases c : f 3 < f 1
      · simp only [if_pos c]; omega
      · simp only [if_neg c]; omega
  · simp only [if_neg a]
    by_cases b : f 2 < f 0
    · simp only [if_pos b]
      by_cases c : f 3 < f 2
      · simp only [if_pos c]; omega
      · simp only [if_neg c]; omega
    · simp only [if_neg b]
      by_cases c : f 3 < f 0
      · simp only [if_pos c]; omega
      · simp only [if_neg c]; omega
theorem m_weakest {σ : on_S} (hk : bOk (σ 78)) (hp : bPo (σ 78) (σ 84)) {n x wet : Int} (n0 : 0 ≤ n) (n1 : n < σ 78 4) (x0 : 0 ≤ x) (x1 : x < σ 78 2) (hw : on_R wet) : pf_X12_weakest n x wet σ = some (bWeak (bHold (σ 78) (σ 84) n x wet), σ) := by
  have step : ∀ (nf : Nat) (a k : Int), 0 ≤ a → a < 4 → 1 ≤ k → k < 4 → pf_X12_weakest_6 (nf + 1) n x wet a k σ = pf_X12_weakest_6 nf n x wet (if bHold (σ 78) (σ 84) n x wet k < bHold (σ 78) (σ 84) n x wet a then k else a) (k + 1) σ := by
    intro nf a k a0 a1 k0 k1
    have h1 := bHold_b hk (p := σ 84) (x := x) (wet := wet) n0 n1 a0 a1
    have h2 := bHold_b hk (p := σ 84) (x := x) (wet := wet) n0 n1 (show 0 ≤ k by omega) k1
    rw [pf_X12_weakest_6, bLtT (by omega) (by omega) k1, bCl (m_holdAt hk hp n0 n1 x0 x1 hw (by omega) k1), bCl (m_holdAt hk hp n0 n1 x0 x1 hw a0 a1)]
    by_cases e : bHold (σ 78) (σ 84) n x wet k < bHold (σ 78) (σ 84) n x wet a
    · rw [bLtT (by omega) (by omega) e, if_pos e]
    · rw [bLtF (by omega) (by omega) (by omega), if_neg e]
  unfold pf_X12_weakest bWeak
  dsimp only
  rw [show on_N = 99996 + 1 + 1 + 1 + 1 from rfl, step _ 0 1 (by omega) (by omega) (by omega) (by omega), show (1 + 1 : Int) = 2 from rfl]
  generalize hA : (if bHold (σ 78) (σ 84) n x wet 1 < bHold (σ 78) (σ 84) n x wet 0 then (1 : Int) else 0) = A
  have hA1 : 0 ≤ A ∧ A < 4 := by rw [← hA]; split <;> omega
  rw [step _ A 2 hA1.1 hA1.2 (by omega) (by omega), show (2 + 1 : Int) = 3 from rfl]
  generalize hB : (if bHold (σ 78) (σ 84) n x wet 2 < bHold (σ 78) (σ 84) n x wet A then (2 : Int) else A) = B
  have hB1 : 0 ≤ B ∧ B < 4 := by rw [← hB]; split <;> omega
  rw [step _ B 3 hB1.1 hB1.2 (by omega) (by omega), show (3 + 1 : Int) = 4 from rfl]
  rw [pf_X12_weakest_6, bLtF (by omega) (by omega) (by omega)]
theorem m_carriesBy {σ : on_S} (hk : bOk (σ 78)) (hp : bPo (σ 78) (σ 84)) {n x wet : Int} (n0 : 0 ≤ n) (n1 : n < σ 78 4) (x0 : 0 ≤ x) (x1 : x < σ 78 2) (hw : on_R wet) : pf_X12_carriesBy n x wet σ = some (4 * bLst (bHold (σ 78) (σ 84) n x wet), σ) := by
  have hb := bWeak_b (bHold (σ 78) (σ 84) n x wet)
  unfold pf_X12_carriesBy
  rw [bCl (m_weakest hk hp n0 n1 x0 x1 hw), bCl (m_holdAt hk hp n0 n1 x0 x1 hw hb.1 hb.2), bWeak_v (bHold (σ 78) (σ 84) n x wet)]
/-- posts laid as all stand -/
def bLay (σ : on_S) (n : Int) : on_S := on_st (on_st (on_st (on_st σ 84 0 (bManAt (σ 78) n 0)) 84 1 (bManAt (σ 78) n 1)) 84 2 (bManAt (σ 78) n 2)) 84 3 (bManAt (σ 78) n 3)
theorem bLay_S (σ : on_S) (n : Int) : bS σ (bLay σ n) := (((bS.st (by decide) (by decide)).tr (bS.st (by decide) (by decide))).tr (bS.st (by decide) (by decide))).tr (bS.st (by decide) (by decide))
theorem bLay_84 (σ : on_S) (n : Int) {c : Int} (c0 : 0 ≤ c) (c1 : c < 4) : bLay σ n 84 c = bManAt (σ 78) n c := by
  unfold bLay
  have : c = 0 ∨ c = 1 ∨ c = 2 ∨ c = 3 := by omega
  rcases this with rfl | rfl | rfl | rfl
  · rw [bst_ni (by decide), bst_ni (by decide), bst_ni (by decide), bst_eq]
  · rw [bst_ni (by decide), bst_ni (by decide), bst_eq]
  · rw [bst_ni (by decide), bst_eq]
  · rw [bst_eq]
theorem bManAt_b {w : bW} (hk : bOkC w) (n c : Int) : -1 ≤ bManAt w n c ∧ bManAt w n c < w 3 ∧ (bManAt w n c = -1 ∨ 0 ≤ bManAt w n c) := by
  have h3 := hk.2.2.2.1
  rcases bManAt_spec hk n c with ⟨a, -⟩ | ⟨a, a', -⟩ <;> omega
theorem bNetAt_b {w : bW} (hk : bOkC w) (x : Int) : -1 ≤ bNetAt w x ∧ bNetAt w x < w 4 ∧ (bNetAt w x = -1 ∨ 0 ≤ bNetAt w x) := by
  have h3 := hk.2.2.2.2.1
  rcases bNetAt_spec hk x with ⟨a, -⟩ | ⟨a, a', -⟩ <;> omega
/-- who stand at a net -/
def bAt (w : bW) (n : Int) : Int → Int := fun c => bManAt w n c
theorem bAt_po {w : bW} (hk : bOkC w) (n : Int) : bPo w (bAt w n) := fun c _ _ => by
  have := bManAt_b hk n c
  unfold bAt; omega
theorem bLay_po (σ : on_S) (hk : bOk (σ 78)) (n : Int) : bPo (σ 78) (bLay σ n 84) := fun c c0 c1 => by
  rw [bLay_84 σ n c0 c1]
  exact bAt_po hk.c n c c0 c1
theorem m_layPosts {σ : on_S} (hk : bOk (σ 78)) {n : Int} (hn : on_R n) : pf_X12_layPosts n σ = some (0, bLay σ n) := by
  have step : ∀ (nf : Nat) (k : Int) (σ' : on_S), bS σ σ' → 0 ≤ k → k < 4 → pf_X12_layPosts_2 (nf + 1) n k σ' = pf_X12_layPosts_2 nf n (k + 1) (on_st σ' 84 k (bManAt (σ 78) n k)) := by
    intro nf k σ' hs k0 k1
    have hw := hs.w
    rw [pf_X12_layPosts_2, bLtT (by omega) (by omega) k1, bCl (m_manAt (by rw [hw]; exact hk) hn (by omega)), bWr k0 (by omega), hw]
  unfold pf_X12_layPosts bLay
  have s0 := bS.rf σ
  have s1 := s0.tr (bS.st (σ := σ) (c := 84) (i := 0) (v := bManAt (σ 78) n 0) (by decide) (by decide))
  have s2 := s1.tr (bS.st (c := 84) (i := 1) (v := bManAt (σ 78) n 1) (by decide) (by decide))
  have s3 := s2.tr (bS.st (c := 84) (i := 2) (v := bManAt (σ 78) n 2) (by decide) (by decide))
  rw [show on_N = 99995 + 1 + 1 + 1 + 1 + 1 from rfl, step _ 0 σ s0 (by omega) (by omega), show (0 + 1 : Int) = 1 from rfl, step _ 1 _ s1 (by omega) (by omega), show (1 + 1 : Int) = 2 from rfl, step _ 2 _ s2 (by omega) (by omega), show (2 + 1 : Int) = 3 from rfl, step _ 3 _ s3 (by omega) (by omega), show (3 + 1 : Int) = 4 from rfl]
  rw [pf_X12_layPosts_2, bLtF (by omega) (by omega) (by omega)]
theorem bHold_congr {w : bW} {p p' : Int → Int} (h : ∀ c : Int, 0 ≤ c → c < 4 → p c = p' c) {n x wet c : Int} (c0 : 0 ≤ c) (c1 : c < 4) : bHold w p n x wet c = bHold w p' n x wet c := by
  unfold bHold bPq
  rw [h c c0 c1, h ((c + 1) % 4) (by omega) (by omega), h ((c + 3) % 4) (by omega) (by omega)]
theorem bLst_congr {f g : Int → Int} (h : ∀ c : Int, 0 ≤ c → c < 4 → f c = g c) : bLst f = bLst g := by
  unfold bLst; rw [h 0 (by omega) (by omega), h 1 (by omega) (by omega), h 2 (by omega) (by omega), h 3 (by omega) (by omega)]
theorem bWeak_congr {f g : Int → Int} (h : ∀ c : Int, 0 ≤ c → c < 4 → f c = g c) : bWeak f = bWeak g := by
  unfold bWeak; dsimp only
  rw [h 0 (by omega) (by omega), h 1 (by omega) (by omega)]
  split <;> (rw [h 2 (by omega) (by omega)]; first | rw [h 1 (by omega) (by omega)] | rw [h 0 (by omega) (by omega)]) <;> split <;> (rw [h 3 (by omega) (by omega)]; first | rw [h 2 (by omega) (by omega)] | rw [h 1 (by omega) (by omega)] | rw [h 0 (by omega) (by omega)])
/-- what a net carries as all stand, were it wet or dry -/
def bCar (w : bW) (n wet : Int) : Int := 4 * bLst (bHold w (bAt w n) n (bNet w n 0) wet)
theorem bLst_b {f : Int → Int} {l h : Int} (hf : ∀ c : Int, 0 ≤ c → c < 4 → l ≤ f c ∧ f c ≤ h) : l ≤ bLst f ∧ bLst f ≤ h := by
  have a := hf 0 (by omega) (by omega)
  have b := hf 1 (by omega) (by omega)
  have c := hf 2 (by omega) (by omega)
  have d := hf 3 (by omega) (by omega)
  unfold bLst; omega
theorem bCar_b {w : bW} (hk : bOk w) {n wet : Int} (n0 : 0 ≤ n) (n1 : n < w 4) : 0 ≤ bCar w n wet ∧ bCar w n wet ≤ 396 := by
  have := bLst_b (f := bHold w (bAt w n) n (bNet w n 0) wet) (l := 0) (h := 99) (fun c c0 c1 => bHold_b hk n0 n1 c0 c1)
  unfold bCar; omega
theorem m_carries {σ : on_S} (hk : bOk (σ 78)) {n : Int} (n0 : 0 ≤ n) (n1 : n < σ 78 4) : pf_X12_carries n σ = some (bCar (σ 78) n (bNet (σ 78) n 2), bLay σ n) := by
  obtain ⟨q0, q1, q2, q3, q4, q5, q6, q7⟩ := hk.c
  obtain ⟨hn1, hn2, hn3, hn4⟩ := hk.n n n0 n1
  have hw := (bLay_S σ n).w
  have hk2 : bOk (bLay σ n 78) := by rw [hw]; exact hk
  unfold pf_X12_carries
  rw [bCl (m_layPosts hk (by omega)), bCl (m_ofNet n0 (by omega) (by omega) (by omega)), bCl (m_ofNet n0 (by omega) (by omega) (by omega)), hw, bCl (m_carriesBy hk2 (by rw [hw]; exact bLay_po σ hk n) n0 (by rw [hw]; exact n1) hn1.1 (by rw [hw]; exact hn1.2) (by omega)), hw]
  unfold bCar
  rw [bLst_congr (fun c c0 c1 => bHold_congr (p' := bAt (σ 78) n) (fun d d0 d1 => bLay_84 σ n d0 d1) c0 c1)]
