/-! B: lasts, night, years -/
theorem bOp.ri {n : Nat} {σ : on_S} {x y : on_S → Option on_O} {r : Int} (hr : on_R r) (hx : ∃ σ1, x σ = some (r, σ1) ∧ bI n σ1 ∧ σ1 78 = σ 78) (hy : ∀ σ1, bI n σ1 → σ1 78 = σ 78 → ∃ σ2, y σ1 = some (r, σ2) ∧ bI n σ2) : bOp n σ x y := by
  obtain ⟨σ1, h1, i1, w1⟩ := hx
  obtain ⟨σ2, h2, i2⟩ := hy σ1 i1 w1
  exact ⟨r, σ1, σ2, h1, h2, hr, i2⟩
theorem bOp.noI {n : Nat} {σ : on_S} {y : on_S → Option on_O} {r : Int} (hI : bI n σ) (h : y σ = some (r, σ)) : ∃ σ1, y σ = some (r, σ1) ∧ bI n σ1 := ⟨σ, h, hI⟩
theorem bOp.noI' {n : Nat} {σ : on_S} {y : on_S → Option on_O} {r : Int} (hI : bI n σ) (h : y σ = some (r, σ)) : ∃ σ1, y σ = some (r, σ1) ∧ bI n σ1 ∧ σ1 78 = σ 78 := ⟨σ, h, hI, rfl⟩
/-- the class while it thinks of jumps -/
def bCS (w : bW) (σ : on_S) (w' : bW) (σ' : on_S) : Prop := bOk w' ∧ bKx w w' ∧ bRp 2 w' σ' ∧ bLf w' σ' ∧ (∀ c, c ≠ 20 → c ≠ 26 → c ≠ 65 → c ≠ 66 → σ' c = σ c) ∧ ∀ j : Int, 0 ≤ j → j < 8 → σ' 66 j = σ 20 j
/-- the reference while it thinks of jumps -/
def bMS (w : bW) (σ : on_S) (w' : bW) (σ' : on_S) : Prop := σ' 78 = w' ∧ bOk w' ∧ bKx w w' ∧ (∀ n c : Int, 0 ≤ n → n < 2 → 0 ≤ c → c < 4 → σ' 85 ((4 * n) + c) = bNet w n (3 + c)) ∧ (∀ c, c ≠ 77 → c ≠ 78 → c ≠ 84 → c ≠ 85 → σ' c = σ c) ∧ σ' 77 5 = σ 77 5 ∧ σ' 77 12 = σ 77 12 ∧ σ' 77 13 = σ 77 13
section S43
variable {w w' : bW} {σ σ' : on_S} {n f : Int}
theorem c_begin (hk : bOk w) (hR : bRp 2 w σ) : ∃ σ', pf_X5_begin σ = some (0, σ') ∧ bCS w σ w σ' := by
  obtain ⟨σ1, a1, a2, a3⟩ := c_measureLeft hk hR
  refine ⟨on_cp σ1 (2 + 18) 0 66 0 ((8 : Nat) : Int), ?_, hk, bKx.rf w, ?_, ?_, ?_, ?_⟩
  · unfold pf_X5_begin
    rw [bCl a1, bCp (by omega) (by omega) (by omega) (by omega) (by omega)]
  · refine hR.to fun k hk => ?_
    rw [bcp_nc (by omega), a3 _ (by omega)]
  · intro m c m0 m1 c0 c1
    rw [bcp_nc (by omega)]
    exact a2 m c m0 m1 c0 c1
  · intro c c1 c2 c3 c4
    rw [bcp_nc c4, a3 c c2]
  · intro j j0 j1
    rw [bcp_if, if_pos ⟨j0, by omega⟩, a3 (2 + 18) (by omega)]
    congr 1; omega
theorem bCS.fall (h : bCS w σ w' σ') (n0 : 0 ≤ n) (n1 : n < w 4) (hf : on_R f) : ∃ σ'', pf_X9_fallInto 2 n f σ' = some (if f ≤ bCar w' n (bNet w' n 2) then -1 else bWeak (bHold w' (bAt w' n) n (bNet w' n 0) (bNet w' n 2)), σ'') ∧ bCS w σ (bLd w' n f) σ'' ∧ σ'' 65 = σ' 65 := by
  obtain ⟨k1, k2, k3, k4, k5, k6⟩ := h
  obtain ⟨q0, q1, q2, q3, q4, q5, q6, q7⟩ := k1.c
  have n1' : n < w' 4 := by rw [k2 4 (by omega) (by omega)]; exact n1
  obtain ⟨σ'', a1, a2, a3⟩ := c_fallInto k1 k3 k4 n0 n1' hf
  have kx := bLd_kx (w := w') (f := f) n0 (show n < 2 by omega)
  refine ⟨σ'', a1, ⟨bLd_ok k1 n0 n1', k2.tr kx, a2, k4.kx k1 kx (a3 _ (by omega)), fun c c1 c2 c3 c4 => (a3 c c1).trans (k5 c c1 c2 c3 c4), fun j j0 j1 => ?_⟩, a3 65 (by omega)⟩
  rw [a3 66 (by omega)]; exact k6 j j0 j1
theorem bCS.give (h : bCS w σ w' σ') (hk : bOk w) (hR : bRp 2 w σ) : ∃ σ'', pf_X5_giveKnotsBack σ' = some (0, σ'') ∧ bRp 2 w σ'' ∧ (∀ c, c ≠ 20 → c ≠ 26 → c ≠ 65 → c ≠ 66 → σ'' c = σ c) ∧ σ'' 65 = σ' 65 := by
  obtain ⟨k1, k2, k3, k4, k5, k6⟩ := h
  obtain ⟨q0, q1, q2, q3, q4, q5, q6, q7⟩ := hk.c
  refine ⟨on_cp σ' 66 0 (2 + 18) 0 ((8 : Nat) : Int), ?_, ?_, ?_, bcp_nc (by omega)⟩
  · unfold pf_X5_giveKnotsBack
    rw [bCp (by omega) (by omega) (by omega) (by omega) (by omega)]
  · refine (bKx.rf w).rp hk hR (fun c c2 c25 c20 => ?_) (fun m c m0 m1 c0 c1 => ?_)
    · rw [bcp_nc c20, k5 c c20 (by omega) (by omega) (by omega)]
    · rw [bcp_if, if_pos ⟨by omega, by omega⟩, show (0 : Int) + ((m * 4) + c - 0) = (m * 4) + c by omega, k6 _ (by omega) (by omega)]
      exact (hR.n m m0 m1).2.2.2 c c0 c1
  · intro c c1 c2 c3 c4
    rw [bcp_nc (by omega), k5 c c1 c2 c3 c4]
theorem bI.think {N : Nat} (hI : bI N σ) (hR : bRp 2 (σ 78) σ') (h : ∀ c, c ≠ 20 → c ≠ 26 → c ≠ 65 → c ≠ 66 → σ' c = σ c) : bI N σ' ∧ σ' 78 = σ 78 := by
  have e := h 78 (by omega) (by omega) (by omega) (by omega)
  refine ⟨hI.sw ⟨fun c hc h2 h3 => ?_, ?_, ?_, ?_⟩ (by rw [e]; exact hI.k) (by rw [e]; exact hR), e⟩
  · exact h c (by omega) (fun t => hc (by rw [t]; decide)) (fun t => hc (by rw [t]; decide)) (fun t => hc (by rw [t]; decide))
  all_goals rw [h 77 (by omega) (by omega) (by omega) (by omega)]
theorem m_keepKnots : ∃ σ', pf_X12_keepKnots σ = some (0, σ') ∧ (∀ n c : Int, 0 ≤ n → n < 2 → 0 ≤ c → c < 4 → σ' 85 ((4 * n) + c) = bNet (σ 78) n (3 + c)) ∧ ∀ c, c ≠ 85 → σ' c = σ c := by
  have step : ∀ (k2 : Int → on_S → Option on_O) (nf : Nat) (m k : Int) (σ1 : on_S), 0 ≤ m → m < 2 → 0 ≤ k → k < 4 → (∀ c, c ≠ 85 → σ1 c = σ c) → (∀ a c : Int, 0 ≤ a → a < 2 → 0 ≤ c → c < 4 → (4 * a) + c < (4 * m) + k → σ1 85 ((4 * a) + c) = bNet (σ 78) a (3 + c)) → ∃ σ2 : on_S, pf_X12_keepKnots_9 k2 (nf + 1) m k σ1 = pf_X12_keepKnots_9 k2 nf m (k + 1) σ2 ∧ (∀ c, c ≠ 85 → σ2 c = σ c) ∧ (∀ a c : Int, 0 ≤ a → a < 2 → 0 ≤ c → c < 4 → (4 * a) + c < (4 * m) + (k + 1) → σ2 85 ((4 * a) + c) = bNet (σ 78) a (3 + c)) := by
    intro k2 nf m k σ1 m0 m1 k0 k1 h1 h2
    refine ⟨on_st σ1 85 ((4 * m) + k) (bNet (σ 78) m (3 + k)), ?_, fun c hc => by rw [bst_nc hc]; exact h1 c hc, fun a c a0 a1 c0 c1 hlt => ?_⟩
    · rw [pf_X12_keepKnots_9, bLtT (by omega) (by omega) k1, bCl (m_ofNet m0 m1 (by omega) (by omega)), bWr (by omega) (by omega), h1 78 (by omega)]
    · rw [bst_if]
      by_cases e : (4 * a) + c = (4 * m) + k
      · rw [if_pos e, show a = m by omega, show c = k by omega]
      · rw [if_neg e]; exact h2 a c a0 a1 c0 c1 (by omega)
  have inner : ∀ (k2 : Int → on_S → Option on_O) (m : Int) (σ1 : on_S), 0 ≤ m → m < 2 → (∀ c, c ≠ 85 → σ1 c = σ c) → (∀ a c : Int, 0 ≤ a → a < 2 → 0 ≤ c → c < 4 → (4 * a) + c < (4 * m) + 0 → σ1 85 ((4 * a) + c) = bNet (σ 78) a (3 + c)) → ∃ σ2 : on_S, pf_X12_keepKnots_9 k2 on_N m 0 σ1 = k2 (m + 1) σ2 ∧ (∀ c, c ≠ 85 → σ2 c = σ c) ∧ (∀ a c : Int, 0 ≤ a → a < 2 → 0 ≤ c → c < 4 → (4 * a) + c < (4 * (m + 1)) + 0 → σ2 85 ((4 * a) + c) = bNet (σ 78) a (3 + c)) := by
    intro k2 m σ1 m0 m1 h1 h2
    obtain ⟨s1, e1, f1, g1⟩ := step k2 99999 m 0 σ1 m0 m1 (by omega) (by omega) h1 h2
    obtain ⟨s2, e2, f2, g2⟩ := step k2 99998 m (0 + 1) s1 m0 m1 (by omega) (by omega) f1 g1
    obtain ⟨s3, e3, f3, g3⟩ := step k2 99997 m (0 + 1 + 1) s2 m0 m1 (by omega) (by omega) f2 g2
    obtain ⟨s4, e4, f4, g4⟩ := step k2 99996 m (0 + 1 + 1 + 1) s3 m0 m1 (by omega) (by omega) f3 g3
    refine ⟨s4, ?_, f4, fun a c a0 a1 c0 c1 h => g4 a c a0 a1 c0 c1 (by omega)⟩
    rw [show on_N = 99999 + 1 from rfl, e1, show (99999 : Nat) = 99998 + 1 from rfl, e2, show (99998 : Nat) = 99997 + 1 from rfl, e3, show (99997 : Nat) = 99996 + 1 from rfl, e4, show (99996 : Nat) = 99995 + 1 from rfl, pf_X12_keepKnots_9, bLtF (by omega) (by omega) (by omega)]
  obtain ⟨s1, e1, f1, g1⟩ := inner (pf_X12_keepKnots_2 99999) 0 σ (by omega) (by omega) (fun _ _ => rfl) (fun a c a0 a1 c0 c1 h => by omega)
  obtain ⟨s2, e2, f2, g2⟩ := inner (pf_X12_keepKnots_2 99998) (0 + 1) s1 (by omega) (by omega) f1 g1
  refine ⟨s2, ?_, fun a c a0 a1 c0 c1 => g2 a c a0 a1 c0 c1 (by omega), f2⟩
  unfold pf_X12_keepKnots
  rw [show on_N = 99999 + 1 from rfl, pf_X12_keepKnots_2, bLtT (by omega) (by omega) (by omega), e1, show (99999 : Nat) = 99998 + 1 from rfl, pf_X12_keepKnots_2, bLtT (by omega) (by omega) (by omega), e2, show (99998 : Nat) = 99997 + 1 from rfl, pf_X12_keepKnots_2, bLtF (by omega) (by omega) (by omega)]
theorem bMS.give (h : bMS w σ w' σ') : ∃ σ'', pf_X12_giveKnots σ' = some (0, σ'') ∧ σ'' 78 = w ∧ ∀ c, c ≠ 78 → σ'' c = σ' c := by
  obtain ⟨k1, k2, k3, k4, k5, k6⟩ := h
  have step : ∀ (q2 : Int → on_S → Option on_O) (nf : Nat) (m k : Int) (σ1 : on_S), 0 ≤ m → m < 2 → 0 ≤ k → k < 4 → (∀ c, c ≠ 78 → σ1 c = σ' c) → (∀ i : Int, (i < ((62 + (7 * m)) + 3) + k ∨ ¬ (65 ≤ i ∧ i < 69) ∧ ¬ (72 ≤ i ∧ i < 76)) → σ1 78 i = w i) → ∃ σ2 : on_S, pf_X12_giveKnots_9 q2 (nf + 1) m k σ1 = pf_X12_giveKnots_9 q2 nf m (k + 1) σ2 ∧ (∀ c, c ≠ 78 → σ2 c = σ' c) ∧ (∀ i : Int, (i < ((62 + (7 * m)) + 3) + (k + 1) ∨ ¬ (65 ≤ i ∧ i < 69) ∧ ¬ (72 ≤ i ∧ i < 76)) → σ2 78 i = w i) := by
    intro q2 nf m k σ1 m0 m1 kk0 kk1 h1 h2
    refine ⟨on_st σ1 78 (((62 + (7 * m)) + 3) + k) (bNet w m (3 + k)), ?_, fun c hc => by rw [bst_nc hc]; exact h1 c hc, fun i hi => ?_⟩
    · rw [pf_X12_giveKnots_9, bLtT (by omega) (by omega) kk1, bRd (by omega) (by omega), bWr (by omega) (by omega), h1 85 (by omega), k4 m k m0 m1 kk0 kk1]
    · rw [bst_if]
      by_cases e : i = ((62 + (7 * m)) + 3) + k
      · rw [if_pos e, e]; unfold bNet; congr 1; omega
      · rw [if_neg e]; exact h2 i (by omega)
  have inner : ∀ (q2 : Int → on_S → Option on_O) (m : Int) (σ1 : on_S), 0 ≤ m → m < 2 → (∀ c, c ≠ 78 → σ1 c = σ' c) → (∀ i : Int, (i < ((62 + (7 * m)) + 3) + 0 ∨ ¬ (65 ≤ i ∧ i < 69) ∧ ¬ (72 ≤ i ∧ i < 76)) → σ1 78 i = w i) → ∃ σ2 : on_S, pf_X12_giveKnots_9 q2 on_N m 0 σ1 = q2 (m + 1) σ2 ∧ (∀ c, c ≠ 78 → σ2 c = σ' c) ∧ (∀ i : Int, (i < ((62 + (7 * (m + 1))) + 3) + 0 ∨ ¬ (65 ≤ i ∧ i < 69) ∧ ¬ (72 ≤ i ∧ i < 76)) → σ2 78 i = w i) := by
    intro q2 m σ1 m0 m1 h1 h2
    obtain ⟨s1, e1, f1, g1⟩ := step q2 99999 m 0 σ1 m0 m1 (by omega) (by omega) h1 h2
    obtain ⟨s2, e2, f2, g2⟩ := step q2 99998 m (0 + 1) s1 m0 m1 (by omega) (by omega) f1 g1
    obtain ⟨s3, e3, f3, g3⟩ := step q2 99997 m (0 + 1 + 1) s2 m0 m1 (by omega) (by omega) f2 g2
    obtain ⟨s4, e4, f4, g4⟩ := step q2 99996 m (0 + 1 + 1 + 1) s3 m0 m1 (by omega) (by omega) f3 g3
    refine ⟨s4, ?_, f4, fun i hi => g4 i (by omega)⟩
    rw [show on_N = 99999 + 1 from rfl, e1, show (99999 : Nat) = 99998 + 1 from rfl, e2, show (99998 : Nat) = 99997 + 1 from rfl, e3, show (99997 : Nat) = 99996 + 1 from rfl, e4, show (99996 : Nat) = 99995 + 1 from rfl, pf_X12_giveKnots_9, bLtF (by omega) (by omega) (by omega)]
  obtain ⟨s1, e1, f1, g1⟩ := inner (pf_X12_giveKnots_2 99999) 0 σ' (by omega) (by omega) (fun _ _ => rfl) (fun i hi => by rw [k1]; exact k3 i (by omega) (by omega))
  obtain ⟨s2, e2, f2, g2⟩ := inner (pf_X12_giveKnots_2 99998) (0 + 1) s1 (by omega) (by omega) f1 g1
  refine ⟨s2, ?_, ?_, f2⟩
  · unfold pf_X12_giveKnots
    rw [show on_N = 99999 + 1 from rfl, pf_X12_giveKnots_2, bLtT (by omega) (by omega) (by omega), e1, show (99999 : Nat) = 99998 + 1 from rfl, pf_X12_giveKnots_2, bLtT (by omega) (by omega) (by omega), e2, show (99998 : Nat) = 99997 + 1 from rfl, pf_X12_giveKnots_2, bLtF (by omega) (by omega) (by omega)]
  · funext i; exact g2 i (by omega)
theorem bMS.lands (h : bMS w σ w' σ') (n0 : 0 ≤ n) (n1 : n < w 4) (hf : on_R f) : ∃ σ'', pf_X12_lands n f σ' = some (if f ≤ bCar w' n (bNet w' n 2) then 1 else 0, σ'') ∧ bMS w σ (bLd w' n f) σ'' ∧ ∀ i, i ≠ 16 → σ'' 77 i = σ' 77 i := by
  obtain ⟨k1, k2, k3, k4, k5, k6, k7, k8⟩ := h
  obtain ⟨q0, q1, q2, q3, q4, q5, q6, q7⟩ := k2.c
  have n1' : n < w' 4 := by rw [k3 4 (by omega) (by omega)]; exact n1
  subst k1
  obtain ⟨σ'', a1, a2, a3, a4, a5⟩ := m_lands k2 n0 n1' hf
  have kx := bLd_kx (w := σ' 78) (f := f) n0 (show n < 2 by omega)
  refine ⟨σ'', a1, ⟨a2, bLd_ok k2 n0 n1', k3.tr kx, fun m c m0 m1 c0 c1 => by rw [a4 85 (by omega) (by omega) (by omega)]; exact k4 m c m0 m1 c0 c1, fun c c1 c2 c3 c4 => (a4 c c1 c2 c3).trans (k5 c c1 c2 c3 c4), (a5 5 (by omega)).trans k6, (a5 12 (by omega)).trans k7, (a5 13 (by omega)).trans k8⟩, a5⟩
theorem bMS.inv {N : Nat} (h : bMS w σ w' σ') {σ'' : on_S} (hI : bI N σ) (hw : w = σ 78) (e : σ'' 78 = w) (hc : ∀ c, c ≠ 78 → σ'' c = σ' c) : bI N σ'' := by
  obtain ⟨k1, k2, k3, k4, k5, k6, k7, k8⟩ := h
  refine bS.inv (σ := σ) ⟨fun c hs => ?_, by rw [hc 77 (by omega)]; exact k6, by rw [hc 77 (by omega)]; exact k7, by rw [hc 77 (by omega)]; exact k8⟩ hI
  by_cases e78 : c = 78
  · rw [e78, e, hw]
  · rw [hc c e78, k5 c (fun t => hs (by rw [t]; decide)) e78 (fun t => hs (by rw [t]; decide)) (fun t => hs (by rw [t]; decide))]
end S43
def bLsR (n f : Int) : Nat → bW → Int → Int
  | 0, _, k => k
  | r + 1, w, k => if f ≤ bCar w n (bNet w n 2) then bLsR n f r (bLd w n f) (k + 1) else k
theorem bLsR_b (n f : Int) : ∀ (r : Nat) (w : bW) (k : Int), k ≤ bLsR n f r w k ∧ bLsR n f r w k ≤ k + r := by
  intro r
  induction r with
  | zero => intro w k; simp [bLsR]
  | succ r ih =>
    intro w k
    rw [bLsR]
    split
    · have := ih (bLd w n f) (k + 1); omega
    · omega
/-- a net that doesn't wear holds for ever, or not once -/
theorem bLd_no {w : bW} (hk : bOk w) {n f : Int} (n0 : 0 ≤ n) (n1 : n < w 4) (h0 : bNet w n 1 = 0) (hf : f ≤ bCar w n (bNet w n 2)) : bLd w n f = w := by
  funext i
  unfold bLd
  split
  · rename_i h
    have := (hk.n n n0 n1).2.2.2 (i - ((62 + (7 * n)) + 3)) (by omega) (by omega)
    have e : bNet w n (3 + (i - ((62 + (7 * n)) + 3))) = w i := by unfold bNet; congr 1; omega
    rw [e] at this
    rw [h0, Int.zero_mul]; omega
  · rfl
theorem bLsR_no {w : bW} (hk : bOk w) {n f : Int} (n0 : 0 ≤ n) (n1 : n < w 4) (h0 : bNet w n 1 = 0) (hf : f ≤ bCar w n (bNet w n 2)) : ∀ (r : Nat) (k : Int), bLsR n f r w k = k + r := by
  intro r
  induction r with
  | zero => intro k; simp [bLsR]
  | succ r ih => intro k; rw [bLsR, if_pos hf, bLd_no hk n0 n1 h0 hf, ih]; omega
section O43
variable {n : Nat} {σ : on_S} {p q t : Int}
theorem o_lasts (hI : bI n σ) (hp : on_R p) (hq : on_R q) : bOp n σ (pf_X11_lasts p q) (pf_X12_lasts p q) := by
  obtain ⟨q0, q1, q2, q3, q4, q5, q6, q7⟩ := hI.k.c
  refine bOp.ri (r := if 0 ≤ p ∧ p < σ 78 4 then (if 1 ≤ q ∧ q ≤ 99 then bLsR p (q * bStorey (σ 78) (bNet (σ 78) p 0)) 999 (σ 78) 0 else -2) else -2) ?_ ?_ ?_
  · have := bLsR_b p (q * bStorey (σ 78) (bNet (σ 78) p 0)) 999 (σ 78) 0
    split
    · split <;> omega
    · omega
  · unfold pf_X11_lasts
    rw [bCl (c_hasNet hI.k hI.r hp), bE01]
    by_cases h : 0 ≤ p ∧ p < σ 78 4
    · rw [if_pos h, if_pos h]
      by_cases g : 1 ≤ q ∧ q ≤ 99
      · have hn := hI.k.n p h.1 h.2
        have hst := (hI.k.wi _ hn.1.1 hn.1.2).2
        have hfb : 0 ≤ q * bStorey (σ 78) (bNet (σ 78) p 0) ∧ q * bStorey (σ 78) (bNet (σ 78) p 0) ≤ 594 := by
          have a := Int.mul_nonneg (show 0 ≤ q by omega) (show 0 ≤ bStorey (σ 78) (bNet (σ 78) p 0) by omega)
          have b := Int.mul_le_mul g.2 hst.2 (by omega) (by omega)
          omega
        rw [if_pos g, bLtF hq (by omega) (by omega), bLeT hq (by omega) (by omega), bCl (c_storeyOf hI.k hI.r h.1 h.2)]
        generalize q * bStorey (σ 78) (bNet (σ 78) p 0) = f at hfb
        unfold pf_X5_jumpsHeld
        rw [bRd h.1 (by omega), (hI.r.n p h.1 h.2).2.1]
        by_cases z : bNet (σ 78) p 1 = 0
        · have hc := bCar_b hI.k (wet := bNet (σ 78) p 2) h.1 h.2
          rw [bEqT (by omega) z, bCl (c_carriedNow hI.k hI.r h.1 h.2)]
          by_cases y : f ≤ bCar (σ 78) p (bNet (σ 78) p 2)
          · rw [bLeT (by omega) (by omega) y, bLsR_no hI.k h.1 h.2 z y]
            exact ⟨σ, rfl, hI, rfl⟩
          · rw [bLeF (by omega) (by omega) (by omega), show (999 : Nat) = 998 + 1 from rfl, bLsR, if_neg y]
            exact ⟨σ, rfl, hI, rfl⟩
        · obtain ⟨σ1, a1, s1⟩ := c_begin hI.k hI.r
          rw [bEqF (by omega) (by omega) z, bCl a1]
          have L : ∀ (r nf : Nat) (k : Int) (w' : bW) (σ' : on_S), 0 ≤ k → k + (r : Int) = 999 → r < nf → bCS (σ 78) σ w' σ' → ∃ σ'', pf_X5_jumpsHeld_41 nf p f k σ' = some (bLsR p f r w' k, σ'') ∧ bI n σ'' ∧ σ'' 78 = σ 78 := by
            have fin : ∀ (k : Int) (w' : bW) (σ' : on_S), bCS (σ 78) σ w' σ' → ∃ σ'', pf_X5_jumpsHeld_67 k σ' = some (k, σ'') ∧ bI n σ'' ∧ σ'' 78 = σ 78 := by
              intro k w' σ' hs
              obtain ⟨σ'', b1, b2, b3, -⟩ := hs.give hI.k hI.r
              unfold pf_X5_jumpsHeld_67
              rw [bCl b1]
              exact ⟨σ'', rfl, hI.think b2 b3⟩
            intro r
            induction r with
            | zero =>
              intro nf k w' σ' k0 hk1 hnf hs
              cases nf with
              | zero => omega
              | succ nf =>
                rw [pf_X5_jumpsHeld_41, bLtF (by omega) (by omega) (by omega)]
                exact fin k w' σ' hs
            | succ r ih =>
              intro nf k w' σ' k0 hk1 hnf hs
              cases nf with
              | zero => omega
              | succ nf =>
                obtain ⟨σ2, b1, b2, -⟩ := hs.fall (f := f) h.1 h.2 (by omega)
                have hwk := bWeak_b (bHold w' (bAt w' p) p (bNet w' p 0) (bNet w' p 2))
                rw [pf_X5_jumpsHeld_41, bLtT (by omega) (by omega) (by omega), bCl b1, bLsR]
                by_cases y : f ≤ bCar w' p (bNet w' p 2)
                · rw [if_pos y, bEqT (by omega) rfl, if_pos y]
                  exact ih nf (k + 1) _ σ2 (by omega) (by omega) (by omega) b2
                · rw [if_neg y, bEqF (by omega) (by omega) (by omega), if_neg y]
                  exact fin k _ σ2 b2
          obtain ⟨σ2, b1, b2, b3⟩ := L 999 on_N 0 (σ 78) σ1 (by omega) (by omega) (by unfold on_N; omega) s1
          rw [bCl b1]
          exact ⟨σ2, rfl, b2, b3⟩
      · rw [if_neg g]
        by_cases g2 : q < 1
        · rw [bLtT hq (by omega) g2]; exact ⟨σ, rfl, hI, rfl⟩
        · rw [bLtF hq (by omega) (by omega), bLeF hq (by omega) (by omega)]; exact ⟨σ, rfl, hI, rfl⟩
    · rw [if_neg h, if_neg h]; exact ⟨σ, rfl, hI, rfl⟩
  · intro σ1 h1 e
    rw [← e]
    rw [← e] at q4 q2
    unfold pf_X12_lasts
    rw [bCk hp, bCl (m_isNet h1.k (by omega)), bE01]
    by_cases h : 0 ≤ p ∧ p < σ1 78 4
    · rw [if_pos h, if_pos h, bCk hq, bCl (m_in' hq (by omega) (by omega)), bE01]
      by_cases g : 1 ≤ q ∧ q ≤ 99
      · have hn := h1.k.n p h.1 h.2
        have hst := (h1.k.wi _ hn.1.1 hn.1.2).2
        have hfb : 0 ≤ q * bStorey (σ1 78) (bNet (σ1 78) p 0) ∧ q * bStorey (σ1 78) (bNet (σ1 78) p 0) ≤ 594 := by
          have a := Int.mul_nonneg (show 0 ≤ q by omega) (show 0 ≤ bStorey (σ1 78) (bNet (σ1 78) p 0) by omega)
          have b := Int.mul_le_mul g.2 hst.2 (by omega) (by omega)
          omega
        obtain ⟨σ2, a1, a2, a3⟩ := m_keepKnots (σ := σ1)
        have ms : bMS (σ1 78) σ1 (σ1 78) σ2 := ⟨a3 78 (by omega), h1.k, bKx.rf _, a2, fun c c1 c2 c3 c4 => a3 c c4, by rw [a3 77 (by omega)], by rw [a3 77 (by omega)], by rw [a3 77 (by omega)]⟩
        rw [if_pos g, if_pos g, bCl a1]
        have fin : ∀ (k : Int) (w' : bW) (σ' : on_S), bMS (σ1 78) σ1 w' σ' → ∃ σ'', pf_X12_lasts_63 k σ' = some (k, σ'') ∧ bI n σ'' := by
          intro k w' σ' hs
          obtain ⟨σ'', b1, b2, b3⟩ := hs.give
          unfold pf_X12_lasts_63
          rw [bCl b1]
          exact ⟨σ'', rfl, hs.inv h1 rfl b2 b3⟩
        have L : ∀ (r nf : Nat) (k : Int) (w' : bW) (σ' : on_S), 0 ≤ k → k + (r : Int) = 999 → r < nf → bMS (σ1 78) σ1 w' σ' → ∃ σ'', pf_X12_lasts_30 nf p q k σ' = some (bLsR p (q * bStorey (σ1 78) (bNet (σ1 78) p 0)) r w' k, σ'') ∧ bI n σ'' := by
          intro r
          induction r with
          | zero =>
            intro nf k w' σ' k0 hk1 hnf hs
            cases nf with
            | zero => omega
            | succ nf =>
              rw [pf_X12_lasts_30, bLtF (by omega) (by omega) (by omega)]
              exact fin k w' σ' hs
          | succ r ih =>
            intro nf k w' σ' k0 hk1 hnf hs
            cases nf with
            | zero => omega
            | succ nf =>
              obtain ⟨σ2, b1, b2, -⟩ := hs.lands (f := q * bStorey (σ1 78) (bNet (σ1 78) p 0)) h.1 h.2 (by omega)
              obtain ⟨k1, k2, k3, -⟩ := id hs
              have ew : bNet (σ' 78) p 0 = bNet (σ1 78) p 0 := by rw [k1]; exact k3.net h.1 (by omega) (by omega) (by omega)
              have es : bStorey (σ' 78) (bNet (σ1 78) p 0) = bStorey (σ1 78) (bNet (σ1 78) p 0) := by rw [k1]; exact k3.rg (l := 8) (t := 26) (by omega) _ (by omega) (by omega)
              rw [pf_X12_lasts_30, bLtT (by omega) (by omega) (by omega), bCl (m_ofNet h.1 (by omega) (by omega) (by omega)), ew, bCl (m_storeyOf (by omega) (by omega)), es, bCl b1, bLsR]
              by_cases y : q * bStorey (σ1 78) (bNet (σ1 78) p 0) ≤ bCar w' p (bNet w' p 2)
              · rw [if_pos y, bEqF (by omega) (by omega) (by omega), if_pos y]
                exact ih nf (k + 1) _ σ2 (by omega) (by omega) (by omega) b2
              · rw [if_neg y, bEqT (by omega) rfl, if_neg y]
                exact fin k _ σ2 b2
        exact L 999 on_N 0 (σ1 78) σ2 (by omega) (by omega) (by unfold on_N; omega) ms
      · rw [if_neg g, if_neg g]; exact ⟨σ1, rfl, h1⟩
    · rw [if_neg h, if_neg h]; exact ⟨σ1, rfl, h1⟩
end O43
/-! nights -/
def bNx (x : Int) : Int := ((1103515245 * x) + 12345) % 2147483648
def bNj (w : bW) (x : Int) : Int := (bNx x / 65536) % w 5
def bNn (w : bW) (x : Int) : Int := bNetAt w (bWin w (bNj w x))
def bNtR : Nat → Int → Int → bW → Int → Int → Int × Int
  | 0, _, _, _, h, l => (h, l)
  | r + 1, i, x, w, h, l => if bNn w x ≠ -1 ∧ bForce w (bNj w x) ≤ bCar w (bNn w x) (bNet w (bNn w x) 2) then bNtR r (i + 1) (bNx x) (bLd w (bNn w x) (bForce w (bNj w x))) (h + 1) l else bNtR r (i + 1) (bNx x) (if bNn w x = -1 then w else bLd w (bNn w x) (bForce w (bNj w x))) h (if l = -1 then i else l)
theorem bNtR_b : ∀ (r : Nat) (i x : Int) (w : bW) (h l : Int), 0 ≤ i → -1 ≤ l → l < i + r → h ≤ (bNtR r i x w h l).1 ∧ (bNtR r i x w h l).1 ≤ h + r ∧ -1 ≤ (bNtR r i x w h l).2 ∧ ((bNtR r i x w h l).2 < i + r) := by
  intro r
  induction r with
  | zero => intro i x w h l i0 l0 l1; refine ⟨?_, ?_, ?_, ?_⟩ <;> simp [bNtR] <;> omega
  | succ r ih =>
    intro i x w h l i0 l0 l1
    rw [bNtR]
    split
    · have := ih (i + 1) (bNx x) (bLd w (bNn w x) (bForce w (bNj w x))) (h + 1) l (by omega) l0 (by omega)
      omega
    · have := ih (i + 1) (bNx x) (if bNn w x = -1 then w else bLd w (bNn w x) (bForce w (bNj w x))) h (if l = -1 then i else l) (by omega) (by split <;> omega) (by split <;> omega)
      omega
/-- a night: how many are held, the first that is not -/
def bNt (w : bW) (seed : Int) (n : Nat) : Int × Int := if w 5 = 0 then (0, -1) else bNtR n 0 seed w 0 (-1)
theorem bNt_b (w : bW) (seed : Int) (n : Nat) : (0 ≤ (bNt w seed n).1 ∧ (bNt w seed n).1 ≤ n) ∧ (-1 ≤ (bNt w seed n).2 ∧ (bNt w seed n).2 ≤ n) := by
  unfold bNt
  split
  · refine ⟨⟨?_, ?_⟩, ⟨?_, ?_⟩⟩ <;> simp <;> omega
  · have := bNtR_b n 0 seed w 0 (-1) (by omega) (by omega) (by omega)
    omega
section N43
variable {n : Nat} {σ : on_S} {p q t : Int}
theorem bNx_b (x : Int) : 0 ≤ bNx x ∧ bNx x < 2147483648 := by unfold bNx; omega
theorem c_pass (hI : bI n σ) (h5 : σ 78 5 ≠ 0) {seed m : Int} (s0 : 0 ≤ seed) (s1 : seed < 2147483648) (m0 : 1 ≤ m) (m1 : m ≤ 60) : ∃ σ', pf_X5_pass seed m σ = some (0, σ') ∧ bI n σ' ∧ σ' 78 = σ 78 ∧ σ' 65 2 = (bNt (σ 78) seed m.toNat).1 ∧ σ' 65 3 = (bNt (σ 78) seed m.toNat).2 := by
  obtain ⟨q0, q1, q2, q3, q4, q5, q6, q7⟩ := hI.k.c
  have L : ∀ (r nf : Nat) (i x : Int) (w' : bW) (h l : Int) (σ' : on_S), 0 ≤ i → i + (r : Int) = m → r < nf → (0 ≤ x ∧ x < 2147483648) → (0 ≤ h ∧ h ≤ i) → (-1 ≤ l ∧ l < 60) → bCS (σ 78) σ w' σ' → σ' 65 2 = h → σ' 65 3 = l → ∃ σ'', pf_X5_pass_20 nf m x i σ' = some (0, σ'') ∧ bI n σ'' ∧ σ'' 78 = σ 78 ∧ σ'' 65 2 = (bNtR r i x w' h l).1 ∧ σ'' 65 3 = (bNtR r i x w' h l).2 := by
    intro r
    induction r with
    | zero =>
      intro nf i x w' h l σ' i0 hi hnf hx hh hl hs e2 e3
      cases nf with
      | zero => omega
      | succ nf =>
        obtain ⟨σ'', b1, b2, b3, b4⟩ := hs.give hI.k hI.r
        rw [pf_X5_pass_20, bLtF (by omega) (by omega) (by omega)]
        unfold pf_X5_pass_142
        rw [bCl b1]
        obtain ⟨c1, c2⟩ := hI.think b2 b3
        exact ⟨σ'', rfl, c1, c2, by rw [b4, e2]; rfl, by rw [b4, e3]; rfl⟩
    | succ r ih =>
      intro nf i x w' h l σ' i0 hi hnf hx hh hl hs e2 e3
      cases nf with
      | zero => omega
      | succ nf =>
        obtain ⟨k1, k2, k3, k4, k5, k6⟩ := id hs
        have w5 : w' 5 = σ 78 5 := k2 5 (by omega) (by omega)
        have w4 : w' 4 = σ 78 4 := k2 4 (by omega) (by omega)
        have hxb := bNx_b x
        have hj0 : 0 ≤ bNj w' x := by unfold bNj; rw [w5]; exact Int.emod_nonneg _ h5
        have hj1 : bNj w' x < w' 5 := by unfold bNj; exact Int.emod_lt_of_pos _ (by omega)
        have hf := bForce_b k1 hj0 hj1
        have hnb := bNetAt_b k1.c (bWin w' (bNj w' x))
        have hnn : bNn w' x = bNetAt w' (bWin w' (bNj w' x)) := rfl
        rw [pf_X5_pass_20, bLtT (by omega) (by omega) (by omega), bGt, k3.c.2.2.2.2.1, bLeF (by omega) (by omega) (by omega), bRmL (by omega) (by omega) (by omega) (by omega), show ((1103515245 * x) + 12345) % 2147483648 = bNx x from rfl, bDvL hxb.1 (by omega) (by omega) (by omega), bGt, k3.c.2.2.2.2.1, bCk (by omega), bRmL (by omega) (by omega) (by omega) (by omega), show (bNx x / 65536) % w' 5 = bNj w' x from rfl, bCl (c_netBelow k1 k3 hj0 hj1), ← hnn, bNtR]
        have lost : ∀ (w2 : bW) (σ2 : on_S), bCS (σ 78) σ w2 σ2 → σ2 65 = σ' 65 → ∃ σ'', pf_X5_pass_122 (pf_X5_pass_20 nf) m (bNx x) i σ2 = some (0, σ'') ∧ bI n σ'' ∧ σ'' 78 = σ 78 ∧ σ'' 65 2 = (bNtR r (i + 1) (bNx x) w2 h (if l = -1 then i else l)).1 ∧ σ'' 65 3 = (bNtR r (i + 1) (bNx x) w2 h (if l = -1 then i else l)).2 := by
          intro w2 σ2 hs2 e65
          unfold pf_X5_pass_122
          rw [bGt, e65, e3]
          by_cases y : l = -1
          · rw [bEqT (by omega) y, if_pos y, bPt]
            obtain ⟨g1, g2, g3, g4, g5, g6⟩ := hs2
            refine ih nf (i + 1) (bNx x) w2 h i _ (by omega) (by omega) (by omega) hxb (by omega) (by omega) ⟨g1, g2, g3.to (fun k hk => bst_nc (by omega)), fun a c a0 a1 c0 c1 => by rw [bst_nc (by omega)]; exact g4 a c a0 a1 c0 c1, fun c c1 c2 c3 c4 => by rw [bst_nc c3]; exact g5 c c1 c2 c3 c4, fun j j0 j1 => by rw [bst_nc (by omega)]; exact g6 j j0 j1⟩ ?_ ?_
            · rw [bst_ni (by omega), e65, e2]
            · rw [bst_eq]
          · rw [bEqF (by omega) (by omega) y, if_neg y]
            exact ih nf (i + 1) (bNx x) w2 h l σ2 (by omega) (by omega) (by omega) hxb (by omega) hl hs2 (by rw [e65]; exact e2) (by rw [e65]; exact e3)
        by_cases z : bNn w' x = -1
        · rw [bEqT (by omega) z, if_neg (fun t => t.1 z), if_pos z]
          exact lost w' σ' hs rfl
        · obtain ⟨σ2, b1, b2, b3⟩ := hs.fall (n := bNn w' x) (f := bForce w' (bNj w' x)) (by omega) (by omega) (by omega)
          have hwk := bWeak_b (bHold w' (bAt w' (bNn w' x)) (bNn w' x) (bNet w' (bNn w' x) 0) (bNet w' (bNn w' x) 2))
          rw [bEqF (by omega) (by omega) z, bCl (c_forceOf k1 k3 hj0 hj1), bCl b1]
          by_cases y : bForce w' (bNj w' x) ≤ bCar w' (bNn w' x) (bNet w' (bNn w' x) 2)
          · rw [if_pos y, bEqT (by omega) rfl, if_pos ⟨z, y⟩, bGt, bPt, b3, e2]
            obtain ⟨g1, g2, g3, g4, g5, g6⟩ := b2
            refine ih nf (i + 1) (bNx x) _ (h + 1) l _ (by omega) (by omega) (by omega) hxb (by omega) hl ⟨g1, g2, g3.to (fun k hk => bst_nc (by omega)), fun a c a0 a1 c0 c1 => by rw [bst_nc (by omega)]; exact g4 a c a0 a1 c0 c1, fun c c1 c2 c3 c4 => by rw [bst_nc c3]; exact g5 c c1 c2 c3 c4, fun j j0 j1 => by rw [bst_nc (by omega)]; exact g6 j j0 j1⟩ bst_eq ?_
            rw [bst_ni (by omega), b3, e3]
          · rw [if_neg y, bEqF (by omega) (by omega) (by omega), if_neg (fun t => y t.2), if_neg z]
            exact lost _ σ2 b2 b3
  obtain ⟨σ1, a1, s1⟩ := c_begin hI.k hI.r
  obtain ⟨g1, g2, g3, g4, g5, g6⟩ := s1
  have hnt : bNt (σ 78) seed m.toNat = bNtR m.toNat 0 seed (σ 78) 0 (-1) := by unfold bNt; rw [if_neg h5]
  unfold pf_X5_pass
  rw [bCl a1, bPt, bPt, hnt]
  refine L m.toNat on_N 0 seed (σ 78) 0 (-1) _ (by omega) (by omega) (by unfold on_N; omega) ⟨s0, s1⟩ (by omega) (by omega) ⟨g1, g2, g3.to (fun k hk => by rw [bst_nc (by omega), bst_nc (by omega)]), fun a c a0 a1 c0 c1 => by rw [bst_nc (by omega), bst_nc (by omega)]; exact g4 a c a0 a1 c0 c1, fun c c1 c2 c3 c4 => by rw [bst_nc c3, bst_nc c3]; exact g5 c c1 c2 c3 c4, fun j j0 j1 => by rw [bst_nc (by omega), bst_nc (by omega)]; exact g6 j j0 j1⟩ ?_ bst_eq
  rw [bst_ni (by omega), bst_eq]
theorem m_goesNight (hI : bI n σ) {seed m : Int} (s0 : 0 ≤ seed) (s1 : seed < 2147483648) (m0 : 1 ≤ m) (m1 : m ≤ 60) : ∃ σ', pf_X12_goesNight seed m σ = some (0, σ') ∧ bI n σ' ∧ σ' 78 = σ 78 ∧ σ' 77 31 = (bNt (σ 78) seed m.toNat).1 ∧ σ' 77 32 = (bNt (σ 78) seed m.toNat).2 := by
  obtain ⟨q0, q1, q2, q3, q4, q5, q6, q7⟩ := hI.k.c
  obtain ⟨σ2, a1, a2, a3⟩ := m_keepKnots (σ := on_st (on_st σ 77 31 0) 77 32 (-1))
  have e78 : on_st (on_st σ 77 31 0) 77 32 (-1) 78 = σ 78 := by rw [bst_nc (by omega), bst_nc (by omega)]
  have ms : bMS (σ 78) σ (σ 78) σ2 := ⟨by rw [a3 78 (by omega), e78], hI.k, bKx.rf _, fun a c a0 b0 c0 c1 => by rw [a2 a c a0 b0 c0 c1, e78], fun c c1 c2 c3 c4 => by rw [a3 c c4, bst_nc c1, bst_nc c1], by rw [a3 77 (by omega), bst_ni (by omega), bst_ni (by omega)], by rw [a3 77 (by omega), bst_ni (by omega), bst_ni (by omega)], by rw [a3 77 (by omega), bst_ni (by omega), bst_ni (by omega)]⟩
  have f31 : σ2 77 31 = 0 := by rw [a3 77 (by omega), bst_ni (by omega), bst_eq]
  have f32 : σ2 77 32 = -1 := by rw [a3 77 (by omega), bst_eq]
  have fin : ∀ (w' : bW) (σ' : on_S), bMS (σ 78) σ w' σ' → ∃ σ'', pf_X12_goesNight_159 σ' = some (0, σ'') ∧ bI n σ'' ∧ σ'' 78 = σ 78 ∧ σ'' 77 = σ' 77 := by
    intro w' σ' hs
    obtain ⟨σ'', b1, b2, b3⟩ := hs.give
    unfold pf_X12_goesNight_159
    rw [bCl b1]
    exact ⟨σ'', rfl, hs.inv hI rfl b2 b3, b2, b3 77 (by omega)⟩
  have L : σ 78 5 ≠ 0 → ∀ (r nf : Nat) (i x : Int) (w' : bW) (h l : Int) (σ' : on_S), 0 ≤ i → i + (r : Int) = m → r < nf → (0 ≤ x ∧ x < 2147483648) → (0 ≤ h ∧ h ≤ i) → (-1 ≤ l ∧ l < 60) → bMS (σ 78) σ w' σ' → σ' 77 31 = h → σ' 77 32 = l → ∃ σ'', pf_X12_goesNight_20 nf m x i σ' = some (0, σ'') ∧ bI n σ'' ∧ σ'' 78 = σ 78 ∧ σ'' 77 31 = (bNtR r i x w' h l).1 ∧ σ'' 77 32 = (bNtR r i x w' h l).2 := by
    intro h5 r
    induction r with
    | zero =>
      intro nf i x w' h l σ' i0 hi hnf hx hh hl hs e2 e3
      cases nf with
      | zero => omega
      | succ nf =>
        obtain ⟨σ'', b1, b2, b3, b4⟩ := fin w' σ' hs
        rw [pf_X12_goesNight_20, bLtF (by omega) (by omega) (by omega)]
        exact ⟨σ'', b1, b2, b3, by rw [b4, e2]; rfl, by rw [b4, e3]; rfl⟩
    | succ r ih =>
      intro nf i x w' h l σ' i0 hi hnf hx hh hl hs e2 e3
      cases nf with
      | zero => omega
      | succ nf =>
        obtain ⟨k1, k2, k3, k4, k5, k6, k7, k8⟩ := id hs
        have w5 : w' 5 = σ 78 5 := k3 5 (by omega) (by omega)
        have w4 : w' 4 = σ 78 4 := k3 4 (by omega) (by omega)
        have hxb := bNx_b x
        have hj0 : 0 ≤ bNj w' x := by unfold bNj; rw [w5]; exact Int.emod_nonneg _ h5
        have hj1 : bNj w' x < w' 5 := by unfold bNj; exact Int.emod_lt_of_pos _ (by omega)
        have hf := bForce_b k2 hj0 hj1
        have hwin := (k2.j _ hj0 hj1).2
        have w2b := k2.c.2.2.1
        have hnb := bNetAt_b k2.c (bWin w' (bNj w' x))
        have hnn : bNn w' x = bNetAt w' (bWin w' (bNj w' x)) := rfl
        have hk' : bOk (σ' 78) := by rw [k1]; exact k2
        rw [pf_X12_goesNight_20, bLtT (by omega) (by omega) (by omega), bRd (by omega) (by omega), k1, bLeF (by omega) (by omega) (by omega), bRmL (by omega) (by omega) (by omega) (by omega), show ((1103515245 * x) + 12345) % 2147483648 = bNx x from rfl, bDvL hxb.1 (by omega) (by omega) (by omega), bRd (by omega) (by omega), k1, bCk (by omega), bRmL (by omega) (by omega) (by omega) (by omega), show (bNx x / 65536) % w' 5 = bNj w' x from rfl, bCl (m_windowOf hj0 (by omega)), k1, bCl (m_netAt hk' (by omega)), k1, ← hnn, bNtR]
        -- behind each jump
        have go : ∀ (v : Int) (w2 : bW) (σ2 : on_S), (v = 0 ∨ v = 1) → bMS (σ 78) σ w2 σ2 → (∀ i, i ≠ 16 → σ2 77 i = σ' 77 i) → ∃ σ'', pf_X12_goesNight_106 (pf_X12_goesNight_20 nf) m (bNx x) i v σ2 = some (0, σ'') ∧ bI n σ'' ∧ σ'' 78 = σ 78 ∧ σ'' 77 31 = (bNtR r (i + 1) (bNx x) w2 (h + v) (if v = 0 ∧ l = -1 then i else l)).1 ∧ σ'' 77 32 = (bNtR r (i + 1) (bNx x) w2 (h + v) (if v = 0 ∧ l = -1 then i else l)).2 := by
          intro v w2 σ2 hv hs2 e77
          have st : ∀ (a c : Int), a ≠ 5 → a ≠ 12 → a ≠ 13 → bMS (σ 78) σ w2 σ2 → bMS (σ 78) σ w2 (on_st σ2 77 a c) := by
            intro a c n5 n12 n13 ⟨g1, g2, g3, g4, g5, g6, g7, g8⟩
            exact ⟨by rw [bst_nc (by omega)]; exact g1, g2, g3, fun b d b0 b1 d0 d1 => by rw [bst_nc (by omega)]; exact g4 b d b0 b1 d0 d1, fun b b1 b2 b3 b4 => by rw [bst_nc b1]; exact g5 b b1 b2 b3 b4, by rw [bst_ni (Ne.symm n5)]; exact g6, by rw [bst_ni (Ne.symm n12)]; exact g7, by rw [bst_ni (Ne.symm n13)]; exact g8⟩
          have hs3 : bMS (σ 78) σ w2 (on_st σ2 77 31 (h + v)) := st 31 _ (by omega) (by omega) (by omega) hs2
          have st2 : ∀ c : Int, bMS (σ 78) σ w2 (on_st (on_st σ2 77 31 (h + v)) 77 32 c) := by
            intro c
            obtain ⟨g1, g2, g3, g4, g5, g6, g7, g8⟩ := hs3
            exact ⟨by rw [bst_nc (by omega)]; exact g1, g2, g3, fun b d b0 b1 d0 d1 => by rw [bst_nc (by omega)]; exact g4 b d b0 b1 d0 d1, fun b b1 b2 b3 b4 => by rw [bst_nc b1]; exact g5 b b1 b2 b3 b4, by rw [bst_ni (by omega)]; exact g6, by rw [bst_ni (by omega)]; exact g7, by rw [bst_ni (by omega)]; exact g8⟩
          have e32 : on_st σ2 77 31 (h + v) 77 32 = l := by rw [bst_ni (by omega), e77 32 (by omega), e3]
          have nx : ∀ c : Int, (-1 ≤ c ∧ c < 60) → ∃ σ'', pf_X12_goesNight_150 (pf_X12_goesNight_20 nf) m (bNx x) i c (on_st σ2 77 31 (h + v)) = some (0, σ'') ∧ bI n σ'' ∧ σ'' 78 = σ 78 ∧ σ'' 77 31 = (bNtR r (i + 1) (bNx x) w2 (h + v) c).1 ∧ σ'' 77 32 = (bNtR r (i + 1) (bNx x) w2 (h + v) c).2 := by
            intro c hc
            unfold pf_X12_goesNight_150
            rw [bPt]
            exact ih nf (i + 1) (bNx x) w2 (h + v) c _ (by omega) (by omega) (by omega) hxb (by omega) hc (st2 c) (by rw [bst_ni (by omega), bst_eq]) bst_eq
          have h123 : pf_X12_goesNight_106 (pf_X12_goesNight_20 nf) m (bNx x) i v σ2 = pf_X12_goesNight_123 (pf_X12_goesNight_20 nf) m (bNx x) i v h v σ2 := by
            unfold pf_X12_goesNight_106
            rw [bGt, e77 31 (by omega), e2]
            rcases hv with rfl | rfl
            · rw [bEqT (by omega) rfl]
            · rw [bEqF (by omega) (by omega) (by omega)]
          rw [h123]
          unfold pf_X12_goesNight_123 pf_X12_goesNight_146
          rw [bPt, bGt, e32]
          by_cases y : v = 0
          · rw [bEqT (by omega) y]
            by_cases t : l = -1
            · rw [bEqT (by omega) t, if_pos ⟨y, t⟩]; exact nx i (by omega)
            · rw [bEqF (by omega) (by omega) t, if_neg (fun s => t s.2), bGt, e32]; exact nx l hl
          · rw [bEqF (by omega) (by omega) y, if_neg (fun s => y s.1), bGt, e32]; exact nx l hl
        by_cases z : bNn w' x = -1
        · rw [bEqT (by omega) z, if_neg (fun t => t.1 z), if_pos z]
          unfold pf_X12_goesNight_105
          have := go 0 w' σ' (Or.inl rfl) hs (fun _ _ => rfl)
          rw [Int.add_zero] at this
          by_cases t : l = -1
          · rw [if_pos ⟨rfl, t⟩] at this; rw [if_pos t]; exact this
          · rw [if_neg (fun s => t s.2)] at this; rw [if_neg t]; exact this
        · obtain ⟨σ2, b1, b2, b3⟩ := hs.lands (n := bNn w' x) (f := bForce w' (bNj w' x)) (by omega) (by omega) (by omega)
          rw [bEqF (by omega) (by omega) z, bCl (m_forceOf hk' hj0 (by rw [k1]; exact hj1)), k1, bCl b1]
          by_cases y : bForce w' (bNj w' x) ≤ bCar w' (bNn w' x) (bNet w' (bNn w' x) 2)
          · rw [if_pos y, bEqF (by omega) (by omega) (by omega), if_pos ⟨z, y⟩]
            have := go 1 _ σ2 (Or.inr rfl) b2 b3
            rw [if_neg (fun s => absurd s.1 (by omega))] at this
            exact this
          · rw [if_neg y, bEqT (by omega) rfl, if_neg (fun t => y t.2), if_neg z]
            unfold pf_X12_goesNight_105
            have := go 0 _ σ2 (Or.inl rfl) b2 b3
            rw [Int.add_zero] at this
            by_cases t : l = -1
            · rw [if_pos ⟨rfl, t⟩] at this; rw [if_pos t]; exact this
            · rw [if_neg (fun s => t s.2)] at this; rw [if_neg t]; exact this
  unfold pf_X12_goesNight
  rw [bPt, bPt, bCl a1]
  by_cases h5 : σ 78 5 = 0
  · obtain ⟨σ'', b1, b2, b3, b4⟩ := fin (σ 78) σ2 ms
    have hnt : bNt (σ 78) seed m.toNat = (0, -1) := by unfold bNt; rw [if_pos h5]
    refine ⟨σ'', ?_, b2, b3, by rw [b4, f31, hnt], by rw [b4, f32, hnt]⟩
    rw [show on_N = 99999 + 1 from rfl, pf_X12_goesNight_20, bLtT (by omega) (by omega) (by omega), bRd (by omega) (by omega), ms.1, bLeT (by omega) (by omega) (by omega)]
    exact b1
  · have hnt : bNt (σ 78) seed m.toNat = bNtR m.toNat 0 seed (σ 78) 0 (-1) := by unfold bNt; rw [if_neg h5]
    rw [hnt]
    exact L h5 m.toNat on_N 0 seed (σ 78) 0 (-1) σ2 (by omega) (by omega) (by unfold on_N; omega) ⟨s0, s1⟩ (by omega) (by omega) ms f31 f32
theorem c_canDraw (hI : bI n σ) (hp : on_R p) (hq : on_R q) : pf_X11_canDraw p q σ = some (if 0 < σ 78 7 ∧ (0 ≤ p ∧ p ≤ 2000000000) ∧ (1 ≤ q ∧ q ≤ 60) then 1 else 0, σ) := by
  unfold pf_X11_canDraw pf_X11_canDraw_36
  rw [bCl (c_isThere hI.k hI.r), bE01]
  by_cases h : 0 < σ 78 7
  · rw [if_pos h]
    by_cases a : p < 0
    · rw [bLtT hp (by omega) a, if_neg (by omega)]
    · rw [bLtF hp (by omega) (by omega)]
      by_cases b : p ≤ 2000000000
      · rw [bLeT hp (by omega) b]
        by_cases c : q < 1
        · rw [bLtT hq (by omega) c, if_neg (by omega)]
        · rw [bLtF hq (by omega) (by omega)]
          by_cases d : q ≤ 60
          · rw [bLeT hq (by omega) d, if_pos ⟨h, by omega, by omega⟩]
          · rw [bLeF hq (by omega) (by omega), if_neg (by omega)]
      · rw [bLeF hp (by omega) (by omega), if_neg (by omega)]
  · rw [if_neg h, if_neg (fun t => h t.1)]
theorem m_isNight (hp : on_R p) (hq : on_R q) : pf_X12_isNight p q σ = some (if (0 ≤ p ∧ p ≤ 2000000000) ∧ (1 ≤ q ∧ q ≤ 60) then 1 else 0, σ) := by
  unfold pf_X12_isNight pf_X12_isNight_28
  rw [bCk hp, bCl (m_in' hp (by omega) (by omega)), bE01]
  by_cases a : 0 ≤ p ∧ p ≤ 2000000000
  · rw [if_pos a, bCk hq, bCl (m_in' hq (by omega) (by omega)), bE01]
    by_cases b : 1 ≤ q ∧ q ≤ 60
    · rw [if_pos b, if_pos ⟨a, b⟩]
    · rw [if_neg b, if_neg (fun t => b t.2)]
  · rw [if_neg a, if_neg (fun t => a t.1)]
theorem o_night (hI : bI n σ) (hp : on_R p) (hq : on_R q) (ht : on_R t) : bOp n σ (pf_X11_night p q t) (pf_X12_night p q t) := by
  obtain ⟨q0, q1, q2, q3, q4, q5, q6, q7⟩ := hI.k.c
  refine bOp.ri (r := if 0 < σ 78 7 ∧ (0 ≤ p ∧ p ≤ 2000000000) ∧ (1 ≤ q ∧ q ≤ 60) then (if t = 0 ∨ t = 1 then (if t = 0 then (bNt (σ 78) p q.toNat).1 else (bNt (σ 78) p q.toNat).2) else -2) else -2) ?_ ?_ ?_
  · have := bNt_b (σ 78) p q.toNat
    split
    · split
      · split <;> omega
      · omega
    · omega
  · unfold pf_X11_night
    rw [bCl (c_canDraw hI hp hq), bE01]
    by_cases h : 0 < σ 78 7 ∧ (0 ≤ p ∧ p ≤ 2000000000) ∧ (1 ≤ q ∧ q ≤ 60)
    · rw [if_pos h, if_pos h, bCl (c_isBit ht), bE01]
      by_cases g : t = 0 ∨ t = 1
      · rw [if_pos g, if_pos g, bGt, hI.r.c.2.2.2.2.1]
        by_cases z : σ 78 5 = 0
        · have hnt : bNt (σ 78) p q.toNat = (0, -1) := by unfold bNt; rw [if_pos z]
          rw [bEqT (by omega) z, bEqS ht (by omega), hnt]
          exact ⟨σ, rfl, hI, rfl⟩
        · obtain ⟨σ1, a1, a2, a3, a4, a5⟩ := c_pass hI z (seed := p) (m := q) (by omega) (by omega) (by omega) (by omega)
          rw [bEqF (by omega) (by omega) z, bCk hp, bCl a1, bGt, bGt, a4, a5, bEqS ht (by omega)]
          exact ⟨σ1, rfl, a2, a3⟩
      · rw [if_neg g, if_neg g]; exact ⟨σ, rfl, hI, rfl⟩
    · rw [if_neg h, if_neg h]; exact ⟨σ, rfl, hI, rfl⟩
  · intro σ1 h1 e
    rw [← e]
    unfold pf_X12_night
    rw [bCl (m_isStreet h1.k), bE01]
    by_cases h0 : 0 < σ1 78 7
    · rw [if_pos h0, bCl (m_isNight hp hq), bE01]
      by_cases h : (0 ≤ p ∧ p ≤ 2000000000) ∧ (1 ≤ q ∧ q ≤ 60)
      · rw [if_pos h, if_pos ⟨h0, h⟩, bCk ht, bCl (m_in' ht (by omega) (by omega)), bE01]
        by_cases g : t = 0 ∨ t = 1
        · obtain ⟨σ2, a1, a2, a3, a4, a5⟩ := m_goesNight h1 (seed := p) (m := q) (by omega) (by omega) (by omega) (by omega)
          rw [if_pos (by omega), if_pos g, bCk hp, bCl a1, bGt, bGt, a4, a5, bEqS ht (by omega)]
          exact ⟨σ2, rfl, a2⟩
        · rw [if_neg (by omega), if_neg g]; exact ⟨σ1, rfl, h1⟩
      · rw [if_neg h, if_neg (fun t => h t.2)]; exact ⟨σ1, rfl, h1⟩
    · rw [if_neg h0, if_neg (fun t => h0 t.1)]; exact ⟨σ1, rfl, h1⟩
def bYrR (w : bW) (seed : Int) (n : Nat) : Nat → Int → Int → Int
  | 0, _, a => a
  | r + 1, k, a => bYrR w seed n r (k + 1) (if (bNt w (seed + k) n).2 = -1 then a + 1 else a)
theorem bYrR_b (w : bW) (seed : Int) (n : Nat) : ∀ (r : Nat) (k a : Int), a ≤ bYrR w seed n r k a ∧ bYrR w seed n r k a ≤ a + r := by
  intro r
  induction r with
  | zero => intro k a; simp [bYrR]
  | succ r ih =>
    intro k a
    rw [bYrR]
    split
    · have := ih (k + 1) (a + 1); omega
    · have := ih (k + 1) a; omega
theorem bYrR_0 (w : bW) (seed : Int) (n : Nat) (h5 : w 5 = 0) : ∀ (r : Nat) (k a : Int), bYrR w seed n r k a = a + r := by
  intro r
  induction r with
  | zero => intro k a; simp [bYrR]
  | succ r ih =>
    intro k a
    have : (bNt w (seed + k) n).2 = -1 := by unfold bNt; rw [if_pos h5]
    rw [bYrR, if_pos this, ih]; omega
theorem o_years (hI : bI n σ) (hp : on_R p) (hq : on_R q) (ht : on_R t) : bOp n σ (pf_X11_years p q t) (pf_X12_years p q t) := by
  obtain ⟨q0, q1, q2, q3, q4, q5, q6, q7⟩ := hI.k.c
  refine bOp.ri (r := if 0 < σ 78 7 ∧ (0 ≤ p ∧ p ≤ 2000000000) ∧ (1 ≤ t ∧ t ≤ 60) then (if 1 ≤ q ∧ q ≤ 20 then bYrR (σ 78) p t.toNat q.toNat 0 0 else -2) else -2) ?_ ?_ ?_
  · have := bYrR_b (σ 78) p t.toNat q.toNat 0 0
    split
    · split <;> omega
    · omega
  · unfold pf_X11_years
    rw [bCl (c_canDraw hI hp ht), bE01]
    by_cases h : 0 < σ 78 7 ∧ (0 ≤ p ∧ p ≤ 2000000000) ∧ (1 ≤ t ∧ t ≤ 60)
    · rw [if_pos h, if_pos h]
      by_cases g : 1 ≤ q ∧ q ≤ 20
      · rw [if_pos g, bLtF hq (by omega) (by omega), bLeT hq (by omega) (by omega), bGt, hI.r.c.2.2.2.2.1]
        by_cases z : σ 78 5 = 0
        · rw [bEqT (by omega) z, bYrR_0 _ _ _ z, show (0 : Int) + ((q.toNat : Nat) : Int) = q by omega]
          exact ⟨σ, rfl, hI, rfl⟩
        · rw [bEqF (by omega) (by omega) z]
          have L : ∀ (r nf : Nat) (k a : Int) (σ' : on_S), 0 ≤ k → k + (r : Int) = q → r < nf → bI n σ' → σ' 78 = σ 78 → ∃ σ'', pf_X11_years_41 nf p q t a k σ' = some (bYrR (σ 78) p t.toNat r k a, σ'') ∧ bI n σ'' ∧ σ'' 78 = σ 78 := by
            intro r
            induction r with
            | zero =>
              intro nf k a σ' k0 hk hnf h1 h2
              cases nf with
              | zero => omega
              | succ nf => rw [pf_X11_years_41, bLtF (by omega) (by omega) (by omega)]; exact ⟨σ', rfl, h1, h2⟩
            | succ r ih =>
              intro nf k a σ' k0 hk hnf h1 h2
              cases nf with
              | zero => omega
              | succ nf =>
                obtain ⟨σ2, a1, a2, a3, a4, a5⟩ := c_pass h1 (by rw [h2]; exact z) (seed := p + k) (m := t) (by omega) (by omega) (by omega) (by omega)
                have hb := bNt_b (σ 78) (p + k) t.toNat
                rw [h2] at a5 a3
                rw [pf_X11_years_41, bLtT (by omega) (by omega) (by omega), bCk hp, bCk (by omega), bCl a1, bGt, a5, bYrR]
                by_cases y : (bNt (σ 78) (p + k) t.toNat).2 = -1
                · rw [bEqT (by omega) y, if_pos y]; exact ih nf (k + 1) (a + 1) σ2 (by omega) (by omega) (by omega) a2 a3
                · rw [bEqF (by omega) (by omega) y, if_neg y]; exact ih nf (k + 1) a σ2 (by omega) (by omega) (by omega) a2 a3
          exact L q.toNat on_N 0 0 σ (by omega) (by omega) (by unfold on_N; omega) hI rfl
      · rw [if_neg g]
        by_cases g2 : q < 1
        · rw [bLtT hq (by omega) g2]; exact ⟨σ, rfl, hI, rfl⟩
        · rw [bLtF hq (by omega) (by omega), bLeF hq (by omega) (by omega)]; exact ⟨σ, rfl, hI, rfl⟩
    · rw [if_neg h, if_neg h]; exact ⟨σ, rfl, hI, rfl⟩
  · intro σ1 h1 e
    rw [← e]
    unfold pf_X12_years
    rw [bCl (m_isStreet h1.k), bE01]
    by_cases h0 : 0 < σ1 78 7
    · rw [if_pos h0, bCl (m_isNight hp ht), bE01]
      by_cases h : (0 ≤ p ∧ p ≤ 2000000000) ∧ (1 ≤ t ∧ t ≤ 60)
      · rw [if_pos h, if_pos ⟨h0, h⟩, bCk hq, bCl (m_in' hq (by omega) (by omega)), bE01]
        by_cases g : 1 ≤ q ∧ q ≤ 20
        · rw [if_pos g, if_pos g]
          have L : ∀ (r nf : Nat) (k a : Int) (σ' : on_S), 0 ≤ k → k + (r : Int) = q → r < nf → bI n σ' → σ' 78 = σ1 78 → ∃ σ'', pf_X12_years_36 nf p q t a k σ' = some (bYrR (σ1 78) p t.toNat r k a, σ'') ∧ bI n σ'' := by
            intro r
            induction r with
            | zero =>
              intro nf k a σ' k0 hk hnf h1 h2
              cases nf with
              | zero => omega
              | succ nf => rw [pf_X12_years_36, bLtF (by omega) (by omega) (by omega)]; exact ⟨σ', rfl, h1⟩
            | succ r ih =>
              intro nf k a σ' k0 hk hnf h1 h2
              cases nf with
              | zero => omega
              | succ nf =>
                obtain ⟨σ2, a1, a2, a3, a4, a5⟩ := m_goesNight h1 (seed := p + k) (m := t) (by omega) (by omega) (by omega) (by omega)
                have hb := bNt_b (σ1 78) (p + k) t.toNat
                rw [h2] at a5 a3
                rw [pf_X12_years_36, bLtT (by omega) (by omega) (by omega), bCk hp, bCk (by omega), bCl a1, bGt, a5, bYrR]
                by_cases y : (bNt (σ1 78) (p + k) t.toNat).2 = -1
                · rw [bEqT (by omega) y, if_pos y]; exact ih nf (k + 1) (a + 1) σ2 (by omega) (by omega) (by omega) a2 a3
                · rw [bEqF (by omega) (by omega) y, if_neg y, Int.add_zero]; exact ih nf (k + 1) a σ2 (by omega) (by omega) (by omega) a2 a3
          exact L q.toNat on_N 0 0 σ1 (by omega) (by omega) (by unfold on_N; omega) h1 rfl
        · rw [if_neg g, if_neg g]; exact ⟨σ1, rfl, h1⟩
      · rw [if_neg h, if_neg (fun t => h t.2)]; exact ⟨σ1, rfl, h1⟩
    · rw [if_neg h0, if_neg (fun t => h0 t.1)]; exact ⟨σ1, rfl, h1⟩
end N43
