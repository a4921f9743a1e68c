/-! B: without, fair -/
theorem bMask_b : ∀ h : Nat, h < 5 → ∀ q : Nat, q < h → 0 ≤ on_and (on_shl 1 h - 1) (on_xor (on_shl 1 q) (-1)) ∧ on_and (on_shl 1 h - 1) (on_xor (on_shl 1 q) (-1)) < 16 := by decide +kernel
theorem bMask_eq : ∀ h : Nat, h < 5 → ∀ q : Nat, q < h → ∀ a : Nat, a < h → on_and (on_shr (on_and (on_shl 1 h - 1) (on_xor (on_shl 1 q) (-1))) a) 1 = on_and (on_shr (on_and 15 (on_xor (on_shl 1 q) (-1))) a) 1 := by decide +kernel
section O61
variable {n : Nat} {σ : on_S} {p q r : Int} {w : bW}
/-- the class has summed the rows of a net at its window by houses -/
theorem c_summed (hk : bOk w) (hR : bRp 2 w σ) (hO : bRo σ) {n x : Int} (n0 : 0 ≤ n) (n1 : n < w 4) (x0 : 0 ≤ x) (x1 : x < w 2) : ∃ σ1 σ2 : on_S, pf_X7_prepare n x σ = some (0, σ1) ∧ pf_X7_sumByHouses σ1 = some (0, σ2) ∧ bSum w n x σ2 ∧ ∀ c, c ≠ 55 → c ≠ 57 → c ≠ 58 → σ2 c = σ c := by
  obtain ⟨σ1, a1, a2, a3⟩ := c_prepare hk hR n0 n1 x0 x1
  have R1 : bRp 2 w σ1 := hR.to fun j hj => a2 _ (by omega) (by omega)
  have O1 : bRo σ1 := fun i hi => by rw [a2 56 (by omega) (by omega)]; exact hO i hi
  obtain ⟨σ2, b1, b2, b3⟩ := c_sumByHouses hk R1 n0 n1 a3 O1
  exact ⟨σ1, σ2, a1, b1, b3, fun c c5 c7 c8 => by rw [b2 c c8, a2 c c5 c7]⟩
theorem m_worth (hk : bOk w) (hw : σ 78 = w) {n : Int} (n0 : 0 ≤ n) (n1 : n < w 4) (S : Int) : ∃ (v : Int) (σ' : on_S), pf_X12_mostBy n (bNet w n 0) S σ = some (v, σ') ∧ bS σ σ' ∧ max 0 v = bWor w n (bNet w n 0) S ∧ (-1 ≤ v ∧ v ≤ 396) := by
  have hx := (hk.n n n0 n1).1
  obtain ⟨σ', a1, a2, -⟩ := m_mostBy (σ := σ) hk hw n0 n1 hx.1 hx.2 S
  exact ⟨_, σ', a1, a2, rfl, (bBest_ge _ (-1)).1, bBest_le _ (-1) (by omega) fun r _ => (bVal_b hk n0 n1 r).2⟩
theorem o_without (hI : bI n σ) (hp : on_R p) (hq : on_R q) : bOp n σ (pf_X11_without p q) (pf_X12_without p q) := by
  obtain ⟨q0, q1, q2, q3, q4, q5, q6, q7⟩ := hI.k.c
  by_cases h : 0 ≤ p ∧ p < σ 78 4
  · by_cases g : 0 ≤ q ∧ q < σ 78 0
    · have hx := (hI.k.n p h.1 h.2).1
      obtain ⟨σ1, σ2, a1, a2, a3, a4⟩ := c_summed hI.k hI.r hI.o h.1 h.2 hx.1 hx.2
      have i2 : bI n σ2 := hI.idle fun c hc => a4 c (by omega) (by omega) (by omega)
      have w2 : σ2 78 = σ 78 := a4 78 (by omega) (by omega) (by omega)
      have e0 : σ2 2 0 = σ 78 0 := by rw [a4 2 (by omega) (by omega) (by omega)]; exact hI.r.c.1
      have mb := bMask_b (σ 78 0).toNat (by omega) q.toNat (by omega)
      have me := bMask_eq (σ 78 0).toNat (by omega) q.toNat (by omega)
      rw [show ((σ 78 0).toNat : Int) = σ 78 0 by omega, show (q.toNat : Int) = q by omega] at mb me
      obtain ⟨c1, c2⟩ := c_worthOf (σ := σ2) hI.k h.1 h.2 a3 mb.1 mb.2
      obtain ⟨v, σ3, d1, d2, d3, d4⟩ := m_worth (σ := σ2) hI.k w2 h.1 h.2 (on_and 15 (on_xor (on_shl 1 q) (-1)))
      have ee : bWor (σ 78) p (bNet (σ 78) p 0) (on_and 15 (on_xor (on_shl 1 q) (-1))) = bWor (σ 78) p (bNet (σ 78) p 0) (on_and (on_shl 1 (σ 78 0) - 1) (on_xor (on_shl 1 q) (-1))) := by
        unfold bWor
        rw [bL0_congr (fun d d0 d1 => ?_)]
        have hm := (hI.k.m d d0 d1).1
        have t := me (bMan (σ 78) d 0).toNat (by omega)
        rw [show ((bMan (σ 78) d 0).toNat : Int) = bMan (σ 78) d 0 by omega] at t
        unfold bOkS
        rw [t]
      refine ⟨bWor (σ 78) p (bNet (σ 78) p 0) (on_and (on_shl 1 (σ 78 0) - 1) (on_xor (on_shl 1 q) (-1))), σ2, σ3, ?_, ?_, by omega, d2.inv i2⟩
      · unfold pf_X11_without
        rw [bCl (c_hasNet hI.k hI.r hp), bE01, if_pos h, bCl (c_hasHouse hI.k hI.r hq), bE01, if_pos g, bRd h.1 (by omega), (hI.r.n p h.1 h.2).1, bCl a1, bCl a2, bGt, e0, bCl c1]
      · unfold pf_X12_without pf_X12_allHouses
        rw [bCk hp, bCl (m_isNet i2.k (by omega)), bE01, w2, if_pos h, bCl (m_isHouse i2.k hq), bE01, w2, if_pos g, bCl (m_ofNet h.1 (by omega) (by omega) (by omega)), w2, bCl (show (some (15, σ2) : Option on_O) = some (15, σ2) from rfl), bCl d1, bMx (by omega) (by omega), d3, ee]
    · refine bOp.no (r := -2) hI (by omega) ?_ ?_
      · unfold pf_X11_without
        rw [bCl (c_hasNet hI.k hI.r hp), bE01, if_pos h, bCl (c_hasHouse hI.k hI.r hq), bE01, if_neg g]
      · unfold pf_X12_without pf_X12_without_45
        rw [bCk hp, bCl (m_isNet hI.k (by omega)), bE01, if_pos h, bCl (m_isHouse hI.k hq), bE01, if_neg g]
  · refine bOp.no (r := -2) hI (by omega) ?_ ?_
    · unfold pf_X11_without
      rw [bCl (c_hasNet hI.k hI.r hp), bE01, if_neg h]
    · unfold pf_X12_without pf_X12_without_45
      rw [bCk hp, bCl (m_isNet hI.k (by omega)), bE01, if_neg h]
end O61
