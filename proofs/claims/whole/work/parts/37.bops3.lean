/-! B: mend, wet, anger, truce, end -/
theorem bOp.no {n : Nat} {σ : on_S} {x y : on_S → Option on_O} {r : Int} (hI : bI n σ) (hr : on_R r) (hx : x σ = some (r, σ)) (hy : y σ = some (r, σ)) : bOp n σ x y := ⟨r, σ, σ, hx, hy, hr, hI⟩
section I37
variable {n : Nat} {σ σ' : on_S}
/-- nets' knots, wears, wetness made otherwise -/
theorem bI.net (hI : bI n σ) (hs : bSw σ σ') (hA : bRg (σ 78) (σ' 78) 0 62) (hB : bRg (σ 78) (σ' 78) 76 687) (hW : ∀ m, 0 ≤ m → m < 2 → bNet (σ' 78) m 0 = bNet (σ 78) m 0) (hC : ∀ c : Nat, 2 ≤ c → c ≤ 25 → ¬ (18 ≤ c ∧ c ≤ 20) → σ' c = σ c) (hN : bOkN (σ' 78)) (hR : bRpN 2 (σ' 78) σ') : bI n σ' := by
  obtain ⟨k1, k2, k3, k4, k5, k6, k7, k8, k9, k10, k11⟩ := hI.k
  obtain ⟨r1, r2, r3, r4, r5, r6, r7, r8, r9⟩ := hI.r
  obtain ⟨q0, q1, q2, q3, q4, q5, q6, q7⟩ := id k1
  have a0 := hA.sub (l' := 0) (h' := 8) (by omega) (by omega)
  have a1 := hA.sub (l' := 8) (h' := 26) (by omega) (by omega)
  have a2 := hA.sub (l' := 26) (h' := 62) (by omega) (by omega)
  have aQ := hB.sub (l' := 76) (h' := 157) (by omega) (by omega)
  have aF := hB.sub (l' := 157) (h' := 173) (by omega) (by omega)
  have aJ := hB.sub (l' := 173) (h' := 191) (by omega) (by omega)
  have aR := hB.sub (l' := 191) (h' := 207) (by omega) (by omega)
  have aP := hB.sub (l' := 207) (h' := 687) (by omega) (by omega)
  have hnet : ∀ x, bNetAt (σ' 78) x = bNetAt (σ 78) x := by
    intro x
    unfold bNetAt
    rw [a0 4 (by omega) (by omega)]
    exact bFst_congr _ _ (fun j j0 j1 => by rw [hW j j0 (by omega)])
  have hE : bOkE (σ' 78) := by
    intro m m' m0 m1 n0 n1
    rw [a0 4 (by omega) (by omega)] at m1 n1
    rw [hW m m0 (by omega), hW m' n0 (by omega)]
    exact k6 m m' m0 m1 n0 n1
  refine hI.sw hs ⟨k1.rg a0, bOkW.rg k1 k2 a0 a1, bOkM.rg k1 k3 a0 a2, bOkD.rg k1 k4 a0 a2, hN, hE, k7.rg aQ, k8.rg aF, bOkJ.rg k1 k9 a0 aJ, k10.rg a0 aR, bOkP.rg k1 k11 a0 hnet aJ aP⟩ ?_
  exact ⟨r1.rg a0 (hC 2 (by omega) (by omega) (by omega)) (hC 10 (by omega) (by omega) (by omega)) (hC 16 (by omega) (by omega) (by omega)) (hC 22 (by omega) (by omega) (by omega)), bRpW.rg k1 r2 a0 a1 hnet (hC 3 (by omega) (by omega) (by omega)) (hC 4 (by omega) (by omega) (by omega)) (hC 5 (by omega) (by omega) (by omega)), bRpJ.rg k1 r3 a0 aJ (hC 6 (by omega) (by omega) (by omega)) (hC 7 (by omega) (by omega) (by omega)), r4.rg aF aR (hC 8 (by omega) (by omega) (by omega)) (hC 9 (by omega) (by omega) (by omega)), bRpM.rg k1 r5 a0 a2 (hC 11 (by omega) (by omega) (by omega)) (hC 12 (by omega) (by omega) (by omega)) (hC 13 (by omega) (by omega) (by omega)) (hC 14 (by omega) (by omega) (by omega)), r6.rg aQ (hC 15 (by omega) (by omega) (by omega)), hR, bRpH.rg k1 r8 a0 a2 (hC 21 (by omega) (by omega) (by omega)), bRpP.rg k1 r9 a0 aP (hC 23 (by omega) (by omega) (by omega)) (hC 24 (by omega) (by omega) (by omega)) (hC 25 (by omega) (by omega) (by omega))⟩
/-- quarrels or feuds made otherwise -/
theorem bI.qf (hI : bI n σ) (hs : bSw σ σ') (hA : bRg (σ 78) (σ' 78) 0 76) (hB : bRg (σ 78) (σ' 78) 173 687) (hC : ∀ c : Nat, 2 ≤ c → c ≤ 25 → c ≠ 8 → c ≠ 15 → σ' c = σ c) (hQ : bOkQ (σ' 78)) (hF : bOkF (σ' 78)) (hRQ : bRpQ 2 (σ' 78) σ') (hRF : bRpF 2 (σ' 78) σ') : bI n σ' := by
  obtain ⟨k1, k2, k3, k4, k5, k6, k7, k8, k9, k10, k11⟩ := hI.k
  obtain ⟨r1, r2, r3, r4, r5, r6, r7, r8, r9⟩ := hI.r
  have a0 := hA.sub (l' := 0) (h' := 8) (by omega) (by omega)
  have a1 := hA.sub (l' := 8) (h' := 26) (by omega) (by omega)
  have a2 := hA.sub (l' := 26) (h' := 62) (by omega) (by omega)
  have aN := hA.sub (l' := 62) (h' := 76) (by omega) (by omega)
  have aJ := hB.sub (l' := 173) (h' := 191) (by omega) (by omega)
  have aR := hB.sub (l' := 191) (h' := 207) (by omega) (by omega)
  have aP := hB.sub (l' := 207) (h' := 687) (by omega) (by omega)
  have hnet := fun x => bRg.netAt k1 a0 aN x
  refine hI.sw hs ⟨k1.rg a0, bOkW.rg k1 k2 a0 a1, bOkM.rg k1 k3 a0 a2, bOkD.rg k1 k4 a0 a2, bOkN.rg k1 k5 a0 aN, bOkE.rg k1 k6 a0 aN, hQ, hF, bOkJ.rg k1 k9 a0 aJ, k10.rg a0 aR, bOkP.rg k1 k11 a0 hnet aJ aP⟩ ?_
  exact ⟨r1.rg a0 (hC 2 (by omega) (by omega) (by omega) (by omega)) (hC 10 (by omega) (by omega) (by omega) (by omega)) (hC 16 (by omega) (by omega) (by omega) (by omega)) (hC 22 (by omega) (by omega) (by omega) (by omega)), bRpW.rg k1 r2 a0 a1 hnet (hC 3 (by omega) (by omega) (by omega) (by omega)) (hC 4 (by omega) (by omega) (by omega) (by omega)) (hC 5 (by omega) (by omega) (by omega) (by omega)), bRpJ.rg k1 r3 a0 aJ (hC 6 (by omega) (by omega) (by omega) (by omega)) (hC 7 (by omega) (by omega) (by omega) (by omega)), hRF, bRpM.rg k1 r5 a0 a2 (hC 11 (by omega) (by omega) (by omega) (by omega)) (hC 12 (by omega) (by omega) (by omega) (by omega)) (hC 13 (by omega) (by omega) (by omega) (by omega)) (hC 14 (by omega) (by omega) (by omega) (by omega)), hRQ, bRpN.rg k1 r7 a0 aN (hC 17 (by omega) (by omega) (by omega) (by omega)) (hC 18 (by omega) (by omega) (by omega) (by omega)) (hC 19 (by omega) (by omega) (by omega) (by omega)) (hC 20 (by omega) (by omega) (by omega) (by omega)), bRpH.rg k1 r8 a0 a2 (hC 21 (by omega) (by omega) (by omega) (by omega)), bRpP.rg k1 r9 a0 aP (hC 23 (by omega) (by omega) (by omega) (by omega)) (hC 24 (by omega) (by omega) (by omega) (by omega)) (hC 25 (by omega) (by omega) (by omega) (by omega))⟩
end I37
theorem bNet_up {w : bW} {i v n q : Int} : bNet (bUp w i v) n q = if (62 + (7 * n)) + q = i then v else bNet w n q := rfl
theorem c_isBit {σ : on_S} {p : Int} (hp : on_R p) : pf_X11_isBit p σ = some (if p = 0 ∨ p = 1 then 1 else 0, σ) := by
  unfold pf_X11_isBit pf_X11_isBit_9
  by_cases a : p = 0
  · rw [bEqT hp a, if_pos (Or.inl a)]
  · rw [bEqF hp (by omega) a]
    by_cases b : p = 1
    · rw [bEqT hp b, if_pos (Or.inr b)]
    · rw [bEqF hp (by omega) b, if_neg (by omega)]
section O37
variable {n : Nat} {σ : on_S} {p q t : Int}
theorem o_mend (hI : bI n σ) (hp : on_R p) (hq : on_R q) (ht : on_R t) : bOp n σ (pf_X11_mend p q t) (pf_X12_mend p q t) := by
  obtain ⟨q0, q1, q2, q3, q4, q5, q6, q7⟩ := hI.k.c
  by_cases h : ((0 ≤ p ∧ p < σ 78 4) ∧ (0 ≤ q ∧ q < 4)) ∧ (0 ≤ t ∧ t ≤ 99)
  · obtain ⟨⟨hp1, hq1⟩, ht1⟩ := h
    have hn := hI.k.n p hp1.1 hp1.2
    have hc := hn.2.2.2 q hq1.1 hq1.2
    have hw1 : on_st σ (2 + 18) ((p * 4) + q) t 78 = σ 78 := bst_nc (by decide)
    have hw : on_st (on_st σ (2 + 18) ((p * 4) + q) t) 78 (((62 + (7 * p)) + 3) + q) t 78 = bUp (σ 78) (((62 + (7 * p)) + 3) + q) t := by rw [bst_up, hw1]
    refine ⟨bNet (σ 78) p (3 + q), on_st σ (2 + 18) ((p * 4) + q) t, on_st (on_st σ (2 + 18) ((p * 4) + q) t) 78 (((62 + (7 * p)) + 3) + q) t, ?_, ?_, by omega, ?_⟩
    · unfold pf_X11_mend
      rw [bCl (c_hasCorner hI.k hI.r hp hq), bE01, if_pos ⟨hp1, hq1⟩, bLtF ht (by omega) (by omega), bLeT ht (by omega) (by omega), bRd (by omega) (by omega), bWr (by omega) (by omega), (hI.r.n p hp1.1 hp1.2).2.2.2 q hq1.1 hq1.2]
    · have hk1 : bOk (on_st σ (2 + 18) ((p * 4) + q) t 78) := by rw [hw1]; exact hI.k
      unfold pf_X12_mend
      rw [bCk hp, bCl (m_isNet hk1 (by omega)), bE01, hw1, if_pos hp1, bCl (m_isCorner hq), bE01, if_pos hq1, bCk ht, bCl (m_in' ht (by omega) (by omega)), bE01, if_pos ht1, bCl (m_ofNet hp1.1 (by omega) (by omega) (by omega)), hw1, bWr (by omega) (by omega)]
    · refine hI.net (bSw.st (by omega) |>.tr (bSw.st (by omega))) ?_ ?_ ?_ ?_ ?_ ?_
      · rw [hw]; exact bRg.up (by omega)
      · rw [hw]; exact bRg.up (by omega)
      · intro m m0 m1; rw [hw, bNet_up, if_neg (by omega)]
      · intro c c2 c25 c18; rw [bst_nc (by omega), bst_nc (by omega)]
      · intro m m0 m1
        rw [hw] at m1 ⊢
        rw [bUp_ne (by omega)] at m1
        rw [bNet_up, bNet_up, bNet_up, if_neg (by omega), if_neg (by omega), if_neg (by omega), bUp_ne (by omega)]
        have hm := hI.k.n m m0 m1
        refine ⟨hm.1, hm.2.1, hm.2.2.1, fun c c0 c1 => ?_⟩
        rw [bNet_up]
        split
        · exact ht1
        · exact hm.2.2.2 c c0 c1
      · intro m m0 m1
        rw [hw] at m1 ⊢
        rw [bUp_ne (by omega)] at m1
        obtain ⟨e1, e2, e3, e4⟩ := hI.r.n m m0 m1
        rw [bNet_up, bNet_up, bNet_up, if_neg (by omega), if_neg (by omega), if_neg (by omega), bst_nc (by decide), bst_nc (by decide), bst_nc (by decide), bst_nc (by decide), bst_nc (by decide), bst_nc (by decide)]
        refine ⟨e1, e2, e3, fun c c0 c1 => ?_⟩
        rw [bst_nc (by decide), bst_if, bNet_up]
        by_cases g : (m * 4) + c = (p * 4) + q
        · rw [if_pos g, if_pos (by omega)]
        · rw [if_neg g, if_neg (by omega)]; exact e4 c c0 c1
  · refine bOp.no (r := -2) hI (by omega) ?_ ?_
    · unfold pf_X11_mend
      rw [bCl (c_hasCorner hI.k hI.r hp hq), bE01]
      split
      · by_cases g : t < 0
        · rw [bLtT ht (by omega) g]
        · rw [bLtF ht (by omega) (by omega), bLeF ht (by omega) (by omega)]
      · rfl
    · unfold pf_X12_mend
      rw [bCk hp, bCl (m_isNet hI.k (by omega)), bE01]
      split
      · rw [bCl (m_isCorner hq), bE01]
        split
        · rw [bCk ht, bCl (m_in' ht (by omega) (by omega)), bE01, if_neg (by omega)]
        · rfl
      · rfl
theorem o_wet (hI : bI n σ) (hp : on_R p) (hq : on_R q) : bOp n σ (pf_X11_wet p q) (pf_X12_wet p q) := by
  obtain ⟨q0, q1, q2, q3, q4, q5, q6, q7⟩ := hI.k.c
  by_cases h : (0 ≤ p ∧ p < σ 78 4) ∧ (0 ≤ q ∧ q ≤ 1)
  · obtain ⟨hp1, hq1⟩ := h
    have hn := hI.k.n p hp1.1 hp1.2
    have hw1 : on_st σ (2 + 17) p q 78 = σ 78 := bst_nc (by decide)
    have hw : on_st (on_st σ (2 + 17) p q) 78 ((62 + (7 * p)) + 2) q 78 = bUp (σ 78) ((62 + (7 * p)) + 2) q := by rw [bst_up, hw1]
    refine ⟨bNet (σ 78) p 2, on_st σ (2 + 17) p q, on_st (on_st σ (2 + 17) p q) 78 ((62 + (7 * p)) + 2) q, ?_, ?_, by omega, ?_⟩
    · unfold pf_X11_wet
      rw [bCl (c_hasNet hI.k hI.r hp), bE01, if_pos hp1, bCl (c_isBit hq), bE01, if_pos (by omega), bRd (by omega) (by omega), bWr (by omega) (by omega), (hI.r.n p hp1.1 hp1.2).2.2.1]
    · have hk1 : bOk (on_st σ (2 + 17) p q 78) := by rw [hw1]; exact hI.k
      unfold pf_X12_wet
      rw [bCk hp, bCl (m_isNet hk1 (by omega)), bE01, hw1, if_pos hp1, bCk hq, bCl (m_in' hq (by omega) (by omega)), bE01, if_pos hq1, bCl (m_ofNet hp1.1 (by omega) (by omega) (by omega)), hw1, bWr (by omega) (by omega)]
    · refine hI.net (bSw.st (by omega) |>.tr (bSw.st (by omega))) ?_ ?_ ?_ ?_ ?_ ?_
      · rw [hw]; exact bRg.up (by omega)
      · rw [hw]; exact bRg.up (by omega)
      · intro m m0 m1; rw [hw, bNet_up, if_neg (by omega)]
      · intro c c2 c25 c18; rw [bst_nc (by omega), bst_nc (by omega)]
      · intro m m0 m1
        rw [hw] at m1 ⊢
        rw [bUp_ne (by omega)] at m1
        rw [bNet_up, bNet_up, bNet_up, if_neg (by omega), if_neg (by omega), bUp_ne (by omega)]
        have hm := hI.k.n m m0 m1
        refine ⟨hm.1, hm.2.1, ?_, fun c c0 c1 => ?_⟩
        · split
          · omega
          · exact hm.2.2.1
        · rw [bNet_up, if_neg (by omega)]
          exact hm.2.2.2 c c0 c1
      · intro m m0 m1
        rw [hw] at m1 ⊢
        rw [bUp_ne (by omega)] at m1
        obtain ⟨e1, e2, e3, e4⟩ := hI.r.n m m0 m1
        rw [bNet_up, bNet_up, bNet_up, if_neg (by omega), if_neg (by omega), bst_nc (by decide), bst_nc (by decide), bst_nc (by decide), bst_nc (by decide), bst_nc (c' := 2 + 17) (by decide), bst_if]
        refine ⟨e1, e2, ?_, fun c c0 c1 => ?_⟩
        · by_cases g : m = p
          · rw [if_pos g, if_pos (by omega)]
          · rw [if_neg g, if_neg (by omega)]; exact e3
        · rw [bst_nc (by decide), bst_nc (by decide), bNet_up, if_neg (by omega)]
          exact e4 c c0 c1
  · refine bOp.no (r := -2) hI (by omega) ?_ ?_
    · unfold pf_X11_wet
      rw [bCl (c_hasNet hI.k hI.r hp), bE01]
      split
      · rw [bCl (c_isBit hq), bE01, if_neg (by omega)]
      · rfl
    · unfold pf_X12_wet
      rw [bCk hp, bCl (m_isNet hI.k (by omega)), bE01]
      split
      · rw [bCk hq, bCl (m_in' hq (by omega) (by omega)), bE01, if_neg (by omega)]
      · rfl
theorem bQ_up {w : bW} {i v a c : Int} : bQ (bUp w i v) a c = if (76 + (9 * a)) + c = i then v else bQ w a c := rfl
theorem bFd_up {w : bW} {i v a c : Int} : bFd (bUp w i v) a c = if (157 + (4 * a)) + c = i then v else bFd w a c := rfl
theorem o_anger (hI : bI n σ) (hp : on_R p) (hq : on_R q) (ht : on_R t) : bOp n σ (pf_X11_anger p q t) (pf_X12_anger p q t) := by
  obtain ⟨q0, q1, q2, q3, q4, q5, q6, q7⟩ := hI.k.c
  by_cases h : ((0 ≤ p ∧ p < σ 78 3) ∧ (0 ≤ q ∧ q < σ 78 3) ∧ p ≠ q) ∧ (0 ≤ t ∧ t ≤ 9)
  · obtain ⟨hp1, ht1⟩ := h
    have hqq := (hI.k.q p q (by omega) (by omega) (by omega) (by omega)).1
    have hw1 : on_st (on_st σ (2 + 13) ((p * 9) + q) t) (2 + 13) ((q * 9) + p) t 78 = σ 78 := by rw [bst_nc (by decide), bst_nc (by decide)]
    have hw : on_st (on_st (on_st (on_st σ (2 + 13) ((p * 9) + q) t) (2 + 13) ((q * 9) + p) t) 78 ((76 + (9 * p)) + q) t) 78 ((76 + (9 * q)) + p) t 78 = bUp (bUp (σ 78) ((76 + (9 * p)) + q) t) ((76 + (9 * q)) + p) t := by rw [bst_up, bst_up, hw1]
    refine ⟨bQ (σ 78) p q, on_st (on_st σ (2 + 13) ((p * 9) + q) t) (2 + 13) ((q * 9) + p) t, on_st (on_st (on_st (on_st σ (2 + 13) ((p * 9) + q) t) (2 + 13) ((q * 9) + p) t) 78 ((76 + (9 * p)) + q) t) 78 ((76 + (9 * q)) + p) t, ?_, ?_, by omega, ?_⟩
    · unfold pf_X11_anger pf_X3_setQuarrel
      rw [bCl (c_hasTwoMen hI.k hI.r hp hq), bE01, if_pos hp1, bLtF ht (by omega) (by omega), bLeT ht (by omega) (by omega), bCl (c_quarrelOf hI.r (by omega) (by omega) (by omega) (by omega)), bWr (by omega) (by omega), bWr (by omega) (by omega)]; rfl
    · have hk1 : bOk (on_st (on_st σ (2 + 13) ((p * 9) + q) t) (2 + 13) ((q * 9) + p) t 78) := by rw [hw1]; exact hI.k
      unfold pf_X12_anger pf_X12_setQuarrel
      rw [bCl (m_areMen hk1 hp hq), bE01, hw1, if_pos hp1, bCk ht, bCl (m_in' ht (by omega) (by omega)), bE01, if_pos ht1, bCl (m_quarrelOf (by omega) (by omega) (by omega) (by omega)), hw1, bWr (by omega) (by omega), bWr (by omega) (by omega)]; rfl
    · refine hI.qf (((bSw.st (by omega)).tr (bSw.st (by omega))).tr (bSw.st (by omega)) |>.tr (bSw.st (by omega))) ?_ ?_ ?_ ?_ ?_ ?_ ?_
      · rw [hw]; exact (bRg.up (by omega)).tr (bRg.up (by omega))
      · rw [hw]; exact (bRg.up (by omega)).tr (bRg.up (by omega))
      · intro c c2 c25 c8 c15; rw [bst_nc (by omega), bst_nc (by omega), bst_nc (by omega), bst_nc (by omega)]
      · intro a c a0 a1 c0 c1
        have := hI.k.q a c a0 a1 c0 c1
        rw [hw, bQ_up, bQ_up, bQ_up, bQ_up]
        by_cases g : (a = p ∧ c = q) ∨ (a = q ∧ c = p)
        · rcases g with ⟨rfl, rfl⟩ | ⟨rfl, rfl⟩
          · rw [if_pos (show (76 + (9 * c)) + a = (76 + (9 * c)) + a from rfl), if_neg (by omega), if_pos rfl]; exact ⟨ht1, rfl⟩
          · rw [if_pos rfl, if_neg (by omega), if_pos rfl]; exact ⟨ht1, rfl⟩
        · rw [if_neg (by omega), if_neg (by omega), if_neg (by omega), if_neg (by omega)]; exact this
      · rw [hw]; exact hI.k.f.rg ((bRg.up (by omega)).tr (bRg.up (by omega)))
      · intro a c a0 a1 c0 c1
        have := hI.r.q a c a0 a1 c0 c1
        rw [hw, bQ_up, bQ_up, bst_nc (by decide), bst_nc (by decide), bst_if, bst_if]
        by_cases g : (76 + (9 * a)) + c = (76 + (9 * q)) + p
        · rw [if_pos g, if_pos (by omega)]
        · rw [if_neg g, if_neg (by omega)]
          by_cases g2 : (76 + (9 * a)) + c = (76 + (9 * p)) + q
          · rw [if_pos g2, if_pos (by omega)]
          · rw [if_neg g2, if_neg (by omega)]; exact this
      · rw [hw]; exact hI.r.f.rg ((bRg.up (by omega)).tr (bRg.up (by omega))) ((bRg.up (by omega)).tr (bRg.up (by omega))) (by rw [bst_nc (by decide), bst_nc (by decide), bst_nc (by decide), bst_nc (by decide)]) (by rw [bst_nc (by decide), bst_nc (by decide), bst_nc (by decide), bst_nc (by decide)])
  · refine bOp.no (r := -2) hI (by omega) ?_ ?_
    · unfold pf_X11_anger
      rw [bCl (c_hasTwoMen hI.k hI.r hp hq), bE01]
      split
      · by_cases g : t < 0
        · rw [bLtT ht (by omega) g]
        · rw [bLtF ht (by omega) (by omega), bLeF ht (by omega) (by omega)]
      · rfl
    · unfold pf_X12_anger
      rw [bCl (m_areMen hI.k hp hq), bE01]
      split
      · rw [bCk ht, bCl (m_in' ht (by omega) (by omega)), bE01, if_neg (by omega)]
      · rfl
theorem o_truce (hI : bI n σ) (hp : on_R p) (hq : on_R q) (ht : on_R t) : bOp n σ (pf_X11_truce p q t) (pf_X12_truce p q t) := by
  obtain ⟨q0, q1, q2, q3, q4, q5, q6, q7⟩ := hI.k.c
  by_cases h : ((0 ≤ p ∧ p < σ 78 0) ∧ (0 ≤ q ∧ q < σ 78 0) ∧ p ≠ q) ∧ (0 ≤ t ∧ t ≤ 1)
  · obtain ⟨hp1, ht1⟩ := h
    have hqq := hI.k.f p q (by omega) (by omega) (by omega) (by omega)
    have hw1 : on_st (on_st σ (2 + 6) ((p * 4) + q) t) (2 + 6) ((q * 4) + p) t 78 = σ 78 := by rw [bst_nc (by decide), bst_nc (by decide)]
    have hw : on_st (on_st (on_st (on_st σ (2 + 6) ((p * 4) + q) t) (2 + 6) ((q * 4) + p) t) 78 ((157 + (4 * p)) + q) t) 78 ((157 + (4 * q)) + p) t 78 = bUp (bUp (σ 78) ((157 + (4 * p)) + q) t) ((157 + (4 * q)) + p) t := by rw [bst_up, bst_up, hw1]
    refine ⟨bFd (σ 78) p q, on_st (on_st σ (2 + 6) ((p * 4) + q) t) (2 + 6) ((q * 4) + p) t, on_st (on_st (on_st (on_st σ (2 + 6) ((p * 4) + q) t) (2 + 6) ((q * 4) + p) t) 78 ((157 + (4 * p)) + q) t) 78 ((157 + (4 * q)) + p) t, ?_, ?_, by omega, ?_⟩
    · unfold pf_X11_truce pf_X9_setFeud
      rw [bCl (c_hasTwoHouses hI.k hI.r hp hq), bE01, if_pos hp1, bCl (c_isBit ht), bE01, if_pos (by omega), bRd (by omega) (by omega), (hI.r.f p q (by omega) (by omega) (by omega) (by omega)).1, bWr (by omega) (by omega), bWr (by omega) (by omega)]; rfl
    · have hk1 : bOk (on_st (on_st σ (2 + 6) ((p * 4) + q) t) (2 + 6) ((q * 4) + p) t 78) := by rw [hw1]; exact hI.k
      unfold pf_X12_truce pf_X12_truce_36
      rw [bCl (m_areHouses hk1 hp hq), bE01, hw1, if_pos hp1, bCk ht, bCl (m_in' ht (by omega) (by omega)), bE01, if_pos ht1, bCl (m_isFeud hk1 (by omega) (by omega) (by omega) (by omega)), hw1]
      rcases hqq with f | f
      · rw [f, bEqT (by omega) rfl, bWr (by omega) (by omega), bWr (by omega) (by omega)]
      · rw [f, bEqF (by omega) (by omega) (by omega), bWr (by omega) (by omega), bWr (by omega) (by omega)]
    · refine hI.qf (((bSw.st (by omega)).tr (bSw.st (by omega))).tr (bSw.st (by omega)) |>.tr (bSw.st (by omega))) ?_ ?_ ?_ ?_ ?_ ?_ ?_
      · rw [hw]; exact (bRg.up (by omega)).tr (bRg.up (by omega))
      · rw [hw]; exact (bRg.up (by omega)).tr (bRg.up (by omega))
      · intro c c2 c25 c8 c15; rw [bst_nc (by omega), bst_nc (by omega), bst_nc (by omega), bst_nc (by omega)]
      · rw [hw]; exact hI.k.q.rg ((bRg.up (by omega)).tr (bRg.up (by omega)))
      · intro a c a0 a1 c0 c1
        have := hI.k.f a c a0 a1 c0 c1
        rw [hw, bFd_up, bFd_up]
        split
        · omega
        · split
          · omega
          · exact this
      · rw [hw]; exact hI.r.q.rg ((bRg.up (by omega)).tr (bRg.up (by omega))) (by rw [bst_nc (by decide), bst_nc (by decide), bst_nc (by decide), bst_nc (by decide)])
      · intro a c a0 a1 c0 c1
        have := hI.r.f a c a0 a1 c0 c1
        rw [hw, bFd_up, bFd_up, bst_nc (c' := 2 + 6) (by decide), bst_nc (c' := 2 + 6) (by decide), bst_if, bst_if, bst_nc (c' := 2 + 7) (by decide), bst_nc (c' := 2 + 7) (by decide), bst_nc (c' := 2 + 7) (by decide), bst_nc (c' := 2 + 7) (by decide), show bRoad (bUp (bUp (σ 78) ((157 + (4 * p)) + q) t) ((157 + (4 * q)) + p) t) a c = bRoad (σ 78) a c from ((bRg.up (l := 191) (h := 207) (by omega)).tr (bRg.up (by omega))) _ (by omega) (by omega)]
        refine ⟨?_, this.2⟩
        by_cases g : (157 + (4 * a)) + c = (157 + (4 * q)) + p
        · rw [if_pos g, if_pos (by omega)]
        · rw [if_neg g, if_neg (by omega)]
          by_cases g2 : (157 + (4 * a)) + c = (157 + (4 * p)) + q
          · rw [if_pos g2, if_pos (by omega)]
          · rw [if_neg g2, if_neg (by omega)]; exact this.1
  · refine bOp.no (r := -2) hI (by omega) ?_ ?_
    · unfold pf_X11_truce
      rw [bCl (c_hasTwoHouses hI.k hI.r hp hq), bE01]
      split
      · rw [bCl (c_isBit ht), bE01, if_neg (by omega)]
      · rfl
    · unfold pf_X12_truce
      rw [bCl (m_areHouses hI.k hp hq), bE01]
      split
      · rw [bCk ht, bCl (m_in' ht (by omega) (by omega)), bE01, if_neg (by omega)]
      · rfl
end O37
