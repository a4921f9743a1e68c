/-! B: undo; the tape -/
/-- the knots of a net as the row of a jump has them -/
def bKb (w : bW) (N k : Int) : bW := fun i => if ((62 + (7 * N)) + 3) ≤ i ∧ i < ((62 + (7 * N)) + 7) then bJp w k (4 + (i - ((62 + (7 * N)) + 3))) else w i
section O45
variable {n : Nat} {σ : on_S} {p q t : Int}
theorem o_undo (hI : bI n σ) : bOp n σ pf_X11_undo pf_X12_undo := by
  obtain ⟨q0, q1, q2, q3, q4, q5, q6, q7⟩ := hI.k.c
  have ecnt := hI.r.c.2.2.2.2.2.2.2
  by_cases h : 0 < σ 78 7
  · by_cases z : σ 78 6 = 0
    · refine bOp.no (r := -5) hI (by omega) ?_ ?_
      · unfold pf_X11_undo
        rw [bCl (c_isThere hI.k hI.r), bE01, if_pos h, bGt, ecnt, bLtT (by omega) (by omega) (by omega)]
      · unfold pf_X12_undo
        rw [bCl (m_isStreet hI.k), bE01, if_pos h, bRd (by omega) (by omega), bEqT (by omega) z]
    · have hP := hI.k.p (σ 78 6 - 1) (by omega) (by omega)
      obtain ⟨e1, e2, e3⟩ := hI.r.p (σ 78 6 - 1) (by omega) (by omega)
      have hj := hP.1
      have hnt := hP.2.2.2.1
      generalize hN : bJp (σ 78) (σ 78 6 - 1) 3 = N at hnt
      have kx : bKx (σ 78) (bKb (σ 78) N (σ 78 6 - 1)) := by
        intro i h1 h2
        unfold bKb
        rw [if_neg (by omega)]
      have knet : ∀ m c, 0 ≤ c → c < 4 → bNet (bKb (σ 78) N (σ 78 6 - 1)) m (3 + c) = if m = N then bJp (σ 78) (σ 78 6 - 1) (4 + c) else bNet (σ 78) m (3 + c) := by
        intro m c c0 c1
        show bKb (σ 78) N (σ 78 6 - 1) ((62 + (7 * m)) + (3 + c)) = _
        unfold bKb
        by_cases e : m = N
        · rw [if_pos (by omega), if_pos e]; congr 1; omega
        · rw [if_neg (by omega), if_neg e]; rfl
      have kk : bOk (bKb (σ 78) N (σ 78 6 - 1)) := by
        refine kx.ok hI.k (fun m m0 m1 c c0 c1 => ?_)
        rw [knet m c c0 c1]
        split
        · exact hP.2.2.2.2 c c0 c1
        · exact (hI.k.n m m0 m1).2.2.2 c c0 c1
      have k6 : bKb (σ 78) N (σ 78 6 - 1) 6 = σ 78 6 := kx 6 (by omega) (by omega)
      have lo : bLo (bKb (σ 78) N (σ 78 6 - 1)) (bUp (bKb (σ 78) N (σ 78 6 - 1)) 6 (σ 78 6 - 1)) := fun i _ h2 => bUp_ne h2
      have kP : bOkP (bUp (bKb (σ 78) N (σ 78 6 - 1)) 6 (σ 78 6 - 1)) := by
        intro i i0 i1
        rw [bUp_eq] at i1
        have hi := kk.p i i0 (by rw [k6]; omega)
        have er : ∀ a, 0 ≤ a → bJp (bUp (bKb (σ 78) N (σ 78 6 - 1)) 6 (σ 78 6 - 1)) i a = bJp (bKb (σ 78) N (σ 78 6 - 1)) i a := fun a a0 => bUp_ne (by omega)
        rw [er 0 (by omega), er 1 (by omega), er 2 (by omega), er 3 (by omega), bUp_ne (show (5 : Int) ≠ 6 by omega), bUp_ne (show (4 : Int) ≠ 6 by omega), lo.netAt kk.c, show bWin (bUp (bKb (σ 78) N (σ 78 6 - 1)) 6 (σ 78 6 - 1)) (bJp (bKb (σ 78) N (σ 78 6 - 1)) i 0) = bWin (bKb (σ 78) N (σ 78 6 - 1)) (bJp (bKb (σ 78) N (σ 78 6 - 1)) i 0) from bUp_ne (by omega)]
        refine ⟨hi.1, hi.2.1, hi.2.2.1, hi.2.2.2.1, fun c c0 c1 => ?_⟩
        rw [er (4 + c) (by omega)]
        exact hi.2.2.2.2 c c0 c1
      have okU : bOk (bUp (bKb (σ 78) N (σ 78 6 - 1)) 6 (σ 78 6 - 1)) := lo.ok kk (by rw [bUp_eq]; omega) kP
      -- the class
      have r1 : bRp 2 (bKb (σ 78) N (σ 78 6 - 1)) (on_cp σ (2 + 23) ((σ 78 6 - 1) * 4) (2 + 18) (N * 4) 4) := by
        refine kx.rp hI.k hI.r (fun c c2 c25 c20 => bcp_nc c20) (fun m c m0 m1 c0 c1 => ?_)
        rw [bcp_if, knet m c c0 c1]
        by_cases e : m = N
        · rw [if_pos (by omega), if_pos e, show (σ 78 6 - 1) * 4 + ((m * 4) + c - N * 4) = (σ 78 6 - 1) * 4 + c by omega]
          exact e3 c c0 c1
        · rw [if_neg (by omega), if_neg e]
          exact (hI.r.n m m0 m1).2.2.2 c c0 c1
      have r2 : bRp 2 (bUp (bKb (σ 78) N (σ 78 6 - 1)) 6 (σ 78 6 - 1)) (on_st (on_cp σ (2 + 23) ((σ 78 6 - 1) * 4) (2 + 18) (N * 4) 4) (2 + 20) 0 (σ 78 6 - 1)) := by
        refine lo.rp kk r1 (fun c c2 c21 => bst_nc (by omega)) (by rw [bst_eq, bUp_eq]) (fun i i0 i1 => ?_)
        rw [bUp_eq] at i1
        obtain ⟨f1, f2, f3⟩ := r1.p i i0 (by rw [k6]; omega)
        have er : ∀ a, 0 ≤ a → bJp (bUp (bKb (σ 78) N (σ 78 6 - 1)) 6 (σ 78 6 - 1)) i a = bJp (bKb (σ 78) N (σ 78 6 - 1)) i a := fun a a0 => bUp_ne (by omega)
        rw [er 0 (by omega), er 2 (by omega), bst_nc (by omega), bst_nc (by omega), bst_nc (by omega)]
        refine ⟨f1, f2, fun c c0 c1 => ?_⟩
        rw [er (4 + c) (by omega)]
        exact f3 c c0 c1
      have w1 : on_st (on_cp σ (2 + 23) ((σ 78 6 - 1) * 4) (2 + 18) (N * 4) 4) (2 + 20) 0 (σ 78 6 - 1) 78 = σ 78 := by rw [bst_nc (by omega), bcp_nc (by omega)]
      have hk1 : bOk (on_st (on_cp σ (2 + 23) ((σ 78 6 - 1) * 4) (2 + 18) (N * 4) 4) (2 + 20) 0 (σ 78 6 - 1) 78) := by rw [w1]; exact hI.k
      -- the reference
      have L : ∀ (r nf : Nat) (k : Int) (σ' : on_S), 0 ≤ k → k + (r : Int) = 4 → r < nf → (∀ c, c ≠ 78 → σ' c = on_st (on_cp σ (2 + 23) ((σ 78 6 - 1) * 4) (2 + 18) (N * 4) 4) (2 + 20) 0 (σ 78 6 - 1) c) → (∀ i, σ' 78 i = if i = 6 then σ 78 6 - 1 else if ((62 + (7 * N)) + 3) ≤ i ∧ i < ((62 + (7 * N)) + 3) + k then bJp (σ 78) (σ 78 6 - 1) (4 + (i - ((62 + (7 * N)) + 3))) else σ 78 i) → ∃ σ'' : on_S, pf_X12_undo_51 nf (207 + (8 * (σ 78 6 - 1))) k σ' = some (σ 78 6 - 1, σ'') ∧ σ'' 78 = bUp (bKb (σ 78) N (σ 78 6 - 1)) 6 (σ 78 6 - 1) ∧ ∀ c, c ≠ 78 → σ'' c = on_st (on_cp σ (2 + 23) ((σ 78 6 - 1) * 4) (2 + 18) (N * 4) 4) (2 + 20) 0 (σ 78 6 - 1) c := by
        intro r
        induction r with
        | zero =>
          intro nf k σ' k0 hk hnf h1 h2
          cases nf with
          | zero => omega
          | succ nf =>
            refine ⟨σ', ?_, ?_, h1⟩
            · rw [pf_X12_undo_51, bLtF (by omega) (by omega) (by omega), bRd (by omega) (by omega), h2 6, if_pos rfl]
            · funext i
              rw [h2]
              unfold bUp bKb
              by_cases e : i = 6
              · rw [if_pos e, if_pos e]
              · rw [if_neg e, if_neg e]
                by_cases g : ((62 + (7 * N)) + 3) ≤ i ∧ i < ((62 + (7 * N)) + 7)
                · rw [if_pos (by omega), if_pos g]
                · rw [if_neg (by omega), if_neg g]
        | succ r ih =>
          intro nf k σ' k0 hk hnf h1 h2
          cases nf with
          | zero => omega
          | succ nf =>
            have f3 : σ' 78 (207 + (8 * (σ 78 6 - 1)) + 3) = N := by
              rw [h2, if_neg (by omega), if_neg (by omega)]
              exact hN
            have f4 : σ' 78 (207 + (8 * (σ 78 6 - 1)) + 4 + k) = bJp (σ 78) (σ 78 6 - 1) (4 + k) := by
              rw [h2, if_neg (by omega), if_neg (by omega)]
              unfold bJp; congr 1; omega
            rw [pf_X12_undo_51, bLtT (by omega) (by omega) (by omega), bRd (by omega) (by omega), bRd (by omega) (by omega), f3, f4, bWr (by omega) (by omega)]
            refine ih nf (k + 1) _ (by omega) (by omega) (by omega) (fun c hc => by rw [bst_nc hc]; exact h1 c hc) (fun i => ?_)
            rw [bst_if]
            by_cases e : i = ((62 + (7 * N)) + 3) + k
            · rw [if_pos e, if_neg (by omega), if_pos (by omega), e]; congr 1; omega
            · rw [if_neg e, h2]
              by_cases g6 : i = 6
              · rw [if_pos g6, if_pos g6]
              · rw [if_neg g6, if_neg g6]
                by_cases g : ((62 + (7 * N)) + 3) ≤ i ∧ i < ((62 + (7 * N)) + 3) + k
                · rw [if_pos g, if_pos (by omega)]
                · rw [if_neg g, if_neg (by omega)]
      obtain ⟨σ2, b1, b2, b3⟩ := L 4 on_N 0 (on_st (on_st (on_cp σ (2 + 23) ((σ 78 6 - 1) * 4) (2 + 18) (N * 4) 4) (2 + 20) 0 (σ 78 6 - 1)) 78 6 (σ 78 6 - 1)) (by omega) (by omega) (by unfold on_N; omega) (fun c hc => bst_nc hc) (fun i => by
        rw [bst_if, w1]
        by_cases e : i = 6
        · rw [if_pos e, if_pos e]
        · rw [if_neg e, if_neg e, if_neg (by omega)])
      refine ⟨σ 78 6 - 1, on_st (on_cp σ (2 + 23) ((σ 78 6 - 1) * 4) (2 + 18) (N * 4) 4) (2 + 20) 0 (σ 78 6 - 1), σ2, ?_, ?_, by omega, ?_⟩
      · unfold pf_X11_undo pf_X11_undo_88
        rw [bCl (c_isThere hI.k hI.r), bE01, if_pos h, bGt, ecnt, bLtF (by omega) (by omega) (by omega), bRd (by omega) (by omega), e1, bCl (c_netBelow hI.k hI.r hj.1 hj.2), ← hnt.1, bEqF (by omega) (by omega) (by omega), bCp (by omega) (by omega) (by omega) (by omega) (by omega), bPt]
      · unfold pf_X12_undo
        rw [bCl (m_isStreet hk1), bE01, w1, if_pos h, bRd (by omega) (by omega), w1, bEqF (by omega) (by omega) z, bRd (by omega) (by omega), w1, bWr (by omega) (by omega), bRd (by omega) (by omega), bst_eq]
        exact b1
      · refine hI.sw ⟨fun c hc h2 h3 => ?_, ?_, ?_, ?_⟩ (by rw [b2]; exact okU) ?_
        · rw [b3 c h3, bst_nc (by omega), bcp_nc (by omega)]
        · rw [b3 77 (by omega), bst_nc (by omega), bcp_nc (by omega)]
        · rw [b3 77 (by omega), bst_nc (by omega), bcp_nc (by omega)]
        · rw [b3 77 (by omega), bst_nc (by omega), bcp_nc (by omega)]
        · rw [b2]; exact r2.to fun k hk => b3 _ (by omega)
  · refine bOp.no (r := -2) hI (by omega) ?_ ?_
    · unfold pf_X11_undo
      rw [bCl (c_isThere hI.k hI.r), bE01, if_neg h]
    · unfold pf_X12_undo
      rw [bCl (m_isStreet hI.k), bE01, if_neg h]
/-! the tape -/
/-- only the tape, or only slots, are made otherwise -/
theorem bI.tape {σ' : on_S} (hI : bI n σ) (h : ∀ c, c ≠ 0 → c ≠ 1 → c ≠ 77 → c ≠ 81 → c ≠ 82 → σ' c = σ c) (ht : bTp σ') : bI n σ' := by
  have w := h 78 (by omega) (by omega) (by omega) (by omega) (by omega)
  refine ⟨by rw [w]; exact hI.k, by rw [w]; exact hI.r.to fun k hk => h _ (by omega) (by omega) (by omega) (by omega) (by omega), ht, ?_, ?_, ?_⟩
  · intro s hs4
    rw [h (69 + 2 * s) (by omega) (by omega) (by omega) (by omega) (by omega), h (69 + 2 * s + 1) (by omega) (by omega) (by omega) (by omega) (by omega), h 96 (by omega) (by omega) (by omega) (by omega) (by omega), h 97 (by omega) (by omega) (by omega) (by omega) (by omega), h 98 (by omega) (by omega) (by omega) (by omega) (by omega)]
    exact hI.s s hs4
  · obtain ⟨j, h1, h2, h3⟩ := hI.i
    have e : ∀ k, bImg σ' k = bImg σ k := fun k => by unfold bImg; rw [h 79 (by omega) (by omega) (by omega) (by omega) (by omega)]
    refine ⟨j, h1, fun k hk => ?_, fun k k' => ?_⟩
    · rw [h 53 (by omega) (by omega) (by omega) (by omega) (by omega), h 80 (by omega) (by omega) (by omega) (by omega) (by omega), e]
      rcases h2 k hk with a | ⟨a, i, i1, i2, i3, i4⟩
      · exact Or.inl a
      · exact Or.inr ⟨a, i, i1, i2, i3, i4.to fun q hq => h _ (by omega) (by omega) (by omega) (by omega) (by omega)⟩
    · rw [h 53 (by omega) (by omega) (by omega) (by omega) (by omega)]; exact h3 k k'
  · intro i hi
    rw [h 56 (by omega) (by omega) (by omega) (by omega) (by omega)]
    exact hI.o i hi
theorem o_end (hI : bI n σ) (hp : on_R p) : bOp n σ (pf_X11_end p) (pf_X12_end p) := by
  obtain ⟨t1, t2, t3, t4, t5, t6, t7⟩ := hI.t
  by_cases h : 0 ≤ p ∧ p ≤ σ 77 5
  · refine ⟨p, on_st σ 0 1 p, on_st (on_st σ 0 1 p) 77 5 p, ?_, ?_, hp, ?_⟩
    · unfold pf_X11_end
      rw [bLtF hp (by omega) (by omega), bGt, t1, bLeT hp (by omega) h.2, bPt]
    · unfold pf_X12_end
      rw [bCk hp, bGt, bst_nc (by omega), bCk (by omega), bCl (m_in' hp (by omega) (by omega)), bE01, if_pos h, bPt]
    · refine hI.tape (fun c c0 c1 c7 c8 c9 => by rw [bst_nc c7, bst_nc c0]) ⟨?_, ?_, ?_, ?_, ?_, ?_, ?_⟩
      · rw [bst_nc (by omega), bst_eq, bst_eq]
      · rw [bst_eq]; omega
      · intro i i0 i1
        rw [bst_nc (by omega), bst_nc (by omega), bst_nc (by omega), bst_nc (by omega)]; exact t3 i i0 i1
      · rw [bst_nc (by omega), bst_nc (by omega), bst_ni (by omega), bst_nc (by omega)]; exact t4
      · rw [bst_nc (by omega), bst_nc (by omega), bst_ni (by omega), bst_nc (by omega)]; exact t5
      · rw [bst_ni (by omega), bst_nc (by omega)]; exact t6
      · rw [bst_ni (by omega), bst_nc (by omega)]; exact t7
  · refine bOp.no (r := -1) hI (by omega) ?_ ?_
    · unfold pf_X11_end
      by_cases g : p < 0
      · rw [bLtT hp (by omega) g]
      · rw [bLtF hp (by omega) (by omega), bGt, t1, bLeF hp (by omega) (by omega)]
    · unfold pf_X12_end
      rw [bCk hp, bGt, bCk (by omega), bCl (m_in' hp (by omega) (by omega)), bE01, if_neg h]
theorem on_ib_b (a : Int) : -128 ≤ on_ib a ∧ on_ib a < 128 := by
  unfold on_ib
  rw [Int8.toInt_toInt32]
  exact ⟨Int8.le_toInt _, Int8.toInt_lt _⟩
theorem on_ib_ib (a : Int) : on_ib (on_ib a) = on_ib a := by
  unfold on_ib
  rw [on_ti, Int8.toInt8_toInt32]
/-- twenty bytes of five numbers -/
def bBy (a b c d e : Int) (k : Int) : Int := on_ib (on_shr (if k / 4 = 0 then a else if k / 4 = 1 then b else if k / 4 = 2 then c else if k / 4 = 3 then d else e) (24 - 8 * (k % 4)))
theorem c_putNumber {v T : Int} (h0 : σ 0 1 = T) (T0 : 0 ≤ T) (T1 : T ≤ 1396) : ∃ σ' : on_S, pf_X11_putNumber v σ = some (0, σ') ∧ σ' 0 1 = T + 4 ∧ (∀ i, σ' 1 i = if T ≤ i ∧ i < T + 4 then on_ib (on_shr v (24 - 8 * (i - T))) else σ 1 i) ∧ (∀ c, c ≠ 0 → c ≠ 1 → σ' c = σ c) := by
  have L : ∀ (r nf : Nat) (k : Int) (σ' : on_S), 0 ≤ k → k + (r : Int) = 4 → r < nf → σ' 0 1 = T + k → (∀ i, σ' 1 i = if T ≤ i ∧ i < T + k then on_ib (on_shr v (24 - 8 * (i - T))) else σ 1 i) → (∀ c, c ≠ 0 → c ≠ 1 → σ' c = σ c) → ∃ σ'' : on_S, pf_X11_putNumber_3 nf v (24 - 8 * k) σ' = some (0, σ'') ∧ σ'' 0 1 = T + 4 ∧ (∀ i, σ'' 1 i = if T ≤ i ∧ i < T + 4 then on_ib (on_shr v (24 - 8 * (i - T))) else σ 1 i) ∧ (∀ c, c ≠ 0 → c ≠ 1 → σ'' c = σ c) := by
    intro r
    induction r with
    | zero =>
      intro nf k σ' k0 hk hnf h1 h2 h3
      cases nf with
      | zero => omega
      | succ nf =>
        have : k = 4 := by omega
        subst this
        exact ⟨σ', by rw [pf_X11_putNumber_3, bLtT (by omega) (by omega) (by omega)], h1, h2, h3⟩
    | succ r ih =>
      intro nf k σ' k0 hk hnf h1 h2 h3
      cases nf with
      | zero => omega
      | succ nf =>
        rw [pf_X11_putNumber_3, bLtF (by omega) (by omega) (by omega), bGt, h1, bLtT (by omega) (by omega) (by omega), bGt, h1, bWr (by omega) (by omega), bGt, bst_nc (by omega), h1, bPt, on_ib_ib, show 24 - 8 * k + (-8) = 24 - 8 * (k + 1) by omega]
        refine ih nf (k + 1) _ (by omega) (by omega) (by omega) (by rw [bst_eq]; omega) (fun i => ?_) (fun c c0 c1 => by rw [bst_nc c0, bst_nc c1]; exact h3 c c0 c1)
        rw [bst_nc (by omega), bst_if]
        by_cases e : i = T + k
        · rw [if_pos e, if_pos (by omega), e, show T + k - T = k by omega]
        · rw [if_neg e, h2]
          by_cases g : T ≤ i ∧ i < T + k
          · rw [if_pos g, if_pos (by omega)]
          · rw [if_neg g, if_neg (by omega)]
  obtain ⟨σ'', a1, a2, a3, a4⟩ := L 4 on_N 0 σ (by omega) (by omega) (by unfold on_N; omega) (by omega) (fun i => by rw [if_neg (by omega)]) (fun _ _ _ => rfl)
  exact ⟨σ'', a1, a2, a3, a4⟩
theorem o_feed {a b c d e : Int} (hI : bI n σ) : bOp n σ (pf_X11_feed a b c d e) (pf_X12_feed a b c d e) := by
  obtain ⟨t1, t2, t3, t4, t5, t6, t7⟩ := hI.t
  by_cases h : σ 77 5 + 20 ≤ 1400
  · obtain ⟨s1, a1, a2, a3, a4⟩ := c_putNumber (σ := σ) (v := a) (T := σ 77 5) t1 t2.1 (by omega)
    obtain ⟨s2, b1, b2, b3, b4⟩ := c_putNumber (σ := s1) (v := b) (T := σ 77 5 + 4) a2 (by omega) (by omega)
    obtain ⟨s3, c1, c2, c3, c4⟩ := c_putNumber (σ := s2) (v := c) (T := σ 77 5 + 4 + 4) b2 (by omega) (by omega)
    obtain ⟨s4, d1, d2, d3, d4⟩ := c_putNumber (σ := s3) (v := d) (T := σ 77 5 + 4 + 4 + 4) c2 (by omega) (by omega)
    obtain ⟨s5, e1, e2, e3, e4⟩ := c_putNumber (σ := s4) (v := e) (T := σ 77 5 + 4 + 4 + 4 + 4) d2 (by omega) (by omega)
    have fr : ∀ x, x ≠ 0 → x ≠ 1 → s5 x = σ x := fun x x0 x1 => by rw [e4 x x0 x1, d4 x x0 x1, c4 x x0 x1, b4 x x0 x1, a4 x x0 x1]
    have tp : ∀ i, s5 1 i = if σ 77 5 ≤ i ∧ i < σ 77 5 + 20 then bBy a b c d e (i - σ 77 5) else σ 1 i := by
      intro i
      rw [e3, d3, c3, b3, a3]
      unfold bBy
      by_cases g : σ 77 5 ≤ i ∧ i < σ 77 5 + 20
      · rw [if_pos g]
        by_cases g4 : σ 77 5 + 16 ≤ i
        · rw [if_pos (by omega), if_neg (by omega), if_neg (by omega), if_neg (by omega), if_neg (by omega)]; congr 2; omega
        · rw [if_neg (by omega)]
          by_cases g3 : σ 77 5 + 12 ≤ i
          · rw [if_pos (by omega), if_neg (by omega), if_neg (by omega), if_neg (by omega), if_pos (by omega)]; congr 2; omega
          · rw [if_neg (by omega)]
            by_cases g2 : σ 77 5 + 8 ≤ i
            · rw [if_pos (by omega), if_neg (by omega), if_neg (by omega), if_pos (by omega)]; congr 2; omega
            · rw [if_neg (by omega)]
              by_cases g1 : σ 77 5 + 4 ≤ i
              · rw [if_pos (by omega), if_neg (by omega), if_pos (by omega)]; congr 2; omega
              · rw [if_neg (by omega), if_pos (by omega), if_pos (by omega)]; congr 2; omega
      · rw [if_neg g, if_neg (by omega), if_neg (by omega), if_neg (by omega), if_neg (by omega), if_neg (by omega)]
    have byb : ∀ k, -128 ≤ bBy a b c d e k ∧ bBy a b c d e k < 128 := fun k => on_ib_b _
    -- the reference
    have L : ∀ (r nf : Nat) (k : Int) (σ' : on_S), 0 ≤ k → k + (r : Int) = 20 → r < nf → (∀ x, x ≠ 77 → x ≠ 81 → x ≠ 82 → σ' x = s5 x) → σ' 77 = σ 77 → (σ' 82 0 = a ∧ σ' 82 1 = b ∧ σ' 82 2 = c ∧ σ' 82 3 = d ∧ σ' 82 4 = e) → (∀ i, σ' 81 i = if σ 77 5 ≤ i ∧ i < σ 77 5 + k then bBy a b c d e (i - σ 77 5) else σ 81 i) → ∃ σ'' : on_S, pf_X12_feed_55 nf k σ' = some (σ 77 5 + 20, σ'') ∧ (∀ x, x ≠ 77 → x ≠ 81 → x ≠ 82 → σ'' x = s5 x) ∧ σ'' 77 5 = σ 77 5 + 20 ∧ (∀ i, i ≠ 5 → σ'' 77 i = σ 77 i) ∧ (∀ i, σ'' 81 i = if σ 77 5 ≤ i ∧ i < σ 77 5 + 20 then bBy a b c d e (i - σ 77 5) else σ 81 i) := by
      intro r
      induction r with
      | zero =>
        intro nf k σ' k0 hk hnf h1 h2 h3 h4
        cases nf with
        | zero => omega
        | succ nf =>
          have : k = 20 := by omega
          subst this
          refine ⟨on_st σ' 77 5 (σ 77 5 + 20), ?_, fun x x1 x2 x3 => by rw [bst_nc x1]; exact h1 x x1 x2 x3, bst_eq, fun i hi => by rw [bst_ni hi, h2], fun i => by rw [bst_nc (by omega)]; exact h4 i⟩
          rw [pf_X12_feed_55, bLtF (by omega) (by omega) (by omega), bGt, bPt, bGt, bst_eq, h2]
      | succ r ih =>
        intro nf k σ' k0 hk hnf h1 h2 h3 h4
        cases nf with
        | zero => omega
        | succ nf =>
          have five : σ' 82 (k / 4) = (if k / 4 = 0 then a else if k / 4 = 1 then b else if k / 4 = 2 then c else if k / 4 = 3 then d else e) := by
            obtain ⟨v0, v1, v2, v3, v4⟩ := h3
            have : k / 4 = 0 ∨ k / 4 = 1 ∨ k / 4 = 2 ∨ k / 4 = 3 ∨ k / 4 = 4 := by omega
            rcases this with g | g | g | g | g
            · rw [g, v0, if_pos rfl]
            · rw [g, v1, if_neg (by omega), if_pos rfl]
            · rw [g, v2, if_neg (by omega), if_neg (by omega), if_pos rfl]
            · rw [g, v3, if_neg (by omega), if_neg (by omega), if_neg (by omega), if_pos rfl]
            · rw [g, v4, if_neg (by omega), if_neg (by omega), if_neg (by omega), if_neg (by omega)]
          have hby : on_ib (on_shr (σ' 82 (k / 4)) (24 - 8 * (k % 4))) = bBy a b c d e k := by rw [five]; rfl
          rw [pf_X12_feed_55, bLtT (by omega) (by omega) (by omega), bGt, h2, bDv k0 (by omega) (by omega) (by omega), bRd (by omega) (by omega), bRm k0 (by omega) (by omega) (by omega), bWr (by omega) (by omega), on_ib_ib, hby]
          refine ih nf (k + 1) _ (by omega) (by omega) (by omega) (fun x x1 x2 x3 => by rw [bst_nc x2]; exact h1 x x1 x2 x3) (by rw [bst_nc (by omega)]; exact h2) (by rw [bst_nc (by omega)]; exact h3) (fun i => ?_)
          rw [bst_if]
          by_cases g : i = σ 77 5 + k
          · rw [if_pos g, if_pos (by omega), g, show σ 77 5 + k - σ 77 5 = k by omega]
          · rw [if_neg g, h4]
            by_cases y : σ 77 5 ≤ i ∧ i < σ 77 5 + k
            · rw [if_pos y, if_pos (by omega)]
            · rw [if_neg y, if_neg (by omega)]
    obtain ⟨σ2, m1, m2, m3, m4, m5⟩ := L 20 on_N 0 (on_st (on_st (on_st (on_st (on_st s5 82 0 a) 82 1 b) 82 2 c) 82 3 d) 82 4 e) (by omega) (by omega) (by unfold on_N; omega) (fun x _ _ x3 => by rw [bst_nc x3, bst_nc x3, bst_nc x3, bst_nc x3, bst_nc x3]) (by rw [bst_nc (by omega), bst_nc (by omega), bst_nc (by omega), bst_nc (by omega), bst_nc (by omega), fr 77 (by omega) (by omega)]) ⟨by rw [bst_ni (by omega), bst_ni (by omega), bst_ni (by omega), bst_ni (by omega), bst_eq], by rw [bst_ni (by omega), bst_ni (by omega), bst_ni (by omega), bst_eq], by rw [bst_ni (by omega), bst_ni (by omega), bst_eq], by rw [bst_ni (by omega), bst_eq], bst_eq⟩ (fun i => by rw [bst_nc (by omega), bst_nc (by omega), bst_nc (by omega), bst_nc (by omega), bst_nc (by omega), fr 81 (by omega) (by omega), if_neg (by omega)])
    refine ⟨σ 77 5 + 20, s5, σ2, ?_, ?_, by omega, ?_⟩
    · unfold pf_X11_feed
      rw [bGt, t1, bLeT (by omega) (by omega) h, bCl a1, bCl b1, bCl c1, bCl d1, bCl e1, bGt, e2]
      congr 2; omega
    · unfold pf_X12_feed
      rw [bGt, fr 77 (by omega) (by omega), bLeT (by omega) (by omega) h, bWr (by omega) (by omega), bWr (by omega) (by omega), bWr (by omega) (by omega), bWr (by omega) (by omega), bWr (by omega) (by omega)]
      exact m1
    · refine hI.tape (fun x x0 x1 x2 x3 x4 => by rw [m2 x x2 x3 x4, fr x x0 x1]) ⟨?_, ?_, ?_, ?_, ?_, ?_, ?_⟩
      · rw [m2 0 (by omega) (by omega) (by omega), e2, m3]; omega
      · rw [m3]; omega
      · intro i i0 i1
        rw [m5, m2 1 (by omega) (by omega) (by omega), tp]
        by_cases g : σ 77 5 ≤ i ∧ i < σ 77 5 + 20
        · rw [if_pos g, if_pos g]; exact ⟨rfl, byb _⟩
        · rw [if_neg g, if_neg g]; exact t3 i i0 i1
      · rw [m2 52 (by omega) (by omega) (by omega), fr 52 (by omega) (by omega), m4 12 (by omega)]; exact t4
      · rw [m2 52 (by omega) (by omega) (by omega), fr 52 (by omega) (by omega), m4 13 (by omega)]; exact t5
      · rw [m4 12 (by omega)]; exact t6
      · rw [m4 13 (by omega)]; exact t7
  · refine bOp.no (r := -1) hI (by omega) ?_ ?_
    · unfold pf_X11_feed
      rw [bGt, t1, bLeF (by omega) (by omega) (by omega)]
    · unfold pf_X12_feed
      rw [bGt, bLeF (by omega) (by omega) (by omega)]
end O45
