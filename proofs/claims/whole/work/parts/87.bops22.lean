/-! B: street -/
section O87
variable {T : Int → Int} {n : Nat} {σ τ σc σm σc' σm' : on_S}
theorem l_loop : ∀ (r nfc nfm : Nat) (l2 : Int) (σc σm : on_S), bLk T σc σm → (0 ≤ l2 ∧ l2 ≤ 1400) → (σm 77 12 = 0 → bDr (σm 83) σc ∧ (σm 83 7 = 0 → ∀ i, 0 ≤ i → i < 687 → σm 83 i = 0) ∧ σm 83 7 ≤ σm 77 9 ∧ l2 = σm 83 7 ∧ 1400 ≤ σm 83 7 + (r : Int)) → r < nfc → r < nfm → ∃ σc' σm' : on_S, pf_X6_readStreet_41 nfc l2 σc = some (0, σc') ∧ pf_X12_street_54 nfm σm = pf_X12_street_75 σm' ∧ bLk T σc' σm' ∧ (∀ c, (c < 27 ∨ 52 < c) → σc' c = σc c) ∧ (∀ c, c ≠ 77 → c ≠ 83 → σm' c = σm c) ∧ (∀ i, (i < 8 ∨ 13 < i) → σm' 77 i = σm 77 i) ∧ (σm' 77 12 = 0 → bDr (σm' 83) σc') := by
  intro r
  induction r with
  | zero =>
    intro nfc nfm l2 σc σm h hl hg hc hm
    cases nfc with
    | zero => omega
    | succ nfc =>
    cases nfm with
    | zero => omega
    | succ nfm =>
      have e8 := h.2.2.2.1
      refine ⟨σc, σm, ?_, ?_, h, fun _ _ => rfl, fun _ _ _ => rfl, fun _ _ => rfl, fun t => (hg t).1⟩
      · rw [pf_X6_readStreet_41]
        by_cases z : σm 77 12 = 0
        · have g := hg z
          rw [bLtF (by omega) (by omega) (by omega)]
        · by_cases y : l2 < 1400
          · rw [bLtT (by omega) (by omega) y, bGt, bEqF (by omega) (by omega) (by omega)]
          · rw [bLtF (by omega) (by omega) (by omega)]
      · rw [pf_X12_street_54, bCl (m_good e8.2), bE01]
        by_cases z : σm 77 12 = 0
        · have g := hg z
          obtain ⟨⟨g1, g2, g3⟩, ⟨g4, g5, g6⟩, g7, g8⟩ := h.2.2.2.2.2.2 z
          have kb := h.2.2.2.2.2.1.1
          have n14 := h.2.1.2
          have k0 : σm 77 10 = 0 := by
            by_cases k : σm 77 10 = 0
            · exact k
            · have := g7 k; omega
          rw [if_pos z, bGt, bEqT (by omega) k0]
        · rw [if_neg z]
  | succ r ih =>
    intro nfc nfm l2 σc σm h hl hg hc hm
    cases nfc with
    | zero => omega
    | succ nfc =>
    cases nfm with
    | zero => omega
    | succ nfm =>
      have e8 := h.2.2.2.1
      by_cases z : σm 77 12 = 0
      · obtain ⟨d1, d2, d3, d4, d5⟩ := hg z
        obtain ⟨⟨g1, g2, g3⟩, ⟨g4, g5, g6⟩, g7, g8⟩ := h.2.2.2.2.2.2 z
        have kb := h.2.2.2.2.2.1.1
        have n14 := h.2.1.2
        have w7 := d1.k.c.2.2.2.2.2.2.2
        rw [pf_X6_readStreet_41, pf_X12_street_54, bCl (m_good e8.2), if_pos z, bEqF (by omega) (by omega) (by omega)]
        by_cases k : σm 77 10 = 0
        · refine ⟨σc, σm, ?_, by rw [bGt, bEqT (by omega) k], h, fun _ _ => rfl, fun _ _ _ => rfl, fun _ _ => rfl, fun t => (hg t).1⟩
          by_cases y : l2 < 1400
          · rw [bLtT (by omega) (by omega) y, bGt, bEqT (by omega) (by omega), bGt, bEqT (by omega) (by omega)]
          · rw [bLtF (by omega) (by omega) (by omega)]
        · have lt := g7 k
          obtain ⟨σ1, τ1, a1, a2, a3, a4, a5, a6, a7⟩ := l_line h z d1 d2 d3
          obtain ⟨σ2, τ2, b1, b2, b3, b4, b5, b6, b7⟩ := ih nfc nfm (l2 + 1) σ1 τ1 a3 (by omega) (fun t => by
            obtain ⟨c1, c2, c3⟩ := a7 t
            exact ⟨c1, fun e => by omega, c3, by omega, by omega⟩) (by omega) (by omega)
          refine ⟨σ2, τ2, ?_, by rw [bGt, bEqF (by omega) (by omega) k, bCl a2, b2], b3, fun c hc => by rw [b4 c hc, a4 c hc], fun c h7 h8 => by rw [b5 c h7 h8, a5 c h7 h8], fun i hi => by rw [b6 i hi, a6 i hi], b7⟩
          rw [bLtT (by omega) (by omega) (by omega), bGt, bEqT (by omega) (by omega), bGt, bEqF (by omega) (by omega) (by omega), bCl a1, b1]
      · refine ⟨σc, σm, ?_, ?_, h, fun _ _ => rfl, fun _ _ _ => rfl, fun _ _ => rfl, fun t => absurd t z⟩
        · rw [pf_X6_readStreet_41]
          by_cases y : l2 < 1400
          · rw [bLtT (by omega) (by omega) y, bGt, bEqF (by omega) (by omega) (by omega)]
          · rw [bLtF (by omega) (by omega) (by omega)]
        · rw [pf_X12_street_54, bCl (m_good e8.2), bE01, if_neg z]
/-- the reference begins with nothing -/
theorem m_zero83 : ∀ (r nf : Nat) (k : Int) (σ : on_S), 0 ≤ k → k + (r : Int) = 687 → r < nf → (∀ i, 0 ≤ i → i < k → σ 83 i = 0) → ∃ σ' : on_S, pf_X12_street_30 nf k σ = (on_Cl (pf_X12_advance σ') fun _ σ9 => pf_X12_street_54 on_N σ9) ∧ (∀ c, c ≠ 83 → σ' c = σ c) ∧ ∀ i, 0 ≤ i → i < 687 → σ' 83 i = 0 := by
  intro r
  induction r with
  | zero =>
    intro nf k σ k0 hk hnf h
    cases nf with
    | zero => omega
    | succ nf => exact ⟨σ, by rw [pf_X12_street_30, bLtF (by omega) (by omega) (by omega)], fun _ _ => rfl, fun i i0 i1 => h i i0 (by omega)⟩
  | succ r ih =>
    intro nf k σ k0 hk hnf h
    cases nf with
    | zero => omega
    | succ nf =>
      obtain ⟨σ', a, b, c⟩ := ih nf (k + 1) (on_st σ 83 k 0) (by omega) (by omega) (by omega) (fun i i0 i1 => by
        rw [bst_if]; split
        · rfl
        · exact h i i0 (by omega))
      exact ⟨σ', by rw [pf_X12_street_30, bLtT (by omega) (by omega) (by omega), bWr k0 (by omega), a], fun c hc => by rw [b c hc, bst_nc hc], c⟩
/-- what was read becomes the street -/
theorem m_copy87 : ∀ (r nf : Nat) (k : Int) (σ : on_S), 0 ≤ k → k + (r : Int) = 687 → r < nf → (∀ i, 0 ≤ i → i < k → σ 78 i = σ 83 i) → ∃ σ' : on_S, pf_X12_street_87 nf k σ = some (σ 83 7, σ') ∧ (∀ c, c ≠ 78 → σ' c = σ c) ∧ ∀ i, 0 ≤ i → i < 687 → σ' 78 i = σ 83 i := by
  intro r
  induction r with
  | zero =>
    intro nf k σ k0 hk hnf h
    cases nf with
    | zero => omega
    | succ nf => exact ⟨σ, by rw [pf_X12_street_87, bLtF (by omega) (by omega) (by omega), bRd (by omega) (by omega), h 7 (by omega) (by omega)], fun _ _ => rfl, fun i i0 i1 => h i i0 (by omega)⟩
  | succ r ih =>
    intro nf k σ k0 hk hnf h
    cases nf with
    | zero => omega
    | succ nf =>
      obtain ⟨σ', a, b, c⟩ := ih nf (k + 1) (on_st σ 78 k (σ 83 k)) (by omega) (by omega) (by omega) (fun i i0 i1 => by
        rw [bst_if, bst_nc (by omega)]; split
        · rename_i e; rw [e]
        · exact h i i0 (by omega))
      rw [bst_nc (by omega)] at a c
      exact ⟨σ', by rw [pf_X12_street_87, bLtT (by omega) (by omega) (by omega), bRd k0 (by omega), bWr k0 (by omega), a], fun c hc => by rw [b c hc, bst_nc hc], c⟩
/-- the first token -/
theorem k_first (h1 : σc 1 = T) (h2 : bTx T σm) (h3 : σc 52 2 = σm 77 7) (h3' : 0 ≤ σm 77 7) (ha : σc 52 3 = 0 ∧ σm 77 8 = 0) (hf : σc 52 8 = 0 ∧ σm 77 12 = 0) (hp : σc 52 9 = -1 ∧ σm 77 13 = -1) : ∃ σc' σm' : on_S, pf_X6_readToken σc = some (0, σc') ∧ pf_X12_advance σm = some (0, σm') ∧ bLk T σc' σm' ∧ (∀ c, c ≠ 52 → σc' c = σc c) ∧ (∀ c, c ≠ 77 → σm' c = σm c) ∧ (∀ i, (i < 8 ∨ 13 < i) → σm' 77 i = σm 77 i) ∧ σm' 77 12 = 0 := by
  have n14 := h2.2
  obtain ⟨σc', a1, a2, a3, a4, a5, a6, a7, a8⟩ := c_readToken (σ := σc) (fun i i0 i1 => by rw [h1]; exact (h2.1 i i0 i1).2) (by omega) (by omega) (by omega)
  obtain ⟨σm', b1, b2, b3, b4, b5, b6, b7⟩ := m_advance (σ := σm) h2 (by omega) (by omega)
  rw [h1, h3, ha.1] at a4 a5 a6 a8
  rw [ha.2] at b4 b5 b6 b7
  have jb := bJt_b (T := T) (show (0 : Int) ≤ σm 77 7 by omega)
  have kb := bKd_b T (σm 77 7) (bJt T (σm 77 7) 0)
  have ab := bAf_b (T := T) jb.2
  have kn : bKd T (σm 77 7) (bJt T (σm 77 7) 0) ≠ 0 → bJt T (σm 77 7) 0 < σm 77 7 := by
    intro k
    by_cases l : bJt T (σm 77 7) 0 < σm 77 7
    · exact l
    · exact absurd (by unfold bKd; rw [if_pos (by omega)]) k
  have e7 := b3 7 (by omega) (by omega) (by omega) (by omega)
  have e12 := b3 12 (by omega) (by omega) (by omega) (by omega)
  have e13 := b3 13 (by omega) (by omega) (by omega) (by omega)
  have c2 := a3 2 (by omega) (by omega) (by omega) (by omega)
  have c8 := a3 8 (by omega) (by omega) (by omega) (by omega)
  have c9 := a3 9 (by omega) (by omega) (by omega) (by omega)
  refine ⟨σc', σm', a1, b1, ⟨by rw [a2 1 (by omega)]; exact h1, h2.to (b2 81 (by omega)) e7, ⟨by omega, by omega⟩, ⟨by omega, by omega⟩, ⟨by omega, by omega⟩, ⟨by omega, a7, by omega⟩, fun _ => ⟨⟨by omega, by omega, by omega⟩, ⟨by omega, by omega, by omega⟩, fun k => ?_, fun k => ?_⟩⟩, a2, b2, fun i hi => b3 i (by omega) (by omega) (by omega) (by omega), by omega⟩
  · have := ab.2 (kn (by omega)); omega
  · have k' := b7 k
    have k2 := a8 (by omega)
    have two := bVl_two T (σm 77 7 - bJt T (σm 77 7) 0).toNat (bJt T (σm 77 7) 0) 0 0 (by omega) (by omega)
    have vb := bVl_b (cap := 99999) (by omega) T (σm 77 7 - bJt T (σm 77 7) 0).toNat (bJt T (σm 77 7) 0) 0 (by omega) (by omega)
    rw [k', k2]
    exact ⟨two, vb⟩
/-- both read a street, each in its own world -/
theorem l_street (hI : bI n σ) (h8 : τ 81 = σ 81) (h7 : τ 77 5 = σ 77 5) : ∃ σc' σm' : on_S, pf_X6_readStreet (σ 0 1) σ = some (0, σc') ∧ pf_X12_street τ = pf_X12_street_75 σm' ∧ bLk (σ 1) σc' σm' ∧ (∀ c, (c < 27 ∨ 52 < c) → σc' c = σ c) ∧ (∀ c, c ≠ 77 → c ≠ 83 → σm' c = τ c) ∧ σm' 77 5 = 0 ∧ (σm' 77 12 = 0 → bDr (σm' 83) σc') := by
  obtain ⟨t1, t2, t3, t4, t5, t6, t7⟩ := hI.t
  -- the class, till its draft is clear
  have s52 : on_st (on_st (on_st (on_st σ 52 2 (σ 77 5)) 52 3 0) 52 8 0) 52 9 (-1) 52 2 = σ 77 5 := by rw [bst_ni (by omega), bst_ni (by omega), bst_ni (by omega), bst_eq]
  have s53 : on_st (on_st (on_st (on_st σ 52 2 (σ 77 5)) 52 3 0) 52 8 0) 52 9 (-1) 52 3 = 0 := by rw [bst_ni (by omega), bst_ni (by omega), bst_eq]
  have s58 : on_st (on_st (on_st (on_st σ 52 2 (σ 77 5)) 52 3 0) 52 8 0) 52 9 (-1) 52 8 = 0 := by rw [bst_ni (by omega), bst_eq]
  have s59 : on_st (on_st (on_st (on_st σ 52 2 (σ 77 5)) 52 3 0) 52 8 0) 52 9 (-1) 52 9 = -1 := bst_eq
  have sc : ∀ c, c ≠ 52 → on_st (on_st (on_st (on_st σ 52 2 (σ 77 5)) 52 3 0) 52 8 0) 52 9 (-1) c = σ c := fun c hc => by rw [bst_nc hc, bst_nc hc, bst_nc hc, bst_nc hc]
  -- the reference, till its draft is clear
  have r7 : on_st (on_st (on_st (on_st (on_st τ 77 7 (σ 77 5)) 77 5 0) 77 8 0) 77 12 0) 77 13 (-1) 77 7 = σ 77 5 := by rw [bst_ni (by omega), bst_ni (by omega), bst_ni (by omega), bst_ni (by omega), bst_eq]
  have r5 : on_st (on_st (on_st (on_st (on_st τ 77 7 (σ 77 5)) 77 5 0) 77 8 0) 77 12 0) 77 13 (-1) 77 5 = 0 := by rw [bst_ni (by omega), bst_ni (by omega), bst_ni (by omega), bst_eq]
  have r8 : on_st (on_st (on_st (on_st (on_st τ 77 7 (σ 77 5)) 77 5 0) 77 8 0) 77 12 0) 77 13 (-1) 77 8 = 0 := by rw [bst_ni (by omega), bst_ni (by omega), bst_eq]
  have r12 : on_st (on_st (on_st (on_st (on_st τ 77 7 (σ 77 5)) 77 5 0) 77 8 0) 77 12 0) 77 13 (-1) 77 12 = 0 := by rw [bst_ni (by omega), bst_eq]
  have r13 : on_st (on_st (on_st (on_st (on_st τ 77 7 (σ 77 5)) 77 5 0) 77 8 0) 77 12 0) 77 13 (-1) 77 13 = -1 := bst_eq
  have rc : ∀ c, c ≠ 77 → on_st (on_st (on_st (on_st (on_st τ 77 7 (σ 77 5)) 77 5 0) 77 8 0) 77 12 0) 77 13 (-1) c = τ c := fun c hc => by rw [bst_nc hc, bst_nc hc, bst_nc hc, bst_nc hc, bst_nc hc]
  have C : pf_X6_readStreet (σ 0 1) σ = on_Cl (pf_X9_clear 27 (on_st (on_st (on_st (on_st σ 52 2 (σ 77 5)) 52 3 0) 52 8 0) 52 9 (-1))) fun _ σ7 => on_Cl (pf_X6_readToken σ7) fun _ σ9 => pf_X6_readStreet_41 on_N 0 σ9 := by
    unfold pf_X6_readStreet
    rw [t1, bMn (by omega) (by omega), show min (σ 77 5) ((1400 : Nat) : Int) = σ 77 5 by omega, bPt, bPt, bPt, bPt]
  have M : pf_X12_street τ = pf_X12_street_30 on_N 0 (on_st (on_st (on_st (on_st (on_st τ 77 7 (σ 77 5)) 77 5 0) 77 8 0) 77 12 0) 77 13 (-1)) := by
    unfold pf_X12_street
    rw [bGt, h7, bPt, bPt, bPt, bPt, bPt]
  rw [C, M]
  generalize on_st (on_st (on_st (on_st σ 52 2 (σ 77 5)) 52 3 0) 52 8 0) 52 9 (-1) = S at *
  generalize on_st (on_st (on_st (on_st (on_st τ 77 7 (σ 77 5)) 77 5 0) 77 8 0) 77 12 0) 77 13 (-1) = R at *
  obtain ⟨R1, a1, a2, a3⟩ := m_zero83 687 on_N 0 R (by omega) (by omega) (by unfold on_N; omega) (fun i i0 i1 => by omega)
  obtain ⟨S1, b1, b2, b3⟩ := c_clear (b := 27) (σ := S) (w := R1 83) a3
  have x52 : S1 52 = S 52 := b2 52 (by omega)
  have x77 : R1 77 = R 77 := a2 77 (by omega)
  obtain ⟨S2, R2, c1, c2, c3, c4, c5, c6, c7⟩ := k_first (T := σ 1) (σc := S1) (σm := R1) (by rw [b2 1 (by omega)]; exact sc 1 (by omega)) ⟨fun i i0 i1 => by rw [a2 81 (by omega), rc 81 (by omega), h8]; exact t3 i i0 i1, by rw [x77, r7]; omega⟩ (by rw [x52, x77, s52, r7]) (by rw [x77, r7]; omega) ⟨by rw [x52, s53], by rw [x77, r8]⟩ ⟨by rw [x52, s58], by rw [x77, r12]⟩ ⟨by rw [x52, s59], by rw [x77, r13]⟩
  have e83 : R2 83 = R1 83 := c5 83 (by omega)
  have z7 := a3 7 (by omega) (by omega)
  have d0 : bDr (R2 83) S2 := by
    rw [e83]
    exact ⟨bOk_zero a3, b3.to fun k hk => c4 _ (by omega), a3 6 (by omega) (by omega)⟩
  have tk := (c3.2.2.2.2.2.2 c7).2.1
  obtain ⟨S3, R3, e1, e2, e3, e4, e5, e6, e7⟩ := l_loop 1400 on_N on_N 0 S2 R2 c3 (by omega) (fun _ => ⟨d0, fun _ i i0 i1 => by rw [e83]; exact a3 i i0 i1, by rw [e83]; omega, by rw [e83]; omega, by rw [e83]; omega⟩) (by unfold on_N; omega) (by unfold on_N; omega)
  refine ⟨S3, R3, by rw [bCl b1, bCl c1, e1], by rw [a1, bCl c2, e2], e3, fun c hc => by rw [e4 c hc, c4 c (by omega), b2 c (by omega), sc c (by omega)], fun c h7 h8 => by rw [e5 c h7 h8, c5 c h7, a2 c h8, rc c h7], by rw [e6 5 (by omega), c6 5 (by omega), x77, r5], e7⟩
theorem bI.read {Z : on_S} (hI : bI n σ) (h : ∀ c, c ≠ 0 → ¬ (2 ≤ c ∧ c ≤ 52) → c ≠ 77 → c ≠ 78 → c ≠ 83 → Z c = σ c) (ht : bTp Z) (hk : bOk (Z 78)) (hr : bRp 2 (Z 78) Z) : bI n Z := by
  refine ⟨hk, hr, ht, ?_, ?_, ?_⟩
  · intro s hs4
    rw [h (69 + 2 * s) (by omega) (by omega) (by omega) (by omega) (by omega), h (69 + 2 * s + 1) (by omega) (by omega) (by omega) (by omega) (by omega), h 96 (by omega) (by omega) (by omega) (by omega) (by omega), h 97 (by omega) (by omega) (by omega) (by omega) (by omega), h 98 (by omega) (by omega) (by omega) (by omega) (by omega)]
    exact hI.s s hs4
  · obtain ⟨j, h1, h2, h3⟩ := hI.i
    have e : ∀ k, bImg Z k = bImg σ k := fun k => by unfold bImg; rw [h 79 (by omega) (by omega) (by omega) (by omega) (by omega)]
    refine ⟨j, h1, fun k hk => ?_, fun k k' => ?_⟩
    · rw [h 53 (by omega) (by omega) (by omega) (by omega) (by omega), h 80 (by omega) (by omega) (by omega) (by omega) (by omega), e]
      rcases h2 k hk with a | ⟨a, i, i1, i2, i3, i4⟩
      · exact Or.inl a
      · exact Or.inr ⟨a, i, i1, i2, i3, i4.to fun q hq => h _ (by omega) (by omega) (by omega) (by omega) (by omega)⟩
    · rw [h 53 (by omega) (by omega) (by omega) (by omega) (by omega)]; exact h3 k k'
  · intro i hi
    rw [h 56 (by omega) (by omega) (by omega) (by omega) (by omega)]
    exact hI.o i hi
theorem o_street (hI : bI n σ) : bOp n σ pf_X11_street pf_X12_street := by
  obtain ⟨t1, t2, t3, t4, t5, t6, t7⟩ := id hI.t
  obtain ⟨S, R, a1, a2, a3, a4, a5, a6, a7⟩ := l_street (τ := σ) hI rfl rfl
  have e8 := a3.2.2.2.1
  have s4c : ∀ c, c ≠ 0 → on_st S 0 1 0 c = S c := fun c h => bst_nc h
  have s01 : on_st S 0 1 0 0 1 = 0 := bst_eq
  -- what holds in the end, of any state of the class that has read
  have fin : ∀ F : on_S, (∀ c, c ≠ 0 → (c < 2 ∨ 26 < c) → F c = S c) → F 0 1 = 0 → ∃ R' : on_S, pf_X12_street F = pf_X12_street_75 R' ∧ bLk (σ 1) S R' ∧ (∀ c, c ≠ 77 → c ≠ 83 → R' c = F c) ∧ R' 77 5 = 0 ∧ (R' 77 12 = 0 → bDr (R' 83) S) := by
    intro F hF _
    obtain ⟨S', R', b1, b2, b3, b4, b5, b6, b7⟩ := l_street (τ := F) hI (by rw [hF 81 (by omega) (by omega), a4 81 (by omega)]) (by rw [hF 77 (by omega) (by omega), a4 77 (by omega)])
    have eS : S' = S := (Prod.mk.inj (Option.some.inj (a1.symm.trans b1))).2.symm
    subst eS
    exact ⟨R', b2, b3, b5, b6, b7⟩
  have tp : ∀ Z R' : on_S, bLk (σ 1) S R' → Z 0 1 = 0 → Z 77 = R' 77 → R' 77 5 = 0 → Z 1 = σ 1 → Z 81 = σ 81 → Z 52 = S 52 → bTp Z := by
    intro Z R' hl z0 z77 r5 z1 z81 z52
    unfold bTp
    rw [z0, z77, r5, z1, z81, z52]
    exact ⟨rfl, by omega, t3, hl.2.2.2.1.1, hl.2.2.2.2.1.1, hl.2.2.2.1.2, hl.2.2.2.2.1.2⟩
  by_cases good : S 52 8 = 0
  · -- read, and taken over
    have hdA : bDr (R 83) (on_st S 0 1 0) := (a7 (by omega)).to fun c c0 c1 => s4c c (by omega)
    obtain ⟨F, f1, f2, f3⟩ := c_copyFrom (b := 2) hdA.k (by omega) (by omega) hdA.r
    have fS : ∀ c, c ≠ 0 → (c < 2 ∨ 26 < c) → F c = S c := fun c h0 hc => by rw [f2 c (by omega), s4c c h0]
    have F01 : F 0 1 = 0 := by rw [f2 0 (by omega)]; exact s01
    obtain ⟨R', b1, b2, b3, b4, b5⟩ := fin F fS F01
    have g12 : R' 77 12 = 0 := by have := b2.2.2.2.1.1; omega
    have hdB := b5 g12
    have hdB' : bDr (R' 83) (on_st S 0 1 0) := hdB.to fun c c0 c1 => s4c c (by omega)
    obtain ⟨F', g1, g2, g3⟩ := c_copyFrom (b := 2) hdB'.k (by omega) (by omega) hdB'.r
    have eF : F' = F := (Prod.mk.inj (Option.some.inj (f1.symm.trans g1))).2.symm
    subst eF
    obtain ⟨Z, z1, z2, z3⟩ := m_copy87 687 on_N 0 R' (by omega) (by omega) (by unfold on_N; omega) (fun i i0 i1 => by omega)
    have w7 := hdB.k.c.2.2.2.2.2.2.2
    have rg : bRg (R' 83) (Z 78) 0 687 := fun i i0 i1 => z3 i i0 i1
    have Zc : ∀ c, c ≠ 77 → c ≠ 78 → c ≠ 83 → Z c = F' c := fun c h7 h8 h83 => by rw [z2 c h8, b3 c h7 h83]
    refine ⟨R' 83 7, F', Z, ?_, ?_, by omega, ?_⟩
    · unfold pf_X11_street
      rw [bGt, bCl a1, bPt, bGt, bst_nc (by omega), bEqT (by omega) good, bCl f1, bGt, g3.c.2.2.1]
    · rw [b1]
      unfold pf_X12_street_75
      rw [bCl (m_good (by omega)), if_pos g12, bEqF (by omega) (by omega) (by omega), z1]
    · refine hI.read (fun c h0 h2 h77 h78 h83 => by rw [Zc c h77 h78 h83, fS c h0 (by omega), a4 c (by omega)]) (tp Z R' b2 (by rw [Zc 0 (by omega) (by omega) (by omega)]; exact F01) (z2 77 (by omega)) b4 (by rw [Zc 1 (by omega) (by omega) (by omega), fS 1 (by omega) (by omega), a4 1 (by omega)]) (by rw [Zc 81 (by omega) (by omega) (by omega), fS 81 (by omega) (by omega), a4 81 (by omega)]) (by rw [Zc 52 (by omega) (by omega) (by omega), fS 52 (by omega) (by omega)])) (hdB.k.all rg) ?_
      exact (bRp.all hdB.k g3 rg).to fun k hk => Zc _ (by omega) (by omega) (by omega)
  · obtain ⟨R', b1, b2, b3, b4, b5⟩ := fin (on_st S 0 1 0) (fun c h0 _ => s4c c h0) s01
    have g12 : R' 77 12 ≠ 0 := by have := b2.2.2.2.1.1; omega
    have b8 := b2.2.2.2.1.2
    refine ⟨-4, on_st S 0 1 0, R', ?_, ?_, by omega, ?_⟩
    · unfold pf_X11_street
      rw [bGt, bCl a1, bPt, bGt, bst_nc (by omega), bEqF (by omega) (by omega) good]
    · rw [b1]
      unfold pf_X12_street_75
      rw [bCl (m_good b8), if_neg g12, bEqT (by omega) rfl]
    · have e78 : R' 78 = σ 78 := by rw [b3 78 (by omega) (by omega), s4c 78 (by omega), a4 78 (by omega)]
      refine hI.read (fun c h0 h2 h77 h78 h83 => by rw [b3 c h77 h83, s4c c h0, a4 c (by omega)]) (tp R' R' b2 (by rw [b3 0 (by omega) (by omega)]; exact s01) rfl b4 (by rw [b3 1 (by omega) (by omega), s4c 1 (by omega), a4 1 (by omega)]) (by rw [b3 81 (by omega) (by omega), s4c 81 (by omega), a4 81 (by omega)]) (by rw [b3 52 (by omega) (by omega), s4c 52 (by omega)])) (by rw [e78]; exact hI.k) ?_
      rw [e78]
      exact hI.r.to fun k hk => by rw [b3 _ (by omega) (by omega), s4c _ (by omega), a4 _ (by omega)]
end O87
