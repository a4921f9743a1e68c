/-! B: all the rows of a net, laid down -/
theorem bLen_row {m : Int} (h0 : 0 ≤ m) (h9 : m ≤ 9) : (bL0 (fun _ => true) m 0).length ≤ 3024 := by
  have e := (bPerm (ok := fun _ => true) (m := m)).length_eq
  have f := bLen_flat (B := 8) (f := bOrb) ((bL0 (fun _ => true) m 0).filter bCan) (fun _ _ => by unfold bOrb; simp)
  have g : ((bL0 (fun _ => true) m 0).filter bCan).length ≤ 378 := by
    rw [bTabl_any h0 h9]
    unfold bTabl
    have := List.length_filter_le (bPre m) (on_rowsT.map bDec)
    rw [List.length_map, bRows_len] at this
    exact this
  omega
section O65
variable {σ : on_S} {w : bW}
/-- the rows that a net may stand with: one that is empty where it needs none -/
def bGr (w : bW) (k : Int) : List bQd := if k < w 4 ∧ bNeed w k ≠ 0 then (bL0 (fun _ => true) (w 3) 0).filter (fun r => decide (bNeed w k ≤ bVal w k (bNet w k 0) (bNet w k 2) r)) else [(-1, -1, -1, -1)]
theorem m_layRows (hk : bOk w) (hw : σ 78 = w) {k : Int} (k0 : 0 ≤ k) (k2 : k < 2) (hn : on_R (bNeed w k)) : ∃ σ' : on_S, pf_X12_layRows k σ = some (0, σ') ∧ (∀ c, c ≠ 77 → c ≠ 84 → c ≠ 87 → c ≠ 88 → c ≠ 89 → c ≠ 90 → σ' c = σ c) ∧ (∀ i, i ≠ 18 → σ' 77 i = σ 77 i) ∧ σ' 90 k = ((bGr w k).length : Int) ∧ (∀ i, i ≠ k → σ' 90 i = σ 90 i) ∧ (∀ i, (i < 3100 * k ∨ 3100 * k + 3100 ≤ i) → σ' 87 i = σ 87 i ∧ σ' 89 i = σ 89 i ∧ ∀ c : Int, 0 ≤ c → c < 4 → σ' 88 (4 * i + c) = σ 88 (4 * i + c)) ∧ bLaid w σ' (bGr w k) (3100 * k) := by
  have q4 := hk.c.2.2.2.2.1
  have hm := hk.c.2.2.2.1
  -- none
  have E : ¬ (k < w 4 ∧ bNeed w k ≠ 0) → ∃ σ' : on_S, pf_X12_layRows_26 k 0 (on_st σ 90 k 0) = some (0, σ') ∧ (∀ c, c ≠ 77 → c ≠ 84 → c ≠ 87 → c ≠ 88 → c ≠ 89 → c ≠ 90 → σ' c = σ c) ∧ (∀ i, i ≠ 18 → σ' 77 i = σ 77 i) ∧ σ' 90 k = ((bGr w k).length : Int) ∧ (∀ i, i ≠ k → σ' 90 i = σ 90 i) ∧ (∀ i, (i < 3100 * k ∨ 3100 * k + 3100 ≤ i) → σ' 87 i = σ 87 i ∧ σ' 89 i = σ 89 i ∧ ∀ c : Int, 0 ≤ c → c < 4 → σ' 88 (4 * i + c) = σ 88 (4 * i + c)) ∧ bLaid w σ' (bGr w k) (3100 * k) := by
    intro hno
    have eg : bGr w k = [(-1, -1, -1, -1)] := by unfold bGr; rw [if_neg hno]
    have e84 : ∀ i : Int, 0 ≤ i → i < 4 → on_st (on_st (on_st (on_st (on_st σ 90 k 0) 84 0 (-1)) 84 1 (-1)) 84 2 (-1)) 84 3 (-1) 84 i = -1 := by
      intro i i0 i4
      rw [bst_if]; split
      · rfl
      · rw [bst_if]; split
        · rfl
        · rw [bst_if]; split
          · rfl
          · rw [bst_if, if_pos (by omega)]
    have fr : ∀ c, c ≠ 84 → on_st (on_st (on_st (on_st (on_st σ 90 k 0) 84 0 (-1)) 84 1 (-1)) 84 2 (-1)) 84 3 (-1) c = on_st σ 90 k 0 c := fun c hc => by rw [bst_nc hc, bst_nc hc, bst_nc hc, bst_nc hc]
    generalize hT : on_st (on_st (on_st (on_st (on_st σ 90 k 0) 84 0 (-1)) 84 1 (-1)) 84 2 (-1)) 84 3 (-1) = T at e84 fr
    have t78 : T 78 = w := by rw [fr 78 (by omega), bst_nc (by omega)]; exact hw
    have t90 : ∀ i, T 90 i = if i = k then 0 else σ 90 i := fun i => by rw [fr 90 (by omega), bst_if]
    have t90k : T 90 k = 0 := by rw [t90, if_pos rfl]
    have po : bPo (T 78) (T 84) := fun c c0 c4 => Or.inl (e84 c c0 c4)
    obtain ⟨σ1, l1, l2, l3, l4, l5, l6⟩ := m_layRow (σ := T) (by rw [t78]; exact hk) po k0 k2 (by omega) (by omega)
    rw [t90k] at l3 l4 l5 l6
    refine ⟨σ1, ?_, fun c h7 h84 h87 h88 h89 h90 => by rw [l2 c h87 h88 h89 h90, fr c h84, bst_nc h90], fun i hi => by rw [l2 77 (by omega) (by omega) (by omega) (by omega), fr 77 (by omega), bst_nc (by omega)], by rw [l6, if_pos rfl, eg]; rfl, fun i hi => by rw [l6, if_neg hi, t90, if_neg hi], fun i hi => ⟨by rw [l3, if_neg (by omega), fr 87 (by omega), bst_nc (by omega)], by rw [l5, if_neg (by omega), fr 89 (by omega), bst_nc (by omega)], fun c c0 c4 => by rw [l4, if_neg (by omega), fr 88 (by omega), bst_nc (by omega)]⟩, ?_⟩
    · unfold pf_X12_layRows_26
      rw [bEqT (by omega) rfl, show on_N = 99995 + 1 + 1 + 1 + 1 + 1 from rfl, pf_X12_layRows_33, bLtT (by omega) (by omega) (by omega), bWr (by omega) (by omega), pf_X12_layRows_33, bLtT (by omega) (by omega) (by omega), bWr (by omega) (by omega), pf_X12_layRows_33, bLtT (by omega) (by omega) (by omega), bWr (by omega) (by omega), pf_X12_layRows_33, bLtT (by omega) (by omega) (by omega), bWr (by omega) (by omega), pf_X12_layRows_33, bLtF (by omega) (by omega) (by omega), show (0 : Int) + 1 = 1 from rfl, show (1 : Int) + 1 = 2 from rfl, show (2 : Int) + 1 = 3 from rfl, hT, bCl l1]
    · rw [eg]
      have p0 := e84 0 (by omega) (by omega)
      have p1 := e84 1 (by omega) (by omega)
      have p2 := e84 2 (by omega) (by omega)
      have p3 := e84 3 (by omega) (by omega)
      refine ⟨⟨?_, fun c c0 c4 => ?_, ?_⟩, trivial⟩
      · rw [l3, if_pos (by omega)]; unfold bMk; rw [p0, p1, p2, p3]; rfl
      · rw [l4, if_pos (by omega), show 4 * (3100 * k) + c - 4 * (3100 * k + 0) = c by omega, e84 c c0 c4]
        have d : c = 0 ∨ c = 1 ∨ c = 2 ∨ c = 3 := by omega
        rcases d with d | d | d | d <;> subst d <;> rfl
      · rw [l5, if_pos (by omega), t78]; unfold bQs bPq; rw [p0, p1, p2, p3]; rfl
  unfold pf_X12_layRows
  rw [bWr k0 (by omega), bRd (by omega) (by omega), bst_nc (by omega), hw]
  by_cases h4 : k < w 4
  · rw [bLtT (by omega) (by omega) h4, bCl (m_needOf (by rw [bst_nc (by omega), hw]; exact hk) k0 (by rw [bst_nc (by omega), hw]; exact h4)), bst_nc (by omega), hw]
    by_cases z : bNeed w k = 0
    · rw [z]; exact E (fun t => t.2 z)
    · have eg : bGr w k = (bL0 (fun _ => true) (w 3) 0).filter (fun r => decide (bNeed w k ≤ bVal w k (bNet w k 0) (bNet w k 2) r)) := by unfold bGr; rw [if_pos ⟨h4, z⟩]
      have e1 : bL0 (bOkS w 15) (w 3) 0 = bL0 (fun _ => true) (w 3) 0 := bL0_congr (fun x x0 x1 => bOkS15 hk x0 x1)
      obtain ⟨v, σ2, b1, b2, b3⟩ := m_firstRow (σ := on_st (on_st σ 90 k 0) 77 18 15) (w := w) (S := 15) hk (by rw [bst_nc (by omega), bst_nc (by omega)]; exact hw) bst_eq
      rw [e1] at b3
      have ll := bLen_row (m := w 3) hm.1 hm.2
      have s90 : ∀ i, σ2 90 i = if i = k then 0 else σ 90 i := fun i => by rw [b2 90 (by omega), bst_nc (by omega), bst_if]
      have s90k : σ2 90 k = 0 := by rw [s90, if_pos rfl]
      obtain ⟨σ3, c1, c2, c3, c4, c5, c6⟩ := m_layLoop hk k0 h4 hn _ on_N v σ2 b3 (by unfold on_N; omega) (by omega) (by omega)
      rw [s90k] at c3 c5 c6
      rw [show 3100 * k + 0 = 3100 * k by omega] at c5 c6
      refine ⟨σ3, ?_, fun c h7 h84 h87 h88 h89 h90 => by rw [c2 c h84 h87 h88 h89 h90, b2 c h84, bst_nc h7, bst_nc h90], fun i hi => by rw [c2 77 (by omega) (by omega) (by omega) (by omega) (by omega), b2 77 (by omega), bst_ni hi, bst_nc (by omega)], by rw [c3, eg]; omega, fun i hi => by rw [c4 i hi, s90, if_neg hi], fun i hi => ?_, by rw [eg]; exact c6⟩
      · unfold pf_X12_layRows_26 pf_X12_allHouses
        rw [bEqF hn (by omega) z, bCl (show (some (15, on_st σ 90 k 0) : Option on_O) = some (15, on_st σ 90 k 0) from rfl), bPt, bCl b1, c1]
      · obtain ⟨x1, x2, x3⟩ := c5 i hi
        refine ⟨by rw [x1, b2 87 (by omega), bst_nc (by omega), bst_nc (by omega)], by rw [x2, b2 89 (by omega), bst_nc (by omega), bst_nc (by omega)], fun c c0 c4 => by rw [x3 c c0 c4, b2 88 (by omega), bst_nc (by omega), bst_nc (by omega)]⟩
  · rw [bLtF (by omega) (by omega) (by omega)]
    exact E (fun t => h4 t.1)
end O65
