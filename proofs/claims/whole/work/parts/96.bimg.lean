/-! B: back and image -/
section O96
variable {n : Nat} {σ : on_S} {p : Int}
theorem m_back29 {p : Int} (hp : 0 ≤ p ∧ p < 3) : ∀ (r nf : Nat) (k : Int) (σ : on_S), 0 ≤ k → k + (r : Int) = 687 → r < nf → (∀ i, 0 ≤ i → i < k → σ 78 i = σ 79 (687 * p + i)) → ∃ σ' : on_S, pf_X12_back_29 nf p k σ = some (0, σ') ∧ (∀ c, c ≠ 78 → σ' c = σ c) ∧ ∀ i, 0 ≤ i → i < 687 → σ' 78 i = σ 79 (687 * p + i) := by
  intro r
  induction r with
  | zero =>
    intro nf k σ k0 hk hnf h
    cases nf with
    | zero => omega
    | succ nf => exact ⟨σ, by rw [pf_X12_back_29, bLtF (by omega) (by omega) (by omega)], fun _ _ => rfl, fun i i0 i1 => h i i0 (by omega)⟩
  | succ r ih =>
    intro nf k σ k0 hk hnf h
    cases nf with
    | zero => omega
    | succ nf =>
      obtain ⟨σ', a, b, c⟩ := ih nf (k + 1) (on_st σ 78 k (σ 79 (687 * p + k))) (by omega) (by omega) (by omega) (fun i i0 i1 => by
        rw [bst_if, bst_nc (by omega)]; split
        · rename_i e; rw [e]
        · exact h i i0 (by omega))
      rw [bst_nc (by omega)] at c
      exact ⟨σ', by rw [pf_X12_back_29, bLtT (by omega) (by omega) (by omega), bRd (by omega) (by omega), bWr k0 (by omega), a], fun c hc => by rw [b c hc, bst_nc hc], c⟩
theorem bTp.to {Z : on_S} (h : bTp σ) (e : ∀ c, c = 0 ∨ c = 77 ∨ c = 81 ∨ c = 1 ∨ c = 52 → Z c = σ c) : bTp Z := by
  unfold bTp at *
  rw [e 0 (by omega), e 77 (by omega), e 81 (by omega), e 1 (by omega), e 52 (by omega)]
  exact h
theorem o_back (hI : bI n σ) (hp : on_R p) : bOp n σ (pf_X11_back n p) (pf_X12_back p) := by
  by_cases h : 0 ≤ p ∧ p ≤ 2
  · obtain ⟨j, hn, him, -⟩ := hI.i
    have hk := him p.toNat (by omega)
    have ep : ((p.toNat : Nat) : Int) = p := by omega
    unfold bImg at hk
    rw [ep] at hk
    have hx : pf_X11_back n p σ = (if σ 53 p = 0 then some ((-6), σ) else if on_SbB n (σ 53 p).toNat = true then on_Cl (pf_X9_copyFrom 2 (σ 53 p).toNat σ) (fun _ σ2 => some (0, σ2)) else none) := by
      unfold pf_X11_back on_Im
      rw [bLtF hp (by omega) (by omega), bLtT hp (by omega) (by omega), if_pos (by omega)]
    have hy : ∀ F : on_S, pf_X12_back p F = on_Rd F 80 3 p fun v3 => on_Eq v3 0 (some ((-6), F)) (pf_X12_back_29 on_N p 0 F) := by
      intro F
      unfold pf_X12_back
      rw [bCk hp, bCl (m_in' hp (by omega) (by omega)), bE01, if_pos h]
    rcases hk with ⟨e1, e2⟩ | ⟨e2, i, hi, e1, ko, kr⟩
    · refine bOp.no (r := -6) hI (by omega) ?_ ?_
      · rw [hx, if_pos e1]
      · rw [hy, bRd (by omega) (by omega), bEqT (by omega) e2]
    · obtain ⟨F, f1, f2, f3⟩ := c_copyFrom (b := 2) ko (by omega) (by omega) kr
      obtain ⟨Z, z1, z2, z3⟩ := m_back29 (p := p) (by omega) 687 on_N 0 F (by omega) (by omega) (by unfold on_N; omega) (fun i i0 i1 => by omega)
      have et : (σ 53 p).toNat = 100 + 25 * i := by omega
      have rg : bRg (fun i => σ 79 (687 * p + i)) (Z 78) 0 687 := fun i i0 i1 => by rw [z3 i i0 i1, f2 79 (by omega)]
      have Zc : ∀ c, c ≠ 78 → (c < 2 ∨ 26 ≤ c) → Z c = σ c := fun c h1 h2 => by rw [z2 c h1, f2 c (by omega)]
      refine ⟨0, F, Z, ?_, ?_, by omega, ?_⟩
      · rw [hx, if_neg (by omega), et, if_pos (on_SbB_at (by omega)), bCl f1]
      · rw [hy, bRd (by omega) (by omega), f2 80 (by omega), bEqF (by omega) (by omega) (by omega), z1]
      · refine hI.read (fun c c0 c1 c2 c3 c4 => Zc c c3 (by omega)) (hI.t.to fun c hc => Zc c (by omega) (by omega)) (ko.all rg) ?_
        exact (bRp.all ko f3 rg).to fun k hk => z2 _ (by omega)
  · refine bOp.no (r := -2) hI (by omega) ?_ ?_
    · unfold pf_X11_back
      by_cases g : p < 0
      · rw [bLtT hp (by omega) g]
      · rw [bLtF hp (by omega) (by omega), bLtF hp (by omega) (by omega)]
    · unfold pf_X12_back
      rw [bCk hp, bCl (m_in' hp (by omega) (by omega)), bE01, if_neg h]
end O96
