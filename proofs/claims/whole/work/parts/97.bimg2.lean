/-! B: image -/
section O97
variable {n : Nat} {σ : on_S} {p : Int}
theorem m_image17 {p : Int} (hp : 0 ≤ p ∧ p < 3) : ∀ (r nf : Nat) (k : Int) (σ : on_S), 0 ≤ k → k + (r : Int) = 687 → r < nf → (∀ i, 0 ≤ i → i < k → σ 79 (687 * p + i) = σ 78 i) → ∃ σ' : on_S, pf_X12_image_17 nf p k σ = some (0, σ') ∧ (∀ c, c ≠ 79 → c ≠ 80 → σ' c = σ c) ∧ (∀ i, 0 ≤ i → i < 687 → σ' 79 (687 * p + i) = σ 78 i) ∧ (∀ x, (x < 687 * p ∨ 687 * p + 687 ≤ x) → σ' 79 x = σ 79 x) ∧ σ' 80 p = 1 ∧ ∀ x, x ≠ p → σ' 80 x = σ 80 x := by
  intro r
  induction r with
  | zero =>
    intro nf k σ k0 hk hnf h
    cases nf with
    | zero => omega
    | succ nf => exact ⟨on_st σ 80 p 1, by rw [pf_X12_image_17, bLtF (by omega) (by omega) (by omega), bWr (by omega) (by omega)], fun c _ h2 => bst_nc h2, fun i i0 i1 => by rw [bst_nc (by omega)]; exact h i i0 (by omega), fun x _ => by rw [bst_nc (by omega)], bst_eq, fun x hx => bst_ni hx⟩
  | succ r ih =>
    intro nf k σ k0 hk hnf h
    cases nf with
    | zero => omega
    | succ nf =>
      obtain ⟨σ', a, b, c, d, e, f⟩ := ih nf (k + 1) (on_st σ 79 (687 * p + k) (σ 78 k)) (by omega) (by omega) (by omega) (fun i i0 i1 => by
        rw [bst_if, bst_nc (by omega)]; split
        · rename_i e; rw [show i = k by omega]
        · rename_i e; exact h i i0 (by omega))
      rw [bst_nc (by omega)] at c
      exact ⟨σ', by rw [pf_X12_image_17, bLtT (by omega) (by omega) (by omega), bRd k0 (by omega), bWr (by omega) (by omega), a], fun c h1 h2 => by rw [b c h1 h2, bst_nc h1], c, fun x hx => by rw [d x hx, bst_ni (by omega)], e, fun x hx => by rw [f x hx, bst_nc (by omega)]⟩
theorem bIm_put {n2 j2 i0 : Nat} {k0 : Nat} {Z : on_S} (h : bIm n σ) (hk : bOk (σ 78)) (hn : n2 = 100 + 25 * j2) (hle : n ≤ n2) (hi : i0 < j2) (z53 : Z 53 k0 = ((100 + 25 * i0 : Nat) : Int)) (z53' : ∀ k : Nat, k < 3 → k ≠ k0 → Z 53 k = σ 53 k) (nx : ∀ k : Nat, k < 3 → k ≠ k0 → σ 53 k ≠ ((100 + 25 * i0 : Nat) : Int)) (z80 : Z 80 k0 = 1) (z80' : ∀ k : Nat, k < 3 → k ≠ k0 → Z 80 k = σ 80 k) (rg : bRg (σ 78) (bImg Z k0) 0 687) (rg' : ∀ k : Nat, k < 3 → k ≠ k0 → bRg (bImg σ k) (bImg Z k) 0 687) (hr : bRp (100 + 25 * i0) (σ 78) Z) (zc : ∀ c, 100 ≤ c → c < n → (c < 100 + 25 * i0 ∨ 100 + 25 * i0 + 24 < c) → Z c = σ c) : bIm n2 Z := by
  obtain ⟨j, e, him, inj⟩ := h
  refine ⟨j2, hn, fun k hk3 => ?_, fun k k' h3 h3' g0 g => ?_⟩
  · by_cases ek : k = k0
    · subst ek
      exact Or.inr ⟨z80, i0, hi, z53, hk.all rg, bRp.all hk hr rg⟩
    · rw [z53' k hk3 ek, z80' k hk3 ek]
      rcases him k hk3 with ⟨a, b⟩ | ⟨a, i, hi2, b, c, d⟩
      · exact Or.inl ⟨a, b⟩
      · have ne : i ≠ i0 := fun q => nx k hk3 ek (by rw [b, q])
        refine Or.inr ⟨a, i, by omega, b, c.all (rg' k hk3 ek), ?_⟩
        have d2 : bRp (100 + 25 * i) (bImg σ k) Z := d.to fun x hx => zc _ (by omega) (by omega) (by omega)
        exact bRp.all c d2 (rg' k hk3 ek)
  · by_cases ek : k = k0
    · by_cases ek' : k' = k0
      · omega
      · subst ek
        rw [z53, z53' k' h3' ek'] at g
        exact absurd g.symm (nx k' h3' ek')
    · by_cases ek' : k' = k0
      · subst ek'
        rw [z53, z53' k h3 ek] at g
        exact absurd g (nx k h3 ek)
      · rw [z53' k h3 ek] at g0 g
        rw [z53' k' h3' ek'] at g
        exact inj k k' h3 h3' g0 g
theorem bImg_rg {Z : on_S} {k : Nat} (hp : 0 ≤ p ∧ p < 3) (hk : (k : Int) ≠ p) (h : ∀ x, (x < 687 * p ∨ 687 * p + 687 ≤ x) → Z 79 x = σ 79 x) : bRg (bImg σ k) (bImg Z k) 0 687 := fun i i0 i1 => h _ (by omega)
theorem o_image (hI : bI n σ) (hp : on_R p) : bOp n σ (pf_X11_image n p) (pf_X12_image p) ∨ (0 ≤ p ∧ p < 3 ∧ σ 53 p = 0 ∧ on_Sb (n + 25) n ∧ ∃ (q : on_O) (σ2 : on_S), pf_X9_copyFrom n 2 (on_new n p σ) = some q ∧ pf_X12_image p q.2 = some (0, σ2) ∧ bI (n + 25) σ2) := by
  by_cases h : 0 ≤ p ∧ p ≤ 2
  · obtain ⟨j, hn, him, inj⟩ := hI.i
    have hk := him p.toNat (by omega)
    have ep : ((p.toNat : Nat) : Int) = p := by omega
    have hp3 : 0 ≤ p ∧ p < 3 := by omega
    have hx : pf_X11_image n p σ = (if σ 53 p = 0 then none else if on_SbB n (σ 53 p).toNat = true then on_Cl (pf_X9_copyFrom (σ 53 p).toNat 2 σ) (fun _ σ2 => some (0, σ2)) else none) := by
      unfold pf_X11_image on_Im
      rw [bLtF hp (by omega) (by omega), bLtT hp (by omega) (by omega), if_pos (by omega)]
    have hy : ∀ F : on_S, pf_X12_image p F = pf_X12_image_17 on_N p 0 F := by
      intro F
      unfold pf_X12_image
      rw [bCk hp, bCl (m_in' hp (by omega) (by omega)), bE01, if_pos h]
    rw [ep] at hk
    rcases hk with ⟨e1, e2⟩ | ⟨e2, i, hi, e1, -, -⟩
    · refine Or.inr ⟨by omega, by omega, e1, ⟨by omega, Or.inr (Or.inr ⟨j, hn⟩)⟩, ?_⟩
      have nc : ∀ c, c < n → c ≠ 53 → on_new n p σ c = σ c := fun c h1 h2 => by
        unfold on_new; rw [bst_nc h2, on_zr_lt σ h1]
      have n53 : on_new n p σ 53 p = n := by unfold on_new; exact bst_eq
      have n53' : ∀ x, x ≠ p → on_new n p σ 53 x = σ 53 x := fun x hx => by
        unfold on_new; rw [bst_ni hx, on_zr_lt σ (by omega)]
      generalize on_new n p σ = τ at nc n53 n53'
      have hr2 : bRp 2 (σ 78) τ := hI.r.to fun k hk => nc _ (by omega) (by omega)
      obtain ⟨F, f1, f2, f3⟩ := c_copyFrom (b := n) (p := 2) hI.k (by omega) (by omega) hr2
      obtain ⟨Z, z1, z2, z3, z4, z5, z6⟩ := m_image17 hp3 687 on_N 0 F (by omega) (by omega) (by unfold on_N; omega) (fun i i0 i1 => by omega)
      have Fc : ∀ c, c < n → c ≠ 53 → F c = σ c := fun c h1 h2 => by rw [f2 c (by omega), nc c h1 h2]
      have Zc : ∀ c, c < n → c ≠ 53 → c ≠ 79 → c ≠ 80 → Z c = σ c := fun c h1 h2 h3 h4 => by rw [z2 c h3 h4, Fc c h1 h2]
      have Z78 : Z 78 = σ 78 := Zc 78 (by omega) (by omega) (by omega) (by omega)
      refine ⟨(0, F), Z, f1, by rw [hy, z1], by rw [Z78]; exact hI.k, by rw [Z78]; exact hI.r.to fun k hk => Zc _ (by omega) (by omega) (by omega) (by omega), hI.t.to fun c hc => Zc c (by omega) (by omega) (by omega) (by omega), ?_, ?_, ?_⟩
      · intro s hs4
        rw [Zc (69 + 2 * s) (by omega) (by omega) (by omega) (by omega), Zc (69 + 2 * s + 1) (by omega) (by omega) (by omega) (by omega), Zc 96 (by omega) (by omega) (by omega) (by omega), Zc 97 (by omega) (by omega) (by omega) (by omega), Zc 98 (by omega) (by omega) (by omega) (by omega)]
        exact hI.s s hs4
      · have z79 : ∀ x, (x < 687 * p ∨ 687 * p + 687 ≤ x) → Z 79 x = σ 79 x := fun x hx => by rw [z4 x hx, Fc 79 (by omega) (by omega)]
        refine bIm_put (k0 := p.toNat) (i0 := j) (j2 := j + 1) hI.i hI.k (by omega) (by omega) (by omega) ?_ ?_ ?_ ?_ ?_ ?_ ?_ ?_ ?_
        · rw [ep, z2 53 (by omega) (by omega), f2 53 (by omega), n53, hn]
        · intro k h3 hk; rw [z2 53 (by omega) (by omega), f2 53 (by omega), n53' _ (by omega)]
        · intro k h3 hk q
          rcases him k h3 with ⟨a, b⟩ | ⟨a, i, hi2, b, c, d⟩ <;> omega
        · rw [ep]; exact z5
        · intro k h3 hk; rw [z6 _ (by omega), Fc 80 (by omega) (by omega)]
        · intro i i0 i1
          show Z 79 (687 * ((p.toNat : Nat) : Int) + i) = _
          rw [ep, z3 i i0 i1, Fc 78 (by omega) (by omega)]
        · intro k h3 hk; exact bImg_rg hp3 (by omega) z79
        · rw [← hn]; exact f3.to fun k hk => z2 _ (by omega) (by omega)
        · intro c c0 c1 c2; exact Zc c c1 (by omega) (by omega) (by omega)
      · intro i hi
        rw [Zc 56 (by omega) (by omega) (by omega) (by omega)]
        exact hI.o i hi
    · refine Or.inl ?_
      obtain ⟨F, f1, f2, f3⟩ := c_copyFrom (b := 100 + 25 * i) (p := 2) hI.k (by omega) (by omega) hI.r
      obtain ⟨Z, z1, z2, z3, z4, z5, z6⟩ := m_image17 hp3 687 on_N 0 F (by omega) (by omega) (by unfold on_N; omega) (fun i i0 i1 => by omega)
      have et : (σ 53 p).toNat = 100 + 25 * i := by omega
      have Zc : ∀ c, (c < 100 + 25 * i ∨ 100 + 25 * i + 24 ≤ c) → c ≠ 79 → c ≠ 80 → Z c = σ c := fun c h1 h3 h4 => by rw [z2 c h3 h4, f2 c (by omega)]
      have Z78 : Z 78 = σ 78 := Zc 78 (by omega) (by omega) (by omega)
      refine ⟨0, F, Z, ?_, by rw [hy, z1], by omega, by rw [Z78]; exact hI.k, by rw [Z78]; exact hI.r.to fun k hk => Zc _ (by omega) (by omega) (by omega), hI.t.to fun c hc => Zc c (by omega) (by omega) (by omega), ?_, ?_, ?_⟩
      · rw [hx, if_neg (by omega), et, if_pos (on_SbB_at (by omega)), bCl f1]
      · intro s hs4
        rw [Zc (69 + 2 * s) (by omega) (by omega) (by omega), Zc (69 + 2 * s + 1) (by omega) (by omega) (by omega), Zc 96 (by omega) (by omega) (by omega), Zc 97 (by omega) (by omega) (by omega), Zc 98 (by omega) (by omega) (by omega)]
        exact hI.s s hs4
      · have z79 : ∀ x, (x < 687 * p ∨ 687 * p + 687 ≤ x) → Z 79 x = σ 79 x := fun x hx => by rw [z4 x hx, f2 79 (by omega)]
        refine bIm_put (k0 := p.toNat) (i0 := i) (j2 := j) hI.i hI.k hn (Nat.le_refl _) hi ?_ ?_ ?_ ?_ ?_ ?_ ?_ ?_ ?_
        · rw [ep, Zc 53 (by omega) (by omega) (by omega)]; exact e1
        · intro k h3 hk; rw [Zc 53 (by omega) (by omega) (by omega)]
        · intro k h3 hk q
          have := inj k p.toNat h3 (by omega) (by omega) (by rw [ep, e1, q])
          omega
        · rw [ep]; exact z5
        · intro k h3 hk; rw [z6 _ (by omega), f2 80 (by omega)]
        · intro x i0 i1
          show Z 79 (687 * ((p.toNat : Nat) : Int) + x) = _
          rw [ep, z3 x i0 i1, f2 78 (by omega)]
        · intro k h3 hk; exact bImg_rg hp3 (by omega) z79
        · exact f3.to fun k hk => z2 _ (by omega) (by omega)
        · intro c c0 c1 c2; exact Zc c (by omega) (by omega) (by omega)
      · intro x hi
        rw [Zc 56 (by omega) (by omega) (by omega)]
        exact hI.o x hi
  · refine Or.inl (bOp.no (r := -2) hI (by omega) ?_ ?_)
    · unfold pf_X11_image
      by_cases g : p < 0
      · rw [bLtT hp (by omega) g]
      · rw [bLtF hp (by omega) (by omega), bLtF hp (by omega) (by omega)]
    · unfold pf_X12_image
      rw [bCk hp, bCl (m_in' hp (by omega) (by omega)), bE01, if_neg h]
end O97
