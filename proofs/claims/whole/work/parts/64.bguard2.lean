/-! B: the reference lays the rows down -/
section O64
variable {σ : on_S} {w : bW}
/-- rows that lie in the reference's tables, from one place on -/
def bLaid (w : bW) (σ : on_S) : List bQd → Int → Prop
  | [], _ => True
  | r :: G, I => (σ 87 I = bMk (bQp r) ∧ (∀ c : Int, 0 ≤ c → c < 4 → σ 88 (4 * I + c) = bQp r c) ∧ σ 89 I = bQs w (bQp r)) ∧ bLaid w σ G (I + 1)
theorem bMk_row : bMk (bQp (bRw σ 84)) = bMk (σ 84) := rfl
theorem bQs_row : bQs w (bQp (bRw σ 84)) = bQs w (σ 84) := rfl
theorem m_layLoop (hk : bOk w) {k t : Int} (k0 : 0 ≤ k) (k2 : k < w 4) (ht : on_R t) : ∀ (L : List bQd) (nf : Nat) (v : Int) (σ : on_S), bAtR w 15 v L σ → L.length < nf → 0 ≤ σ 90 k → σ 90 k + (L.length : Int) ≤ 3100 → ∃ σ' : on_S, pf_X12_layRows_70 nf k t v σ = some (0, σ') ∧ (∀ c, c ≠ 84 → c ≠ 87 → c ≠ 88 → c ≠ 89 → c ≠ 90 → σ' c = σ c) ∧ σ' 90 k = σ 90 k + ((L.filter fun r => decide (t ≤ bVal w k (bNet w k 0) (bNet w k 2) r)).length : Int) ∧ (∀ i, i ≠ k → σ' 90 i = σ 90 i) ∧ (∀ i, (i < 3100 * k + σ 90 k ∨ 3100 * k + 3100 ≤ i) → σ' 87 i = σ 87 i ∧ σ' 89 i = σ 89 i ∧ ∀ c : Int, 0 ≤ c → c < 4 → σ' 88 (4 * i + c) = σ 88 (4 * i + c)) ∧ bLaid w σ' (L.filter fun r => decide (t ≤ bVal w k (bNet w k 0) (bNet w k 2) r)) (3100 * k + σ 90 k) := by
  have hn := (hk.n k k0 k2).2.2.1
  have hx := (hk.n k k0 k2).1
  have q4 := hk.c.2.2.2.2.1
  intro L
  induction L with
  | nil =>
    intro nf v σ h hnf c0 c1
    cases nf with
    | zero => simp at hnf
    | succ nf =>
      have v0 : v = 0 := by
        rcases h.2.2.2 with ⟨h, -⟩ | ⟨-, h⟩
        · exact h
        · cases h
      exact ⟨σ, by rw [pf_X12_layRows_70, bEqT (by omega) v0], fun _ _ _ _ _ _ => rfl, by simp, fun _ _ => rfl, fun _ _ => ⟨rfl, rfl, fun _ _ _ => rfl⟩, trivial⟩
  | cons r L ih =>
    intro nf v σ h hnf c0 c1
    rw [List.length_cons] at hnf c1
    cases nf with
    | zero => omega
    | succ nf =>
      have v1 : v = 1 ∧ r = bRw σ 84 := by
        rcases h.2.2.2 with ⟨-, h⟩ | ⟨h1, h⟩
        · cases h
        · injection h with h _; exact ⟨h1, h⟩
      obtain ⟨v1, hr⟩ := v1
      subst v1
      have vb := bVal_b hk (x := bNet w k 0) (wet := bNet w k 2) k0 k2 r
      rw [pf_X12_layRows_70, bEqF (by omega) (by omega) (by omega), bCl (m_ofNet k0 (by omega) (by omega) (by omega)), bCl (m_ofNet k0 (by omega) (by omega) (by omega)), h.1, bCl (m_rowVal hk h k0 k2 hx.1 hx.2 (by omega)), ← hr, List.filter_cons]
      by_cases g : bVal w k (bNet w k 0) (bNet w k 2) r < t
      · obtain ⟨v', σ2, r1, r2, r3⟩ := m_next hk h
        have e90 : σ2 90 = σ 90 := r2 90 (by omega)
        obtain ⟨σ3, s1, s2, s3, s4, s5, s6⟩ := ih nf v' σ2 r3 (by omega) (by rw [e90]; exact c0) (by rw [e90]; omega)
        rw [e90] at s3 s4 s5 s6
        rw [r2 87 (by omega), r2 88 (by omega), r2 89 (by omega)] at s5
        refine ⟨σ3, ?_, fun c h1 h2 h3 h4 h5 => by rw [s2 c h1 h2 h3 h4 h5, r2 c h1], ?_, s4, s5, ?_⟩
        · unfold pf_X12_layRows_100
          rw [bLtT (by omega) ht g, bCl r1, s1]
        · rw [if_neg (fun u => by have := of_decide_eq_true u; omega)]; exact s3
        · rw [if_neg (fun u => by have := of_decide_eq_true u; omega)]; exact s6
      · have po : bPo (σ 78) (σ 84) := fun c c0 c1 => by
          have := h.2.2.1 c c0 c1
          rw [h.1]; omega
        obtain ⟨σ1, l1, l2, l3, l4, l5, l6⟩ := m_layRow (σ := σ) (by rw [h.1]; exact hk) po k0 (show k < 2 by omega) c0 (by omega)
        have h' : bAtR w 15 1 (r :: L) σ1 := by
          unfold bAtR bRw at h ⊢
          rw [l2 78 (by omega) (by omega) (by omega) (by omega), l2 77 (by omega) (by omega) (by omega) (by omega), l2 84 (by omega) (by omega) (by omega) (by omega)]
          exact h
        obtain ⟨v', σ2, r1, r2, r3⟩ := m_next hk h'
        have e90 : σ2 90 k = σ 90 k + 1 := by rw [r2 90 (by omega), l6, if_pos rfl]
        obtain ⟨σ3, s1, s2, s3, s4, s5, s6⟩ := ih nf v' σ2 r3 (by omega) (by rw [e90]; omega) (by rw [e90]; omega)
        rw [e90] at s3 s5 s6
        rw [r2 87 (by omega), r2 88 (by omega), r2 89 (by omega)] at s5
        have gt : decide (t ≤ bVal w k (bNet w k 0) (bNet w k 2) r) = true := decide_eq_true (by omega)
        refine ⟨σ3, ?_, fun c h1 h2 h3 h4 h5 => by rw [s2 c h1 h2 h3 h4 h5, r2 c h1, l2 c h2 h3 h4 h5], ?_, fun i hi => ?_, fun i hi => ?_, ?_⟩
        · unfold pf_X12_layRows_100
          rw [bLtF (by omega) ht (by omega), bCl l1, bCl r1, s1]
        · rw [if_pos gt, s3, List.length_cons]; omega
        · rw [s4 i hi, r2 90 (by omega), l6, if_neg hi]
        · obtain ⟨x1, x2, x3⟩ := s5 i (by omega)
          refine ⟨by rw [x1, l3, if_neg (by omega)], by rw [x2, l5, if_neg (by omega)], fun c c0 c4 => by rw [x3 c c0 c4, l4, if_neg (by omega)]⟩
        · rw [if_pos gt]
          obtain ⟨x1, x2, x3⟩ := s5 (3100 * k + σ 90 k) (by omega)
          refine ⟨⟨by rw [x1, l3, if_pos rfl, hr]; rfl, fun c c0 c4 => ?_, by rw [x2, l5, if_pos rfl, hr, h.1]; rfl⟩, ?_⟩
          · rw [x3 c c0 c4, l4, if_pos (by omega), show 4 * (3100 * k + σ 90 k) + c - 4 * (3100 * k + σ 90 k) = c by omega, hr]
            have d : c = 0 ∨ c = 1 ∨ c = 2 ∨ c = 3 := by omega
            rcases d with d | d | d | d <;> subst d <;> rfl
          · rw [show 3100 * k + σ 90 k + 1 = 3100 * k + (σ 90 k + 1) by omega]; exact s6
end O64
