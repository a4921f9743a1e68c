/-! B: street: quarrels, feuds, roads -/
/-- a fault of the reference, if the token is a number of some kind -/
def bPre2 (B : Int → Bool) (σ : on_S) : on_S := if σ 77 12 = 0 ∧ σ 77 10 = 2 ∧ B (σ 77 11) = true then bErr σ 2 else σ
section O80
variable {T : Int → Int} {σ σc σm σc' σm' : on_S}
theorem bPre2_c (B : Int → Bool) {c : Nat} (h : c ≠ 77) : bPre2 B σ c = σ c := by
  unfold bPre2
  split
  · exact bErr_nc h
  · rfl
theorem m_isNext (h : bLk T σc σm) {p : Int} (hp : on_R p) : pf_X12_isNext p σm = some (if σm 77 12 = 0 ∧ σm 77 10 = 2 ∧ σm 77 11 = p then 1 else 0, σm) := by
  unfold pf_X12_isNext pf_X12_isNext_27
  rw [bCl (m_good h.2.2.2.1.2), bE01]
  by_cases z : σm 77 12 = 0
  · obtain ⟨⟨g1, g2, g3⟩, ⟨g4, g5, g6⟩, g7, g8⟩ := h.2.2.2.2.2.2 z
    have k := h.2.2.2.2.2.1.1
    rw [if_pos z, bGt]
    by_cases y : σm 77 10 = 2
    · have v := g8 y
      rw [bEqT (by omega) y, bGt]
      by_cases x : σm 77 11 = p
      · rw [bEqT (by omega) x, if_pos ⟨z, y, x⟩]
      · rw [bEqF (by omega) hp x, if_neg (fun t => x t.2.2)]
    · rw [bEqF (by omega) (by omega) y, if_neg (fun t => y t.2.1)]
  · rw [if_neg z, if_neg (fun t => z t.1)]
/-- the reference's look at the number to come -/
theorem k_next (h : bLk T σc σm) {p : Int} (hp : on_R p) (K : on_S → Option on_O) : (on_Cl (pf_X12_isNext p σm) fun v σ => on_Eq v 0 (K σ) (on_Cl (pf_X12_errs 2 σ) fun _ σ' => K σ')) = K (bPre2 (fun t => t == p) σm) := by
  rw [bCl (m_isNext h hp), bE01]
  unfold bPre2
  by_cases z : σm 77 12 = 0 ∧ σm 77 10 = 2 ∧ σm 77 11 = p
  · rw [if_pos z, bCl (m_errs0 z.1), if_pos ⟨z.1, z.2.1, beq_iff_eq.mpr z.2.2⟩]
  · rw [if_neg z, if_neg (fun t => z ⟨t.1, t.2.1, beq_iff_eq.mp t.2.2⟩)]
theorem l_quarrel (h : bLk T σc σm) (hg : σm 77 12 = 0) (hd : bDr (σm 83) σc) (hw : bWds T σm 12 = true) : ∃ σc' σm' : on_S, pf_X6_readQuarrel σc = some (0, σc') ∧ pf_X12_readNext σm = some (0, σm') ∧ bLn T σc σm σc' σm' := by
  obtain ⟨q0, q1, q2, q3, q4, q5, q6, q7⟩ := hd.k.c
  obtain ⟨r0, r1, r2, r3, r4, r5, r6, r7⟩ := hd.r.c
  obtain ⟨σ1, τ1, a1, a2, a3, a4, a5, -⟩ := k_token h hg
  have f1 := a4.1
  obtain ⟨v, u, σ2, τ2, b1, b2, b3, b4, b5, b6, b7, -⟩ := s_number a3 (l := 0) (u := σm 83 3 - 1) (by omega) (by omega) (by omega) (by omega)
  obtain ⟨x, y, σ3, τ3, c1, c2, c3, c4, c5, c6, c7⟩ := s_said b3 (l := 0) (u := σm 83 3 - 1) (by omega) (by omega) (by omega) (by omega) (fun t => t == u) (τ := bPre2 (fun t => t == u) τ2) rfl
  have g83 : τ1 83 = σm 83 := a4.2.1 83 (by omega)
  have g83' : τ2 83 = σm 83 := by rw [b4.2.1 83 (by omega), g83]
  have g35 : ∀ s : on_S, (∀ c, c ≠ 52 → s c = σc c) → s (27 + 8) 0 = σm 83 3 := fun s hs => by rw [hs _ (by omega)]; exact r5
  have f2 : ∀ c, c ≠ 52 → σ2 c = σc c := fun c hc => by rw [b4.1 c hc, f1 c hc]
  have C0 : pf_X6_readQuarrel σc = on_Eq (σ3 52 8) 0 (on_Eq v x (pf_X6_readQuarrel_58 v x 0 σ3) (pf_X6_readQuarrel_58 v x 1 σ3)) (pf_X6_readQuarrel_61 v x σ3) := by
    unfold pf_X6_readQuarrel
    rw [bCl a1, bGt, g35 σ1 f1, bCl b1, bGt, g35 σ2 f2, bCl c1, bGt]
  have M0 : pf_X12_readNext σm = on_Cl (pf_X12_readQuarrel_27 u (bPre2 (fun t => t == u) τ2)) fun _ σ71 => some (0, σ71) := by
    rw [m_way h hg hd hw (by omega), if_neg (by omega)]
    unfold pf_X12_readNext_171
    rw [bCl (m_good (by omega)), if_pos hg, bEqF (by omega) (by omega) (by omega), bCl (k_takes_not h hg hw (by omega) (by omega) (by omega)), bEqT (by omega) rfl, bCl (k_takes_not h hg hw (by omega) (by omega) (by omega)), bEqT (by omega) rfl, bCl (k_takes_not h hg hw (by omega) (by omega) (by omega)), bEqT (by omega) rfl, bCl (k_takes_not h hg hw (by omega) (by omega) (by omega)), bEqT (by omega) rfl, bCl (k_takes h hg (by omega) hw a2), bEqF (by omega) (by omega) (by omega)]
    unfold pf_X12_readQuarrel
    rw [bRd (by omega) (by omega), g83, bCl b2]
    rw [k_next b3 (by omega) (fun s => pf_X12_readQuarrel_27 u s)]
  -- the end of the line, from any state
  have E : ∀ s : on_S, bLk T s τ3 → (∀ c, c ≠ 52 → s c = σc c) → (∀ c, c ≠ 77 → τ3 c = σm c) → (∀ i, (i < 8 ∨ 13 < i) → τ3 77 i = σm 77 i) → (τ3 77 12 = 0 → σm 77 9 ≤ τ3 77 9 ∧ (v = u ∧ 0 ≤ u ∧ u < σm 83 3) ∧ (x = y ∧ 0 ≤ y ∧ y < σm 83 3)) → ∃ σc' σm' : on_S, pf_X6_readQuarrel_61 v x s = some (0, σc') ∧ (on_Cl (pf_X12_readQuarrel_27 u (bPre2 (fun t => t == u) τ2)) fun _ σ71 => some (0, σ71)) = some (0, σm') ∧ bLn T σc σm σc' σm' := by
    intro s hs hc hm h7 hgd
    obtain ⟨k, j, σ4, τ4, d1, d2, d3, d4, d5, d6, d7, -⟩ := s_number hs (l := 1) (u := 9) (by omega) (by omega) (by omega) (by omega)
    have e8 := d3.2.2.2.1
    have hc4 : ∀ c, c ≠ 52 → σ4 c = σc c := fun c h => by rw [d4.1 c h, hc c h]
    have hm4 : ∀ c, c ≠ 77 → τ4 c = σm c := fun c h => by rw [d4.2.1 c h, hm c h]
    have h74 : ∀ i, (i < 8 ∨ 13 < i) → τ4 77 i = σm 77 i := fun i h => by rw [d4.2.2.1 i h, h7 i h]
    have M : (on_Cl (pf_X12_readQuarrel_27 u (bPre2 (fun t => t == u) τ2)) fun _ σ71 => some (0, σ71)) = on_Cl (on_Eq (if τ4 77 12 = 0 then 1 else 0) 0 (some (0, τ4)) (on_Wr τ4 83 687 ((76 + (9 * u)) + y) j fun σ15 => on_Wr σ15 83 687 ((76 + (9 * y)) + u) j fun σ16 => some (0, σ16))) fun _ σ71 => some (0, σ71) := by
      unfold pf_X12_readQuarrel_27
      rw [bRd (by omega) (by omega), bPre2_c _ (by omega), g83', bCl c2, bCl d2, bCl (m_good e8.2)]
    rw [M, bE01]
    unfold pf_X6_readQuarrel_61
    rw [bCl d1, bGt]
    by_cases good : τ4 77 12 = 0
    · have g4 := d4.2.2.2.1 good
      obtain ⟨g3, g5, g6⟩ := hgd g4.1
      have v3 := (d7 good).1
      have hd4 : bDr (σm 83) σ4 := hd.to fun c c0 c1 => hc4 c (by omega)
      have A : pf_X3_setQuarrel 27 v x k σ4 = some (0, on_st (on_st σ4 40 ((v * 9) + x) k) 40 ((x * 9) + v) k) := by
        unfold pf_X3_setQuarrel
        rw [bWr (by omega) (by omega), bWr (by omega) (by omega)]
      have s83 : on_st (on_st τ4 83 ((76 + (9 * u)) + y) j) 83 ((76 + (9 * y)) + u) j 83 = bUp (bUp (σm 83) ((76 + (9 * u)) + y) j) ((76 + (9 * y)) + u) j := by rw [bst_up, bst_up, hm4 83 (by omega)]
      rw [bEqT (by omega) (by omega), bCl A, if_pos good, bWr (by omega) (by omega), bWr (by omega) (by omega), bClS]
      refine ⟨_, _, rfl, rfl, ?_, fun c hc' => by rw [bst_nc (by omega), bst_nc (by omega), hc4 c (by omega)], fun c h7 h8 => by rw [bst_nc h8, bst_nc h8, hm4 c h7], fun i hi => by rw [bst_nc (by omega), bst_nc (by omega), h74 i hi], fun _ => ⟨?_, by rw [s83, bUp_ne (by omega), bUp_ne (by omega)], by rw [bst_nc (by omega), bst_nc (by omega)]; omega⟩⟩
      · exact d3.to (by rw [bst_nc (by omega), bst_nc (by omega)]) (fun i _ => by rw [bst_nc (by omega), bst_nc (by omega)]) (by rw [bst_nc (by omega), bst_nc (by omega)]) (by rw [bst_nc (by omega), bst_nc (by omega)])
      · refine bDr_quarrel hd4 (x := u) (y := y) (v := j) (by omega) (by omega) (by omega) (by omega) (by omega) (by omega) s83 (fun c c0 c1 h1 => by rw [bst_nc h1, bst_nc h1]) ?_
        rw [bst_up, bst_up, g5.1, g6.1, v3.1]
    · rw [bEqF (by omega) (by omega) (by omega), if_neg good, bClS]
      exact ⟨σ4, τ4, rfl, rfl, bLn_bad d3 good hc4 (fun c h7 _ => hm4 c h7) h74⟩
  rw [M0, C0]
  have frm : ∀ s, bTo σ2 τ2 s τ3 → (∀ c, c ≠ 52 → s c = σc c) ∧ (∀ c, c ≠ 77 → τ3 c = σm c) ∧ (∀ i, (i < 8 ∨ 13 < i) → τ3 77 i = σm 77 i) ∧ (τ3 77 12 = 0 → σm 77 9 ≤ τ3 77 9 ∧ (v = u ∧ 0 ≤ u ∧ u < σm 83 3)) := fun s t => ⟨fun c hc => by rw [t.1 c hc, f2 c hc], fun c hc => by rw [t.2.1 c hc, b4.2.1 c hc, a4.2.1 c hc], fun i hi => by rw [t.2.2.1 i hi, b4.2.2.1 i hi, a4.2.2.1 i hi], fun g => by
    have g3 := t.2.2.2.1 g
    have g2 := b4.2.2.2.1 g3.1
    have g1 := a4.2.2.2.1 g2.1
    have := (b7 g3.1).1
    exact ⟨by omega, by omega⟩⟩
  rcases c7 with ⟨e, e1, e2, e3⟩ | ⟨e, eg, e0, σ5, e1, e2, e3, e4⟩
  · obtain ⟨x1, x2, x3, x4⟩ := frm σ3 e2
    rw [bEqF (by omega) (by omega) e]
    exact E σ3 e1 x1 x2 x3 (fun t => absurd t e3)
  · obtain ⟨x1, x2, x3, x4⟩ := frm σ5 e3
    have vu := (b7 eg).1
    have S : on_Eq v x (pf_X6_readQuarrel_58 v x 0 σ3) (pf_X6_readQuarrel_58 v x 1 σ3) = pf_X6_readQuarrel_61 v x σ5 := by
      unfold pf_X6_readQuarrel_58
      by_cases z : v = x
      · rw [if_pos (beq_iff_eq.mpr (by omega))] at e1
        rw [bEqT (by omega) z, bCl e1]
      · rw [if_neg (by rw [beq_iff_eq]; omega)] at e1
        rw [bEqF (by omega) (by omega) z, bCl e1]
    rw [bEqT (by omega) e, S]
    exact E σ5 e2 x1 x2 x3 (fun t => ⟨(x4 t).1, (x4 t).2, by have := (e4 t).1; omega⟩)
end O80
