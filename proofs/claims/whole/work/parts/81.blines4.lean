/-! B: street: feuds and roads -/
section O81
variable {T : Int → Int} {σ σc σm σc' σm' : on_S}
/-- two houses, in both: what the class does behind them, and the reference, is the same for feuds and roads -/
theorem l_two (h : bLk T σc σm) (hg : σm 77 12 = 0) (hd : bDr (σm 83) σc) {l1 l2 : Int} {F : Int → Int → on_S → Option on_O} {G : Int → Int → Int → on_S → Option on_O} (hG : ∀ a b s τ, pf_X6_needAsSaid s τ = pf_X6_needAsSaid s τ → G a b s τ = on_Cl (pf_X6_needAsSaid s τ) fun _ σ' => F a b σ') (hE : ∀ (v u x y : Int) (s τ : on_S), bLk T s τ → (∀ c, c ≠ 52 → s c = σc c) → (∀ c, c ≠ 77 → τ c = σm c) → (∀ i, (i < 8 ∨ 13 < i) → τ 77 i = σm 77 i) → ((0 ≤ u ∧ u ≤ 99) ∧ (0 ≤ y ∧ y ≤ 99)) → (τ 77 12 = 0 → σm 77 9 ≤ τ 77 9 ∧ (v = u ∧ 0 ≤ u ∧ u < σm 83 0) ∧ (x = y ∧ 0 ≤ y ∧ y < σm 83 0)) → ∃ σc' σm' : on_S, F v x s = some (0, σc') ∧ on_Eq l2 0 (on_Cl (pf_X12_number 1 99 τ) fun v13 σ14 => pf_X12_readTwo_39 l1 u y v13 σ14) (pf_X12_readTwo_39 l1 u y 1 τ) = some (0, σm') ∧ bLn T σc σm σc' σm') : ∃ σc' σm' τ1 : on_S, (on_Cl (pf_X6_readToken σc) fun _ σ2 => on_Gt σ2 27 0 fun v3 => on_Cl (pf_X6_needNumber 0 (v3 - 1) σ2) fun v4 σ5 => on_Gt σ5 27 0 fun v6 => on_Cl (pf_X6_needNumber 0 (v6 - 1) σ5) fun v7 σ8 => on_Gt σ8 52 8 fun v9 => on_Eq v9 0 (on_Eq v4 v7 (G v4 v7 0 σ8) (G v4 v7 1 σ8)) (F v4 v7 σ8)) = some (0, σc') ∧ pf_X12_advance σm = some (0, τ1) ∧ pf_X12_readTwo l1 l2 τ1 = some (0, σm') ∧ bLn T σc σm σc' σm' := by
  obtain ⟨q0, q1, q2, q3, q4, q5, q6, q7⟩ := hd.k.c
  obtain ⟨r0, r1, r2, r3, r4, r5, r6, r7⟩ := hd.r.c
  obtain ⟨σ1, τ1, a1, a2, a3, a4, a5, -⟩ := k_token h hg
  have f1 := a4.1
  obtain ⟨v, u, σ2, τ2, b1, b2, b3, b4, b5, b6, b7, -⟩ := s_number a3 (l := 0) (u := σm 83 0 - 1) (by omega) (by omega) (by omega) (by omega)
  obtain ⟨x, y, σ3, τ3, c1, c2, c3, c4, c5, c6, c7⟩ := s_said b3 (l := 0) (u := σm 83 0 - 1) (by omega) (by omega) (by omega) (by omega) (fun t => t == u) (τ := bPre2 (fun t => t == u) τ2) rfl
  have g83 : τ1 83 = σm 83 := a4.2.1 83 (by omega)
  have g83' : τ2 83 = σm 83 := by rw [b4.2.1 83 (by omega), g83]
  have f2 : ∀ c, c ≠ 52 → σ2 c = σc c := fun c hc => by rw [b4.1 c hc, f1 c hc]
  have fh : ∀ (s : on_S) (w : Int) (s' : on_S), s 83 = σm 83 → pf_X12_number 0 (σm 83 0 - 1) s = some (w, s') → pf_X12_freshHouse s = some (w, s') := fun s w s' e hs => by
    unfold pf_X12_freshHouse
    rw [bRd (by omega) (by omega), e, bCl hs]
  have M0 : pf_X12_readTwo l1 l2 τ1 = on_Eq l2 0 (on_Cl (pf_X12_number 1 99 τ3) fun v13 σ14 => pf_X12_readTwo_39 l1 u y v13 σ14) (pf_X12_readTwo_39 l1 u y 1 τ3) := by
    unfold pf_X12_readTwo
    rw [bCl (fh τ1 u τ2 g83 b2), k_next b3 (by omega) (fun s => pf_X12_readTwo_18 l1 l2 u s)]
    unfold pf_X12_readTwo_18
    rw [bCl (fh _ y τ3 (by rw [bPre2_c _ (by omega), g83']) c2)]
  rw [bCl a1, bGt, f1 27 (by omega), r0, bCl b1, bGt, f2 27 (by omega), r0, bCl c1, bGt]
  have frm : ∀ s, bTo σ2 τ2 s τ3 → (∀ c, c ≠ 52 → s c = σc c) ∧ (∀ c, c ≠ 77 → τ3 c = σm c) ∧ (∀ i, (i < 8 ∨ 13 < i) → τ3 77 i = σm 77 i) ∧ (τ3 77 12 = 0 → σm 77 9 ≤ τ3 77 9 ∧ (v = u ∧ 0 ≤ u ∧ u < σm 83 0)) := fun s t => ⟨fun c hc => by rw [t.1 c hc, f2 c hc], fun c hc => by rw [t.2.1 c hc, b4.2.1 c hc, a4.2.1 c hc], fun i hi => by rw [t.2.2.1 i hi, b4.2.2.1 i hi, a4.2.2.1 i hi], fun g => by
    have g3 := t.2.2.2.1 g
    have g2 := b4.2.2.2.1 g3.1
    have g1 := a4.2.2.2.1 g2.1
    have := (b7 g3.1).1
    exact ⟨by omega, by omega⟩⟩
  rcases c7 with ⟨e, e1, e2, e3⟩ | ⟨e, eg, e0, σ5, e1, e2, e3, e4⟩
  · obtain ⟨x1, x2, x3, x4⟩ := frm σ3 e2
    rw [bEqF (by omega) (by omega) e]
    obtain ⟨s1, s2, y1, y2, y3⟩ := hE v u x y σ3 τ3 e1 x1 x2 x3 ⟨by omega, by omega⟩ (fun t => absurd t e3)
    exact ⟨s1, s2, τ1, y1, a2, by rw [M0, y2], y3⟩
  · obtain ⟨x1, x2, x3, x4⟩ := frm σ5 e3
    have vu := (b7 eg).1
    have S : on_Eq v x (G v x 0 σ3) (G v x 1 σ3) = F v x σ5 := by
      rw [hG _ _ _ _ rfl, hG _ _ _ _ rfl]
      by_cases z : v = x
      · rw [if_pos (beq_iff_eq.mpr (by omega))] at e1
        rw [bEqT (by omega) z, bCl e1]
      · rw [if_neg (by rw [beq_iff_eq]; omega)] at e1
        rw [bEqF (by omega) (by omega) z, bCl e1]
    rw [bEqT (by omega) e, S]
    obtain ⟨s1, s2, y1, y2, y3⟩ := hE v u x y σ5 τ3 e2 x1 x2 x3 ⟨by omega, by omega⟩ (fun t => ⟨(x4 t).1, (x4 t).2, by have := (e4 t).1; omega⟩)
    exact ⟨s1, s2, τ1, y1, a2, by rw [M0, y2], y3⟩
theorem l_feud (h : bLk T σc σm) (hg : σm 77 12 = 0) (hd : bDr (σm 83) σc) (hw : bWds T σm 13 = true) : ∃ σc' σm' : on_S, pf_X6_readFeud σc = some (0, σc') ∧ pf_X12_readNext σm = some (0, σm') ∧ bLn T σc σm σc' σm' := by
  obtain ⟨q0, q1, q2, q3, q4, q5, q6, q7⟩ := hd.k.c
  obtain ⟨σ1, σ2, τ1, b1, b2, b3, b4⟩ := l_two (l1 := 157) (l2 := 1) (F := pf_X6_readFeud_55) (G := pf_X6_readFeud_52) h hg hd (fun _ _ _ _ _ => rfl) (by
    intro v u x y s τ hs hc hm h7 hb hgd
    have e8 := hs.2.2.2.1
    unfold pf_X6_readFeud_55 pf_X12_readTwo_39
    rw [bGt, bEqF (by omega) (by omega) (show (1 : Int) ≠ 0 by omega), bCl (m_good e8.2), bE01]
    by_cases good : τ 77 12 = 0
    · obtain ⟨g3, g5, g6⟩ := hgd good
      have hd4 : bDr (σm 83) s := hd.to fun c c0 c1 => hc c (by omega)
      have A : pf_X9_setFeud 27 v x 1 s = some (0, on_st (on_st s 33 ((v * 4) + x) 1) 33 ((x * 4) + v) 1) := by
        unfold pf_X9_setFeud
        rw [bWr (by omega) (by omega), bWr (by omega) (by omega)]
      have s83 : on_st (on_st τ 83 ((157 + (4 * u)) + y) 1) 83 ((157 + (4 * y)) + u) 1 83 = bUp (bUp (σm 83) ((157 + (4 * u)) + y) 1) ((157 + (4 * y)) + u) 1 := by rw [bst_up, bst_up, hm 83 (by omega)]
      rw [bEqT (by omega) (by omega), bCl A, if_pos good, bWr (by omega) (by omega), bWr (by omega) (by omega)]
      refine ⟨_, _, rfl, rfl, ?_, fun c hc' => by rw [bst_nc (by omega), bst_nc (by omega), hc c (by omega)], fun c h7 h8 => by rw [bst_nc h8, bst_nc h8, hm c h7], fun i hi => by rw [bst_nc (by omega), bst_nc (by omega), h7 i hi], fun _ => ⟨?_, by rw [s83, bUp_ne (by omega), bUp_ne (by omega)], by rw [bst_nc (by omega), bst_nc (by omega)]; omega⟩⟩
      · exact hs.to (by rw [bst_nc (by omega), bst_nc (by omega)]) (fun i _ => by rw [bst_nc (by omega), bst_nc (by omega)]) (by rw [bst_nc (by omega), bst_nc (by omega)]) (by rw [bst_nc (by omega), bst_nc (by omega)])
      · refine bDr_feud hd4 (x := u) (y := y) (by omega) (by omega) (by omega) (by omega) s83 (fun c c0 c1 h1 => by rw [bst_nc h1, bst_nc h1]) ?_
        rw [bst_up, bst_up, g5.1, g6.1]
    · rw [bEqF (by omega) (by omega) (by omega), if_neg good]
      exact ⟨s, τ, rfl, rfl, bLn_bad hs good hc (fun c h7 _ => hm c h7) h7⟩)
  refine ⟨σ1, σ2, b1, ?_, b4⟩
  rw [m_way h hg hd hw (by omega), if_neg (by omega)]
  unfold pf_X12_readNext_171
  rw [bCl (m_good (by omega)), if_pos hg, bEqF (by omega) (by omega) (by omega), bCl (k_takes_not h hg hw (by omega) (by omega) (by omega)), bEqT (by omega) rfl, bCl (k_takes_not h hg hw (by omega) (by omega) (by omega)), bEqT (by omega) rfl, bCl (k_takes_not h hg hw (by omega) (by omega) (by omega)), bEqT (by omega) rfl, bCl (k_takes_not h hg hw (by omega) (by omega) (by omega)), bEqT (by omega) rfl, bCl (k_takes_not h hg hw (by omega) (by omega) (by omega)), bEqT (by omega) rfl, bCl (k_takes h hg (by omega) hw b2), bEqF (by omega) (by omega) (by omega), bCl b3]
theorem l_road (h : bLk T σc σm) (hg : σm 77 12 = 0) (hd : bDr (σm 83) σc) (hw : bWds T σm 16 = true) : ∃ σc' σm' : on_S, pf_X6_readRoad σc = some (0, σc') ∧ pf_X12_readNext σm = some (0, σm') ∧ bLn T σc σm σc' σm' := by
  obtain ⟨q0, q1, q2, q3, q4, q5, q6, q7⟩ := hd.k.c
  obtain ⟨σ1, σ2, τ1, b1, b2, b3, b4⟩ := l_two (l1 := 191) (l2 := 0) (F := pf_X6_readRoad_55) (G := pf_X6_readRoad_52) h hg hd (fun _ _ _ _ _ => rfl) (by
    intro v u x y s τ hs hc hm h7 hb hgd
    obtain ⟨k, j, σ4, τ4, d1, d2, d3, d4, d5, d6, d7, -⟩ := s_number hs (l := 1) (u := 99) (by omega) (by omega) (by omega) (by omega)
    have e8 := d3.2.2.2.1
    have hc4 : ∀ c, c ≠ 52 → σ4 c = σc c := fun c h => by rw [d4.1 c h, hc c h]
    have hm4 : ∀ c, c ≠ 77 → τ4 c = σm c := fun c h => by rw [d4.2.1 c h, hm c h]
    have h74 : ∀ i, (i < 8 ∨ 13 < i) → τ4 77 i = σm 77 i := fun i h => by rw [d4.2.2.1 i h, h7 i h]
    unfold pf_X6_readRoad_55
    rw [bCl d1, bEqT (by omega) (show (0 : Int) = 0 from rfl), bCl d2, bGt]
    unfold pf_X12_readTwo_39
    rw [bCl (m_good e8.2), bE01]
    by_cases good : τ4 77 12 = 0
    · have g4 := d4.2.2.2.1 good
      obtain ⟨g3, g5, g6⟩ := hgd g4.1
      have v3 := (d7 good).1
      have hd4 : bDr (σm 83) σ4 := hd.to fun c c0 c1 => hc4 c (by omega)
      have A : pf_X9_setRoad 27 v x k σ4 = some (0, on_st (on_st σ4 34 ((v * 4) + x) k) 34 ((x * 4) + v) k) := by
        unfold pf_X9_setRoad
        rw [bWr (by omega) (by omega), bWr (by omega) (by omega)]
      have s83 : on_st (on_st τ4 83 ((191 + (4 * u)) + y) j) 83 ((191 + (4 * y)) + u) j 83 = bUp (bUp (σm 83) ((191 + (4 * u)) + y) j) ((191 + (4 * y)) + u) j := by rw [bst_up, bst_up, hm4 83 (by omega)]
      rw [bEqT (by omega) (by omega), bCl A, if_pos good, bWr (by omega) (by omega), bWr (by omega) (by omega)]
      refine ⟨_, _, rfl, rfl, ?_, fun c hc' => by rw [bst_nc (by omega), bst_nc (by omega), hc4 c (by omega)], fun c h7 h8 => by rw [bst_nc h8, bst_nc h8, hm4 c h7], fun i hi => by rw [bst_nc (by omega), bst_nc (by omega), h74 i hi], fun _ => ⟨?_, by rw [s83, bUp_ne (by omega), bUp_ne (by omega)], by rw [bst_nc (by omega), bst_nc (by omega)]; omega⟩⟩
      · exact d3.to (by rw [bst_nc (by omega), bst_nc (by omega)]) (fun i _ => by rw [bst_nc (by omega), bst_nc (by omega)]) (by rw [bst_nc (by omega), bst_nc (by omega)]) (by rw [bst_nc (by omega), bst_nc (by omega)])
      · refine bDr_road hd4 (x := u) (y := y) (v := j) (by omega) (by omega) (by omega) (by omega) (by omega) (by omega) s83 (fun c c0 c1 h1 => by rw [bst_nc h1, bst_nc h1]) ?_
        rw [bst_up, bst_up, g5.1, g6.1, v3.1]
    · rw [bEqF (by omega) (by omega) (by omega), if_neg good]
      exact ⟨σ4, τ4, rfl, rfl, bLn_bad d3 good hc4 (fun c h7 _ => hm4 c h7) h74⟩)
  refine ⟨σ1, σ2, b1, ?_, b4⟩
  rw [m_way h hg hd hw (by omega), if_neg (by omega)]
  unfold pf_X12_readNext_171
  rw [bCl (m_good (by omega)), if_pos hg, bEqF (by omega) (by omega) (by omega), bCl (k_takes_not h hg hw (by omega) (by omega) (by omega)), bEqT (by omega) rfl, bCl (k_takes_not h hg hw (by omega) (by omega) (by omega)), bEqT (by omega) rfl, bCl (k_takes_not h hg hw (by omega) (by omega) (by omega)), bEqT (by omega) rfl, bCl (k_takes_not h hg hw (by omega) (by omega) (by omega)), bEqT (by omega) rfl, bCl (k_takes_not h hg hw (by omega) (by omega) (by omega)), bEqT (by omega) rfl, bCl (k_takes_not h hg hw (by omega) (by omega) (by omega)), bEqT (by omega) rfl, bCl (k_takes_not h hg hw (by omega) (by omega) (by omega)), bEqT (by omega) rfl, bCl b2, bCl b3]
end O81
