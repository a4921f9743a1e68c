/-! B: street: men and jumpers -/
section O79
variable {T : Int → Int} {σ σc σm σc' σm' : on_S}
theorem bLk.w83 (h : bLk T σc σm) (i v : Int) : bLk T σc (on_st σm 83 i v) := h.to rfl (fun _ _ => rfl) (bst_nc (by omega)) (bst_nc (by omega))
theorem k_takes_not (h : bLk T σc σm) (hg : σm 77 12 = 0) {k : Nat} (hw : bWds T σm k = true) (hk : k = 3 ∨ k = 4 ∨ k = 6 ∨ k = 11 ∨ k = 12 ∨ k = 13 ∨ k = 14 ∨ k = 16) {k' : Nat} (hk' : k' = 3 ∨ k' = 4 ∨ k' = 6 ∨ k' = 11 ∨ k' = 12 ∨ k' = 13 ∨ k' = 14 ∨ k' = 16) (hn : k ≠ k') : pf_X12_takes k' σm = some (0, σm) := k_takes_no h hg (by omega) (bWds_8 hw hk hk' hn)
theorem m_told {p : Nat} {l u v : Int} {σ1 σ2 : on_S} (h1 : pf_X12_needs p σ = some (0, σ1)) (h2 : pf_X12_number l u σ1 = some (v, σ2)) : pf_X12_told p l u σ = some (v, σ2) := by
  unfold pf_X12_told; rw [bCl h1, bCl h2]
theorem l_man (h : bLk T σc σm) (hg : σm 77 12 = 0) (hd : bDr (σm 83) σc) (hw : bWds T σm 4 = true) : ∃ σc' σm' : on_S, pf_X6_readMan σc = some (0, σc') ∧ pf_X12_readNext σm = some (0, σm') ∧ bLn T σc σm σc' σm' := by
  obtain ⟨q0, q1, q2, q3, q4, q5, q6, q7⟩ := hd.k.c
  obtain ⟨r0, r1, r2, r3, r4, r5, r6, r7⟩ := hd.r.c
  obtain ⟨σ1, τ1, a1, a2, a3, a4, a5⟩ := s_room h hg (n := σm 83 3) (N := 9) (by omega) (by omega) (by omega)
  have f1 := a3.1
  obtain ⟨v, u, σ2, τ2, b1, b2, b3, b4, b5, b6, b7, -⟩ := s_number a2 (l := 0) (u := σm 83 0 - 1) (by omega) (by omega) (by omega) (by omega)
  have L3 := b3.w83 (26 + (4 * σm 83 3)) u
  have t12 : on_st τ2 83 (26 + (4 * σm 83 3)) u 77 12 = τ2 77 12 := by rw [bst_nc (by omega)]
  obtain ⟨σ3, τ3, d1, d2, d3, d4⟩ := s_word L3 (k := 5) (by omega)
  obtain ⟨x, y, σ4, τ4, c1, c2, c3, c4, c5, c6, c7, -⟩ := s_number d3 (l := 1) (u := 60) (by omega) (by omega) (by omega) (by omega)
  have hc : ∀ c, c ≠ 52 → σ4 c = σc c := fun c hc => by rw [c4.1 c hc, d4.1 c hc, b4.1 c hc, f1 c hc]
  have s83 : τ4 83 = bUp (σm 83) (26 + (4 * σm 83 3)) u := by rw [c4.2.1 83 (by omega), d4.2.1 83 (by omega), bst_up, b4.2.1 83 (by omega), a3.2.1 83 (by omega)]
  have e8 := c3.2.2.2.1
  have C : pf_X6_readMan σc = on_Eq (σ4 52 8) 0 (on_Cl (pf_X3_hire 27 v x σ4) fun _ σ13 => some (0, σ13)) (some (0, σ4)) := by
    unfold pf_X6_readMan
    rw [bGt, show σc (27 + 8) 0 = σm 83 3 from r5, bCl a1, bGt, f1 27 (by omega), r0, bCl b1, bCl d1, bCl c1, bGt]
  by_cases full : σm 83 3 = 9
  · have e1 := a4 full
    have bad1 : τ1 77 12 ≠ 0 := by rw [e1, bErr_12]; omega
    have e2 : τ2 = τ1 := b4.2.2.2.2 bad1
    have bad2 : on_st τ2 83 (26 + (4 * σm 83 3)) u 77 12 ≠ 0 := by rw [t12, e2]; exact bad1
    have e3 : τ3 = on_st τ2 83 (26 + (4 * σm 83 3)) u := d4.2.2.2.2 bad2
    have e4 : τ4 = τ3 := c4.2.2.2.2 (by rw [e3]; exact bad2)
    have b12 : τ4 77 12 ≠ 0 := by rw [e4, e3]; exact bad2
    have L : bLk T σ4 τ1 := c3.to rfl (fun _ _ => rfl) (by rw [e4, e3, bst_nc (by omega), e2]) (by rw [e4, e3, bst_nc (by omega), e2])
    refine ⟨σ4, τ1, ?_, ?_, bLn_bad L bad1 hc (fun c h7 h8 => a3.2.1 c h7) a3.2.2.1⟩
    · rw [C, bEqF (by omega) (by omega) (by omega)]
    · obtain ⟨-, -, m2, -, -⟩ := m_166 h hg
      rw [m_way h hg hd hw (by omega), if_pos (Or.inr (Or.inl ⟨rfl, full⟩)), m2, e1]
  · have adv := a5 full
    have g83 : τ1 83 = σm 83 := a3.2.1 83 (by omega)
    have M : pf_X12_readNext σm = some (0, on_st (on_st (on_st (on_st τ4 83 ((26 + (4 * σm 83 3)) + 1) y) 83 ((26 + (4 * σm 83 3)) + 2) (-1)) 83 ((26 + (4 * σm 83 3)) + 3) (-1)) 83 3 (σm 83 3 + 1)) := by
      rw [m_way h hg hd hw (by omega), if_neg (by omega)]
      unfold pf_X12_readNext_171
      rw [bCl (m_good (by omega)), if_pos hg, bEqF (by omega) (by omega) (by omega), bCl (k_takes_not h hg hw (by omega) (by omega) (by omega)), bEqT (by omega) rfl, bCl (k_takes h hg (by omega) hw adv), bEqF (by omega) (by omega) (by omega), bRd (by omega) (by omega), g83, bCl (show pf_X12_freshHouse τ1 = some (u, τ2) by unfold pf_X12_freshHouse; rw [bRd (by omega) (by omega), g83, bCl b2]), bWr (by omega) (by omega), bCl (m_told d2 c2), bWr (by omega) (by omega), bWr (by omega) (by omega), bWr (by omega) (by omega), bRd (by omega) (by omega), bst_ni (by omega), bst_ni (by omega), bst_ni (by omega), s83, bUp_ne (by omega), bWr (by omega) (by omega)]
    have z77 : on_st (on_st (on_st (on_st τ4 83 ((26 + (4 * σm 83 3)) + 1) y) 83 ((26 + (4 * σm 83 3)) + 2) (-1)) 83 ((26 + (4 * σm 83 3)) + 3) (-1)) 83 3 (σm 83 3 + 1) 77 = τ4 77 := by rw [bst_nc (by omega), bst_nc (by omega), bst_nc (by omega), bst_nc (by omega)]
    have z83 : on_st (on_st (on_st (on_st τ4 83 ((26 + (4 * σm 83 3)) + 1) y) 83 ((26 + (4 * σm 83 3)) + 2) (-1)) 83 ((26 + (4 * σm 83 3)) + 3) (-1)) 83 3 (σm 83 3 + 1) 83 = bUp (bUp (bUp (bUp (bUp (σm 83) (26 + (4 * σm 83 3)) u) ((26 + (4 * σm 83 3)) + 1) y) ((26 + (4 * σm 83 3)) + 2) (-1)) ((26 + (4 * σm 83 3)) + 3) (-1)) 3 (σm 83 3 + 1) := by rw [bst_up, bst_up, bst_up, bst_up, s83]
    have zc : ∀ c, c ≠ 77 → c ≠ 83 → on_st (on_st (on_st (on_st τ4 83 ((26 + (4 * σm 83 3)) + 1) y) 83 ((26 + (4 * σm 83 3)) + 2) (-1)) 83 ((26 + (4 * σm 83 3)) + 3) (-1)) 83 3 (σm 83 3 + 1) c = σm c := fun c h7 h8 => by rw [bst_nc h8, bst_nc h8, bst_nc h8, bst_nc h8, c4.2.1 c h7, d4.2.1 c h7, bst_nc h8, b4.2.1 c h7, a3.2.1 c h7]
    have z7i : ∀ i, (i < 8 ∨ 13 < i) → τ4 77 i = σm 77 i := fun i hi => by rw [c4.2.2.1 i hi, d4.2.2.1 i hi, bst_nc (by omega), b4.2.2.1 i hi, a3.2.2.1 i hi]
    generalize on_st (on_st (on_st (on_st τ4 83 ((26 + (4 * σm 83 3)) + 1) y) 83 ((26 + (4 * σm 83 3)) + 2) (-1)) 83 ((26 + (4 * σm 83 3)) + 3) (-1)) 83 3 (σm 83 3 + 1) = Z at *
    have LZ : bLk T σ4 Z := c3.to rfl (fun _ _ => rfl) z77 (by rw [zc 81 (by omega) (by omega), c4.2.1 81 (by omega), d4.2.1 81 (by omega), bst_nc (by omega), b4.2.1 81 (by omega), a3.2.1 81 (by omega)])
    by_cases good : τ4 77 12 = 0
    · have g4 := c4.2.2.2.1 good
      have g3 := d4.2.2.2.1 g4.1
      rw [t12, bst_nc (by omega)] at g3
      have g2 := b4.2.2.2.1 g3.1
      have g1 := a3.2.2.2.1 g2.1
      have v1 := (b7 g3.1).1
      have v2 := (c7 good).1
      have hd3 : bDr (σm 83) σ4 := hd.to fun c c0 c1 => hc c (by omega)
      have k3 : σ4 35 0 = σm 83 3 := hd3.r.c.2.2.2.2.2.1
      have A : pf_X3_hire 27 v x σ4 = some (0, on_st (on_st (on_st (on_st (on_st σ4 36 (σm 83 3) v) 37 (σm 83 3) x) 38 (σm 83 3) (-1)) 39 (σm 83 3) (-1)) 35 0 (σm 83 3 + 1)) := by
        unfold pf_X3_hire
        show on_Gt σ4 35 0 _ = _
        rw [bGt, k3, bLtT (by omega) (by omega) (by omega), bGt, k3, bWr (by omega) (by omega), bGt, bst_nc (by omega), k3, bWr (by omega) (by omega), bGt, bst_nc (by omega), bst_nc (by omega), k3, bWr (by omega) (by omega), bGt, bst_nc (by omega), bst_nc (by omega), bst_nc (by omega), k3, bWr (by omega) (by omega), bGt, bst_nc (by omega), bst_nc (by omega), bst_nc (by omega), bst_nc (by omega), k3, bPt]
      refine ⟨on_st (on_st (on_st (on_st (on_st σ4 36 (σm 83 3) v) 37 (σm 83 3) x) 38 (σm 83 3) (-1)) 39 (σm 83 3) (-1)) 35 0 (σm 83 3 + 1), Z, by rw [C, bEqT (by omega) (by omega), bCl A], M, ?_, ?_, zc, fun i hi => by rw [z77, z7i i hi], fun _ => ⟨?_, by rw [z83, bUp_ne (by omega), bUp_ne (by omega), bUp_ne (by omega), bUp_ne (by omega), bUp_ne (by omega)], by rw [z77]; omega⟩⟩
      · exact LZ.to (by rw [bst_nc (by omega), bst_nc (by omega), bst_nc (by omega), bst_nc (by omega), bst_nc (by omega)]) (fun i _ => by rw [bst_nc (by omega), bst_nc (by omega), bst_nc (by omega), bst_nc (by omega), bst_nc (by omega)]) rfl rfl
      · exact fun c hc' => by rw [bst_nc (by omega), bst_nc (by omega), bst_nc (by omega), bst_nc (by omega), bst_nc (by omega), hc c (by omega)]
      · refine bDr_man hd3 (x := u) (s := y) (by omega) (by omega) (by omega) (by omega) (by omega) z83 (fun c c0 c1 h1 h2 h3 h4 h5 => by rw [bst_nc h1, bst_nc h5, bst_nc h4, bst_nc h3, bst_nc h2]) ?_ ?_ ?_ ?_ ?_
        · rw [bst_up, bst_nc (by omega), bst_nc (by omega), bst_nc (by omega), bst_nc (by omega)]
        · rw [bst_nc (by omega), bst_nc (by omega), bst_nc (by omega), bst_nc (by omega), bst_up, v1.1]
        · rw [bst_nc (by omega), bst_nc (by omega), bst_nc (by omega), bst_up, bst_nc (by omega), v2.1]
        · rw [bst_nc (by omega), bst_nc (by omega), bst_up, bst_nc (by omega), bst_nc (by omega)]
        · rw [bst_nc (by omega), bst_up, bst_nc (by omega), bst_nc (by omega), bst_nc (by omega)]
    · exact ⟨σ4, Z, by rw [C, bEqF (by omega) (by omega) (by omega)], M, bLn_bad LZ (by rw [z77]; exact good) hc zc (fun i hi => by rw [z77, z7i i hi])⟩
theorem l_jumper (h : bLk T σc σm) (hg : σm 77 12 = 0) (hd : bDr (σm 83) σc) (hw : bWds T σm 14 = true) : ∃ σc' σm' : on_S, pf_X6_readJumper σc = some (0, σc') ∧ pf_X12_readNext σm = some (0, σm') ∧ bLn T σc σm σc' σm' := by
  obtain ⟨q0, q1, q2, q3, q4, q5, q6, q7⟩ := hd.k.c
  obtain ⟨r0, r1, r2, r3, r4, r5, r6, r7⟩ := hd.r.c
  obtain ⟨σ1, τ1, a1, a2, a3, a4, a5⟩ := s_room h hg (n := σm 83 5) (N := 9) (by omega) (by omega) (by omega)
  have f1 := a3.1
  obtain ⟨σ0, τ0, i1, i2, i3, i4⟩ := s_word a2 (k := 15) (by omega)
  obtain ⟨v, u, σ2, τ2, b1, b2, b3, b4, b5, b6, b7, -⟩ := s_number i3 (l := 1) (u := 99) (by omega) (by omega) (by omega) (by omega)
  have L3 := b3.w83 (173 + (2 * σm 83 5)) u
  have t12 : on_st τ2 83 (173 + (2 * σm 83 5)) u 77 12 = τ2 77 12 := by rw [bst_nc (by omega)]
  obtain ⟨σ3, τ3, d1, d2, d3, d4⟩ := s_word L3 (k := 7) (by omega)
  obtain ⟨x, y, σ4, τ4, c1, c2, c3, c4, c5, c6, c7, -⟩ := s_number d3 (l := 0) (u := σm 83 2 - 1) (by omega) (by omega) (by omega) (by omega)
  have hc : ∀ c, c ≠ 52 → σ4 c = σc c := fun c hc => by rw [c4.1 c hc, d4.1 c hc, b4.1 c hc, i4.1 c hc, f1 c hc]
  have h3c : ∀ c, c ≠ 52 → σ3 c = σc c := fun c hc => by rw [d4.1 c hc, b4.1 c hc, i4.1 c hc, f1 c hc]
  have s83 : τ3 83 = bUp (σm 83) (173 + (2 * σm 83 5)) u := by rw [d4.2.1 83 (by omega), bst_up, b4.2.1 83 (by omega), i4.2.1 83 (by omega), a3.2.1 83 (by omega)]
  have s834 : τ4 83 = bUp (σm 83) (173 + (2 * σm 83 5)) u := by rw [c4.2.1 83 (by omega), s83]
  have e8 := c3.2.2.2.1
  have C : pf_X6_readJumper σc = on_Eq (σ4 52 8) 0 (on_Cl (pf_X9_addJumper 27 v x σ4) fun _ σ15 => some (0, σ15)) (some (0, σ4)) := by
    unfold pf_X6_readJumper
    rw [bGt, r4, bCl a1, bCl i1, bCl b1, bCl d1, bGt, h3c 27 (by omega), r3, bCl c1, bGt]
  by_cases full : σm 83 5 = 9
  · have e1 := a4 full
    have bad1 : τ1 77 12 ≠ 0 := by rw [e1, bErr_12]; omega
    have e0 : τ0 = τ1 := i4.2.2.2.2 bad1
    have e2 : τ2 = τ0 := b4.2.2.2.2 (by rw [e0]; exact bad1)
    have bad2 : on_st τ2 83 (173 + (2 * σm 83 5)) u 77 12 ≠ 0 := by rw [t12, e2, e0]; exact bad1
    have e3 : τ3 = on_st τ2 83 (173 + (2 * σm 83 5)) u := d4.2.2.2.2 bad2
    have e4 : τ4 = τ3 := c4.2.2.2.2 (by rw [e3]; exact bad2)
    have b12 : τ4 77 12 ≠ 0 := by rw [e4, e3]; exact bad2
    have L : bLk T σ4 τ1 := c3.to rfl (fun _ _ => rfl) (by rw [e4, e3, bst_nc (by omega), e2, e0]) (by rw [e4, e3, bst_nc (by omega), e2, e0])
    refine ⟨σ4, τ1, ?_, ?_, bLn_bad L bad1 hc (fun c h7 h8 => a3.2.1 c h7) a3.2.2.1⟩
    · rw [C, bEqF (by omega) (by omega) (by omega)]
    · obtain ⟨-, -, m2, -, -⟩ := m_166 h hg
      rw [m_way h hg hd hw (by omega), if_pos (Or.inr (Or.inr (Or.inr ⟨rfl, full⟩))), m2, e1]
  · have adv := a5 full
    have g83 : τ1 83 = σm 83 := a3.2.1 83 (by omega)
    have M : pf_X12_readNext σm = some (0, on_st (on_st τ4 83 ((173 + (2 * σm 83 5)) + 1) y) 83 5 (σm 83 5 + 1)) := by
      rw [m_way h hg hd hw (by omega), if_neg (by omega)]
      unfold pf_X12_readNext_171
      rw [bCl (m_good (by omega)), if_pos hg, bEqF (by omega) (by omega) (by omega), bCl (k_takes_not h hg hw (by omega) (by omega) (by omega)), bEqT (by omega) rfl, bCl (k_takes_not h hg hw (by omega) (by omega) (by omega)), bEqT (by omega) rfl, bCl (k_takes_not h hg hw (by omega) (by omega) (by omega)), bEqT (by omega) rfl, bCl (k_takes_not h hg hw (by omega) (by omega) (by omega)), bEqT (by omega) rfl, bCl (k_takes_not h hg hw (by omega) (by omega) (by omega)), bEqT (by omega) rfl, bCl (k_takes_not h hg hw (by omega) (by omega) (by omega)), bEqT (by omega) rfl, bCl (k_takes h hg (by omega) hw adv), bEqF (by omega) (by omega) (by omega), bRd (by omega) (by omega), g83, bCl (m_told i2 b2), bWr (by omega) (by omega), bCl d2, bCl (show pf_X12_freshWindow τ3 = some (y, τ4) by unfold pf_X12_freshWindow; rw [bRd (by omega) (by omega), s83, bUp_ne (by omega), bCl c2]), bWr (by omega) (by omega), bRd (by omega) (by omega), bst_ni (by omega), s834, bUp_ne (by omega), bWr (by omega) (by omega)]
    have z77 : on_st (on_st τ4 83 ((173 + (2 * σm 83 5)) + 1) y) 83 5 (σm 83 5 + 1) 77 = τ4 77 := by rw [bst_nc (by omega), bst_nc (by omega)]
    have z83 : on_st (on_st τ4 83 ((173 + (2 * σm 83 5)) + 1) y) 83 5 (σm 83 5 + 1) 83 = bUp (bUp (bUp (σm 83) (173 + (2 * σm 83 5)) u) ((173 + (2 * σm 83 5)) + 1) y) 5 (σm 83 5 + 1) := by rw [bst_up, bst_up, s834]
    have zc : ∀ c, c ≠ 77 → c ≠ 83 → on_st (on_st τ4 83 ((173 + (2 * σm 83 5)) + 1) y) 83 5 (σm 83 5 + 1) c = σm c := fun c h7 h8 => by rw [bst_nc h8, bst_nc h8, c4.2.1 c h7, d4.2.1 c h7, bst_nc h8, b4.2.1 c h7, i4.2.1 c h7, a3.2.1 c h7]
    have z7i : ∀ i, (i < 8 ∨ 13 < i) → τ4 77 i = σm 77 i := fun i hi => by rw [c4.2.2.1 i hi, d4.2.2.1 i hi, bst_nc (by omega), b4.2.2.1 i hi, i4.2.2.1 i hi, a3.2.2.1 i hi]
    generalize on_st (on_st τ4 83 ((173 + (2 * σm 83 5)) + 1) y) 83 5 (σm 83 5 + 1) = Z at *
    have LZ : bLk T σ4 Z := c3.to rfl (fun _ _ => rfl) z77 (by rw [zc 81 (by omega) (by omega), c4.2.1 81 (by omega), d4.2.1 81 (by omega), bst_nc (by omega), b4.2.1 81 (by omega), i4.2.1 81 (by omega), a3.2.1 81 (by omega)])
    by_cases good : τ4 77 12 = 0
    · have g4 := c4.2.2.2.1 good
      have g3 := d4.2.2.2.1 g4.1
      rw [t12, bst_nc (by omega)] at g3
      have g2 := b4.2.2.2.1 g3.1
      have g0 := i4.2.2.2.1 g2.1
      have g1 := a3.2.2.2.1 g0.1
      have v1 := (b7 g3.1).1
      have v2 := (c7 good).1
      have hd3 : bDr (σm 83) σ4 := hd.to fun c c0 c1 => hc c (by omega)
      have k3 : σ4 27 7 = σm 83 5 := hd3.r.c.2.2.2.2.1
      have A : pf_X9_addJumper 27 v x σ4 = some (0, on_st (on_st (on_st σ4 31 (σm 83 5) v) 32 (σm 83 5) x) 27 7 (σm 83 5 + 1)) := by
        unfold pf_X9_addJumper
        rw [bGt, k3, bLtT (by omega) (by omega) (by omega), bGt, k3, bWr (by omega) (by omega), bGt, bst_nc (by omega), k3, bWr (by omega) (by omega), bGt, bst_nc (by omega), bst_nc (by omega), k3, bPt]
      refine ⟨on_st (on_st (on_st σ4 31 (σm 83 5) v) 32 (σm 83 5) x) 27 7 (σm 83 5 + 1), Z, by rw [C, bEqT (by omega) (by omega), bCl A], M, ?_, ?_, zc, fun i hi => by rw [z77, z7i i hi], fun _ => ⟨?_, by rw [z83, bUp_ne (by omega), bUp_ne (by omega), bUp_ne (by omega)], by rw [z77]; omega⟩⟩
      · exact LZ.to (by rw [bst_nc (by omega), bst_nc (by omega), bst_nc (by omega)]) (fun i _ => by rw [bst_nc (by omega), bst_nc (by omega), bst_nc (by omega)]) rfl rfl
      · exact fun c hc' => by rw [bst_nc (by omega), bst_nc (by omega), bst_nc (by omega), hc c (by omega)]
      · refine bDr_jumper hd3 (x := y) (s := u) (by omega) (by omega) (by omega) (by omega) (by omega) z83 (fun c c0 c1 h1 h2 h3 => by rw [bst_nc h1, bst_nc h3, bst_nc h2]) ?_ ?_ ?_
        · rw [bst_up, bst_nc (by omega), bst_nc (by omega)]
        · rw [bst_nc (by omega), bst_nc (by omega), bst_up, v1.1]
        · rw [bst_nc (by omega), bst_up, bst_nc (by omega), v2.1]
    · exact ⟨σ4, Z, by rw [C, bEqF (by omega) (by omega) (by omega)], M, bLn_bad LZ (by rw [z77]; exact good) hc zc (fun i hi => by rw [z77, z7i i hi])⟩
end O79
