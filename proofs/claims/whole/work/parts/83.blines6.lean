/-! B: street: nets -/
section O83
variable {T : Int → Int} {σ σc σm σc' σm' : on_S}
/-- the reference looks at every net for who hangs there -/
theorem m_net21 {w : bW} (hk : bOk w) {l1 : Int} : ∀ (r nf : Nat) (k : Int) (τ : on_S), bRn τ → τ 83 = w → 0 ≤ k → k + (r : Int) = w 4 → r < nf → pf_X12_readNet_21 nf l1 k τ = on_Cl (pf_X12_freshWindow (bPre2 (fun t => bFst (fun n => decide (bNet w n 0 = t)) r k != -1) τ)) fun v10 σ11 => on_Wr σ11 83 687 (l1 + 0) v10 fun σ12 => on_Cl (pf_X12_told 8 1 99 σ12) fun v13 σ14 => on_Wr σ14 83 687 (l1 + 3) v13 fun σ15 => pf_X12_readNet_94 on_N l1 1 σ15 := by
  have q2 := hk.c.2.2.1
  have q4 := hk.c.2.2.2.2.1
  intro r
  induction r with
  | zero =>
    intro nf k τ hr hw k0 hkr hnf
    cases nf with
    | zero => omega
    | succ nf => rw [pf_X12_readNet_21, bRd (by omega) (by omega), hw, bLtF (by omega) (by omega) (by omega), bPre2_none (B := fun t => bFst (fun n => decide (bNet w n 0 = t)) 0 k != -1) (fun _ => rfl)]
  | succ r ih =>
    intro nf k τ hr hw k0 hkr hnf
    cases nf with
    | zero => omega
    | succ nf =>
      have hn := (hk.n k k0 (by omega)).1
      have e2 : τ 83 ((62 + (7 * k)) + 0) = bNet w k 0 := by rw [hw]; rfl
      rw [pf_X12_readNet_21, bRd (by omega) (by omega), hw, bLtT (by omega) (by omega) (by omega), bRd (by omega) (by omega), e2, k_next2 hr (by omega) (fun s => pf_X12_readNet_21 nf l1 (k + 1) s), ih nf (k + 1) _ (hr.pre _) (by rw [bPre2_c _ (by omega)]; exact hw) (by omega) (by omega) (by omega), bPre2_or]
      rw [bPre2_cong (B' := fun t => bFst (fun n => decide (bNet w n 0 = t)) (r + 1) k != -1) (fun _ _ => ?_)]
      show ((τ 77 11 == bNet w k 0) || (bFst (fun n => decide (bNet w n 0 = τ 77 11)) r (k + 1) != -1)) = (bFst (fun n => decide (bNet w n 0 = τ 77 11)) (r + 1) k != -1)
      rw [bFst]
      by_cases y : bNet w k 0 = τ 77 11
      · rw [decide_eq_true y, if_pos rfl, beq_iff_eq.mpr y.symm, Bool.true_or]
        exact (bne_iff_ne.mpr (by omega)).symm
      · rw [decide_eq_false y, if_neg Bool.false_ne_true, beq_eq_false_iff_ne.mpr (fun t => y t.symm), Bool.false_or]
/-- one knot -/
theorem n_knot (h : bLk T σc σm) {n c l2 : Int} (n0 : 0 ≤ n) (n1 : n ≤ 1) (c0 : 0 ≤ c) (c1 : c < 4) : ∃ (u : Int) (σc' τ : on_S), (∀ nf : Nat, pf_X6_readNet_75 (nf + 1) n l2 c σc = pf_X6_readNet_75 nf n l2 (c + 1) σc') ∧ pf_X12_number 1 99 σm = some (u, τ) ∧ bLk T σc' τ ∧ (∀ k, k ≠ 52 → k ≠ 45 → σc' k = σc k) ∧ (∀ k, k ≠ 77 → τ k = σm k) ∧ (∀ i, (i < 8 ∨ 13 < i) → τ 77 i = σm 77 i) ∧ (σm 77 12 ≠ 0 → τ = σm) ∧ (0 ≤ u ∧ u ≤ 99) ∧ (∀ j, j ≠ (n * 4) + c → σc' 45 j = σc 45 j) ∧ (τ 77 12 = 0 → σm 77 12 = 0 ∧ σm 77 9 ≤ τ 77 9 ∧ 1 ≤ u ∧ σc' 45 ((n * 4) + c) = u) := by
  obtain ⟨v, u, σ1, τ, a1, a2, a3, a4, a5, a6, a7, -⟩ := s_number h (l := 1) (u := 99) (by omega) (by omega) (by omega) (by omega)
  have e8 := a3.2.2.2.1
  by_cases good : τ 77 12 = 0
  · have g := a4.2.2.2.1 good
    have w := (a7 good).1
    refine ⟨u, on_st σ1 45 ((n * 4) + c) v, τ, fun nf => ?_, a2, a3.to (bst_nc (by omega)) (fun i _ => by rw [bst_nc (by omega)]) rfl rfl, fun k h5 h4 => by rw [bst_nc h4, a4.1 k h5], a4.2.1, a4.2.2.1, a4.2.2.2.2, a6, fun j hj => by rw [bst_ni hj, a4.1 45 (by omega)], fun _ => ⟨g.1, g.2, by omega, by rw [bst_eq]; omega⟩⟩
    rw [pf_X6_readNet_75, bLtT (by omega) (by omega) c1, bCl a1, bGt, bEqT (by omega) (by omega), bWr (by omega) (by omega)]
  · refine ⟨u, σ1, τ, fun nf => ?_, a2, a3, fun k h5 h4 => a4.1 k h5, a4.2.1, a4.2.2.1, a4.2.2.2.2, a6, fun j hj => by rw [a4.1 45 (by omega)], fun t => absurd t good⟩
    rw [pf_X6_readNet_75, bLtT (by omega) (by omega) c1, bCl a1, bGt, bEqF (by omega) (by omega) (by omega)]
/-- from the word knots on: what the class does, from a state of both -/
theorem n_rest (hd : bDr (σm 83) σc) {n x y : Int} (hn : n = σm 83 4) (n2 : n ≤ 2) {s τ : on_S} (hs : bLk T s τ) (hc : ∀ c, c ≠ 52 → s c = σc c) (hbad : n = 2 → τ 77 12 ≠ 0) (xb : 0 ≤ x ∧ x ≤ 99) (yb : 0 ≤ y ∧ y ≤ 99) (hgd : τ 77 12 = 0 → (∀ c, c ≠ 77 → τ c = σm c) ∧ (∀ i, (i < 8 ∨ 13 < i) → τ 77 i = σm 77 i) ∧ σm 77 9 ≤ τ 77 9 ∧ (x = y ∧ 0 ≤ y ∧ y < σm 83 2 ∧ bNetAt (σm 83) y = -1)) (hm83 : n < 2 → τ 83 = σm 83) (hmc : n < 2 → (∀ c, c ≠ 77 → τ c = σm c) ∧ (∀ i, (i < 8 ∨ 13 < i) → τ 77 i = σm 77 i)) : ∃ σc' : on_S, pf_X6_readNet_67 n x s = some (0, σc') ∧ ((n = 2 ∧ bLk T σc' τ ∧ (∀ c, (c < 27 ∨ 52 < c) → σc' c = σc c)) ∨ (n < 2 ∧ ∃ σm' : on_S, (on_Wr τ 83 687 ((62 + (7 * n)) + 0) y fun σ12 => on_Cl (pf_X12_told 8 1 99 σ12) fun v13 σ14 => on_Wr σ14 83 687 ((62 + (7 * n)) + 3) v13 fun σ15 => pf_X12_readNet_94 on_N (62 + (7 * n)) 1 σ15) = some (0, σm') ∧ bLn T σc σm σc' σm')) := by
  obtain ⟨q0, q1, q2, q3, q4, q5, q6, q7⟩ := hd.k.c
  have e8s := hs.2.2.2.1
  by_cases full : n = 2
  · -- the class alone, and nothing comes of it
    have b0 : s 52 8 ≠ 0 := by have := hbad full; omega
    obtain ⟨σ1, τ1, c1, c2, c3, c4⟩ := s_word hs (k := 8) (by omega)
    have e1 : τ1 = τ := c4.2.2.2.2 (hbad full)
    subst e1
    have kn : ∀ (s : on_S) (c : Int), bLk T s τ1 → 0 ≤ c → c < 4 → ∃ s' : on_S, (∀ nf : Nat, pf_X6_readNet_75 (nf + 1) n x c s = pf_X6_readNet_75 nf n x (c + 1) s') ∧ bLk T s' τ1 ∧ (∀ k, k ≠ 52 → s' k = s k) := by
      intro s c hs c0 c4
      have e8 := hs.2.2.2.1
      have := hbad full
      refine ⟨on_st s 52 7 (s 52 5), fun nf => ?_, hs.to (bst_nc (by omega)) (fun i hi => bst_ni hi) rfl rfl, fun k hk => bst_nc hk⟩
      rw [pf_X6_readNet_75, bLtT (by omega) (by omega) c4, bCl (c_num_bad hs.2.2.2.2.2.1.1 hs.2.2.2.2.2.1.2.1 (by omega) (by omega) (by omega) (by omega)), bGt, bst_ni (by omega), bEqF (by omega) (by omega) (by omega)]
    obtain ⟨s1, k1, m1, o1⟩ := kn σ1 0 c3 (by omega) (by omega)
    obtain ⟨s2, k2, m2, o2⟩ := kn s1 1 m1 (by omega) (by omega)
    obtain ⟨s3, k3, m3, o3⟩ := kn s2 2 m2 (by omega) (by omega)
    obtain ⟨s4, k4, m4, o4⟩ := kn s3 3 m3 (by omega) (by omega)
    obtain ⟨s5, τ5, d1, d2, d3, d4⟩ := s_word m4 (k := 9) (by omega)
    have e5 : τ5 = τ1 := d4.2.2.2.2 (hbad full)
    subst e5
    obtain ⟨v, u, s6, τ6, i1, i2, i3, i4, i5, i6, i7, -⟩ := s_number d3 (l := 0) (u := 9) (by omega) (by omega) (by omega) (by omega)
    have e6 : τ6 = τ5 := i4.2.2.2.2 (hbad full)
    subst e6
    have e8 := i3.2.2.2.1
    have := hbad full
    refine ⟨s6, ?_, Or.inl ⟨full, i3, fun c hc' => by rw [i4.1 c (by omega), d4.1 c (by omega), o4 c (by omega), o3 c (by omega), o2 c (by omega), o1 c (by omega), c4.1 c (by omega), hc c (by omega)]⟩⟩
    unfold pf_X6_readNet_67
    rw [bCl c1, show on_N = 99995 + 1 + 1 + 1 + 1 + 1 from rfl, k1, show (0 : Int) + 1 = 1 from rfl, k2, show (1 : Int) + 1 = 2 from rfl, k3, show (2 : Int) + 1 = 3 from rfl, k4, pf_X6_readNet_75, bLtF (by omega) (by omega) (by omega), bCl d1, bCl i1, bGt, bEqF (by omega) (by omega) (by omega)]
    unfold pf_X6_readNet_154 pf_X6_readNet_155 pf_X6_readNet_166
    rw [bEqT (by omega) rfl, bGt, bEqF (by omega) (by omega) (by omega)]
  · have nl : n < 2 := by omega
    have hm8 := hm83 nl
    obtain ⟨hmc1, hmc2⟩ := hmc nl
    have L0 := hs.w83 ((62 + (7 * n)) + 0) y
    obtain ⟨σ1, τ1, c1, c2, c3, c4⟩ := s_word L0 (k := 8) (by omega)
    -- the four knots
    obtain ⟨u0, s1, t1, k1, n1, m1, o1, p1, r1, -, x1, z1, g1⟩ := n_knot c3 (n := n) (c := 0) (l2 := x) (by omega) (by omega) (by omega) (by omega)
    obtain ⟨u1, s2, t2, k2, n2', m2, o2, p2, r2, -, x2, z2, g2⟩ := n_knot (m1.w83 ((62 + (7 * n)) + 3) u0) (n := n) (c := 1) (l2 := x) (by omega) (by omega) (by omega) (by omega)
    obtain ⟨u2, s3, t3, k3, n3, m3, o3, p3, r3, -, x3, z3, g3⟩ := n_knot (m2.w83 (((62 + (7 * n)) + 3) + 1) u1) (n := n) (c := 2) (l2 := x) (by omega) (by omega) (by omega) (by omega)
    obtain ⟨u3, s4, t4, k4, n4, m4, o4, p4, r4, -, x4, z4, g4⟩ := n_knot (m3.w83 (((62 + (7 * n)) + 3) + 2) u2) (n := n) (c := 3) (l2 := x) (by omega) (by omega) (by omega) (by omega)
    obtain ⟨s5, τ5, d1, d2, d3, d4⟩ := s_word (m4.w83 (((62 + (7 * n)) + 3) + 3) u3) (k := 9) (by omega)
    obtain ⟨v, u, s6, τ6, i1, i2, i3, i4, i5, i6, i7, -⟩ := s_number d3 (l := 0) (u := 9) (by omega) (by omega) (by omega) (by omega)
    have e8 := i3.2.2.2.1
    have L7 := i3.w83 ((62 + (7 * n)) + 1) u
    have M1 : (on_Wr τ 83 687 ((62 + (7 * n)) + 0) y fun σ12 => on_Cl (pf_X12_told 8 1 99 σ12) fun v13 σ14 => on_Wr σ14 83 687 ((62 + (7 * n)) + 3) v13 fun σ15 => pf_X12_readNet_94 on_N (62 + (7 * n)) 1 σ15) = on_Cl (pf_X12_takes 10 (on_st τ6 83 ((62 + (7 * n)) + 1) u)) fun v22 σ23 => on_Eq v22 0 (pf_X12_readNet_160 ((62 + (7 * n)) + 2) 0 σ23) (pf_X12_readNet_160 ((62 + (7 * n)) + 2) 1 σ23) := by
      rw [bWr (by omega) (by omega), bCl (m_told c2 n1), bWr (by omega) (by omega), show on_N = 99996 + 1 + 1 + 1 + 1 from rfl, pf_X12_readNet_94, bLtT (by omega) (by omega) (by omega), bCl n2', bWr (by omega) (by omega), show (1 : Int) + 1 = 2 from rfl, pf_X12_readNet_94, bLtT (by omega) (by omega) (by omega), bCl n3, bWr (by omega) (by omega), show (2 : Int) + 1 = 3 from rfl, pf_X12_readNet_94, bLtT (by omega) (by omega) (by omega), bCl n4, bWr (by omega) (by omega), pf_X12_readNet_94, bLtF (by omega) (by omega) (by omega), bCl (m_told d2 i2), bWr (by omega) (by omega)]
    have C1 : pf_X6_readNet_67 n x s = on_Eq (s6 52 8) 0 (on_Cl (pf_X6_isWord 10 s6) fun v24 σ25 => on_Eq v24 0 (pf_X6_readNet_154 n x v σ25) (pf_X6_readNet_155 n x v 1 σ25)) (pf_X6_readNet_154 n x v s6) := by
      unfold pf_X6_readNet_67
      rw [bCl c1, show on_N = 99995 + 1 + 1 + 1 + 1 + 1 from rfl, k1, show (0 : Int) + 1 = 1 from rfl, k2, show (1 : Int) + 1 = 2 from rfl, k3, show (2 : Int) + 1 = 3 from rfl, k4, pf_X6_readNet_75, bLtF (by omega) (by omega) (by omega), bCl d1, bCl i1, bGt]
    have s683 : τ6 83 = bUp (bUp (bUp (bUp (bUp (σm 83) ((62 + (7 * n)) + 0) y) ((62 + (7 * n)) + 3) u0) (((62 + (7 * n)) + 3) + 1) u1) (((62 + (7 * n)) + 3) + 2) u2) (((62 + (7 * n)) + 3) + 3) u3 := by
      rw [i4.2.1 83 (by omega), d4.2.1 83 (by omega), bst_up, p4 83 (by omega), bst_up, p3 83 (by omega), bst_up, p2 83 (by omega), bst_up, p1 83 (by omega), c4.2.1 83 (by omega), bst_up, hm8]
    have s6c : ∀ c, c ≠ 77 → c ≠ 83 → τ6 c = σm c := fun c h7 h8 => by rw [i4.2.1 c h7, d4.2.1 c h7, bst_nc h8, p4 c h7, bst_nc h8, p3 c h7, bst_nc h8, p2 c h7, bst_nc h8, p1 c h7, c4.2.1 c h7, bst_nc h8, hmc1 c h7]
    have s67 : ∀ i, (i < 8 ∨ 13 < i) → τ6 77 i = σm 77 i := fun i hi => by rw [i4.2.2.1 i hi, d4.2.2.1 i hi, bst_nc (by omega), r4 i hi, bst_nc (by omega), r3 i hi, bst_nc (by omega), r2 i hi, bst_nc (by omega), r1 i hi, c4.2.2.1 i hi, bst_nc (by omega), hmc2 i hi]
    have cls : ∀ c, c ≠ 52 → c ≠ 45 → s6 c = σc c := fun c h5 h4 => by rw [i4.1 c h5, d4.1 c h5, o4 c h5 h4, o3 c h5 h4, o2 c h5 h4, o1 c h5 h4, c4.1 c h5, hc c h5]
    have cls45 : ∀ j, j < n * 4 → s6 45 j = σc 45 j := fun j hj => by rw [i4.1 45 (by omega), d4.1 45 (by omega), z4 j (by omega), z3 j (by omega), z2 j (by omega), z1 j (by omega), c4.1 45 (by omega), hc 45 (by omega)]
    -- the last part
    have Fin : ∀ (wt : Int) (s7 τ7 : on_S), (wt = 0 ∨ wt = 1) → bLk T s7 τ7 → (∀ c, c ≠ 52 → s7 c = s6 c) → (∀ c, c ≠ 77 → τ7 c = on_st τ6 83 ((62 + (7 * n)) + 1) u c) → (∀ i, (i < 8 ∨ 13 < i) → τ7 77 i = σm 77 i) → (τ7 77 12 = 0 → τ6 77 12 = 0 ∧ τ6 77 9 ≤ τ7 77 9) → ∃ σc' : on_S, pf_X6_readNet_166 n x v wt s7 = some (0, σc') ∧ ∃ σm' : on_S, pf_X12_readNet_160 ((62 + (7 * n)) + 2) wt τ7 = some (0, σm') ∧ bLn T σc σm σc' σm' := by
      intro wt s7 τ7 hwt h7 hs7 ht7 hi7 hg7
      have e87 := h7.2.2.2.1
      have t83 : τ7 83 = bUp (τ6 83) ((62 + (7 * n)) + 1) u := by rw [ht7 83 (by omega), bst_up]
      have t834 : τ7 83 4 = n := by rw [t83, s683, bUp_ne (by omega), bUp_ne (by omega), bUp_ne (by omega), bUp_ne (by omega), bUp_ne (by omega), bUp_ne (by omega)]; exact hn.symm
      have M2 : pf_X12_readNet_160 ((62 + (7 * n)) + 2) wt τ7 = some (0, on_st (on_st τ7 83 ((62 + (7 * n)) + 2) wt) 83 4 (n + 1)) := by
        unfold pf_X12_readNet_160
        rw [bWr (by omega) (by omega), bRd (by omega) (by omega), bst_ni (by omega), t834, bWr (by omega) (by omega)]
      have LZ : ∀ {s8 : on_S}, (s8 1 = s7 1) → (∀ i, i ≠ 7 → s8 52 i = s7 52 i) → bLk T s8 (on_st (on_st τ7 83 ((62 + (7 * n)) + 2) wt) 83 4 (n + 1)) := fun a b => h7.to a b (by rw [bst_nc (by omega), bst_nc (by omega)]) (by rw [bst_nc (by omega), bst_nc (by omega)])
      have zc : ∀ c, c ≠ 77 → c ≠ 83 → on_st (on_st τ7 83 ((62 + (7 * n)) + 2) wt) 83 4 (n + 1) c = σm c := fun c h7 h8 => by rw [bst_nc h8, bst_nc h8, ht7 c h7, bst_nc h8, s6c c h7 h8]
      have z7 : ∀ i, (i < 8 ∨ 13 < i) → on_st (on_st τ7 83 ((62 + (7 * n)) + 2) wt) 83 4 (n + 1) 77 i = σm 77 i := fun i hi => by rw [bst_nc (by omega), bst_nc (by omega), hi7 i hi]
      rw [M2]
      unfold pf_X6_readNet_166
      rw [bGt]
      by_cases good : τ7 77 12 = 0
      · have h6 := hg7 good
        have h5 := i4.2.2.2.1 h6.1
        have h4 := d4.2.2.2.1 h5.1
        rw [bst_nc (by omega)] at h4
        obtain ⟨j4, y4, w4, v4⟩ := g4 h4.1
        rw [bst_nc (by omega)] at j4 y4
        obtain ⟨j3, y3, w3, v3⟩ := g3 j4
        rw [bst_nc (by omega)] at j3 y3
        obtain ⟨j2, y2, w2, v2⟩ := g2 j3
        rw [bst_nc (by omega)] at j2 y2
        obtain ⟨j1, y1, w1, v1⟩ := g1 j2
        have h1 := c4.2.2.2.1 j1
        rw [bst_nc (by omega)] at h1
        obtain ⟨-, -, y0, a1, a2, a3, a4⟩ := hgd h1.1
        have vu := (i7 h6.1).1
        have A : (on_Wr s7 (27 + 15) 2 n x fun σ29 => on_Wr σ29 (27 + 16) 2 n v fun σ30 => on_Eq wt 0 (pf_X6_readNet_220 n x n 0 σ30) (pf_X6_readNet_220 n x n 1 σ30)) = some (0, on_st (on_st (on_st (on_st (on_st s7 42 n x) 43 n v) 44 n wt) 30 x n) 41 0 (n + 1)) := by
          have k14 : s7 41 0 = n := by rw [hs7 41 (by omega), cls 41 (by omega) (by omega)]; exact hd.r.c.2.2.2.2.2.2.1.trans hn.symm
          rw [bWr (by omega) (by omega), bWr (by omega) (by omega)]
          unfold pf_X6_readNet_220
          rcases hwt with e | e
          · rw [bEqT (by omega) e, bWr (by omega) (by omega), bWr (by omega) (by omega), bGt, bst_nc (by omega), bst_nc (by omega), bst_nc (by omega), bst_nc (by omega), show s7 (27 + 14) 0 = n from k14, bPt, e]
          · rw [bEqF (by omega) (by omega) (by omega), bWr (by omega) (by omega), bWr (by omega) (by omega), bGt, bst_nc (by omega), bst_nc (by omega), bst_nc (by omega), bst_nc (by omega), show s7 (27 + 14) 0 = n from k14, bPt, e]
        rw [bEqT (by omega) (by omega), A]
        refine ⟨_, rfl, _, rfl, LZ (by rw [bst_nc (by omega), bst_nc (by omega), bst_nc (by omega), bst_nc (by omega), bst_nc (by omega)]) (fun i _ => by rw [bst_nc (by omega), bst_nc (by omega), bst_nc (by omega), bst_nc (by omega), bst_nc (by omega)]), fun c hc' => by rw [bst_nc (by omega), bst_nc (by omega), bst_nc (by omega), bst_nc (by omega), bst_nc (by omega), hs7 c (by omega), cls c (by omega) (by omega)], zc, z7, fun _ => ⟨?_, ?_, ?_⟩⟩
        · have wv : ∀ i, on_st (on_st τ7 83 ((62 + (7 * n)) + 2) wt) 83 4 (n + 1) 83 i = if i = 4 then n + 1 else if i = (62 + (7 * n)) + 2 then wt else if i = (62 + (7 * n)) + 1 then u else if i = ((62 + (7 * n)) + 3) + 3 then u3 else if i = ((62 + (7 * n)) + 3) + 2 then u2 else if i = ((62 + (7 * n)) + 3) + 1 then u1 else if i = (62 + (7 * n)) + 3 then u0 else if i = (62 + (7 * n)) + 0 then y else σm 83 i := fun i => by rw [bst_up, bst_up, t83, s683]; rfl
          have K3 : s6 45 ((n * 4) + 3) = u3 := by rw [i4.1 45 (by omega), d4.1 45 (by omega)]; exact v4
          have K2 : s6 45 ((n * 4) + 2) = u2 := by rw [i4.1 45 (by omega), d4.1 45 (by omega), z4 _ (by omega)]; exact v3
          have K1 : s6 45 ((n * 4) + 1) = u1 := by rw [i4.1 45 (by omega), d4.1 45 (by omega), z4 _ (by omega), z3 _ (by omega)]; exact v2
          have K0 : s6 45 ((n * 4) + 0) = u0 := by rw [i4.1 45 (by omega), d4.1 45 (by omega), z4 _ (by omega), z3 _ (by omega), z2 _ (by omega)]; exact v1
          refine bDr_net hd (x := y) (we := u) (wt := wt) (K := fun c => if c = 0 then u0 else if c = 1 then u1 else if c = 2 then u2 else u3) (by omega) (by omega) (by omega) (by omega) hwt (fun c c0 c1 => ?_) a4 (fun i => ?_) (fun c c0 c1 h1 h2 h3 h4 h5 h6 => ?_) ?_ ?_ ?_ ?_ ?_ (fun c c0 c1 => ?_) (fun j hj => ?_)
          · split
            · omega
            · split
              · omega
              · split <;> omega
          · rw [wv i, ← hn]
            by_cases b4 : i = 4
            · rw [if_pos b4, if_pos b4]
            · rw [if_neg b4, if_neg b4]
              by_cases b0 : i = 62 + (7 * n)
              · rw [if_pos b0, if_neg (by omega), if_neg (by omega), if_neg (by omega), if_neg (by omega), if_neg (by omega), if_neg (by omega), if_pos (by omega)]
              · rw [if_neg b0]
                by_cases b1 : i = (62 + (7 * n)) + 1
                · rw [if_pos b1, if_neg (by omega), if_pos b1]
                · rw [if_neg b1]
                  by_cases b2 : i = (62 + (7 * n)) + 2
                  · rw [if_pos b2, if_neg b1, if_pos b2]
                  · rw [if_neg b2, if_neg b2, if_neg b1]
                    by_cases b3 : (62 + (7 * n)) + 3 ≤ i ∧ i < (62 + (7 * n)) + 7
                    · rw [if_pos b3]
                      by_cases d0 : i = (62 + (7 * n)) + 3
                      · rw [if_neg (by omega), if_neg (by omega), if_neg (by omega), if_pos d0, if_pos (by omega)]
                      · by_cases d1 : i = (62 + (7 * n)) + 4
                        · rw [if_neg (by omega), if_neg (by omega), if_pos (by omega), if_neg (by omega), if_pos (by omega)]
                        · by_cases d2 : i = (62 + (7 * n)) + 5
                          · rw [if_neg (by omega), if_pos (by omega), if_neg (by omega), if_neg (by omega), if_pos (by omega)]
                          · rw [if_pos (by omega), if_neg (by omega), if_neg (by omega), if_neg (by omega)]
                    · rw [if_neg b3, if_neg (by omega), if_neg (by omega), if_neg (by omega), if_neg (by omega), if_neg (by omega)]
          · rw [bst_nc h2, bst_nc h1, bst_nc h5, bst_nc h4, bst_nc h3]
            by_cases e : c = 52
            · omega
            · rw [hs7 c e, cls c e h6]
          · rw [bst_up, bst_nc (by omega), bst_nc (by omega), bst_nc (by omega), bst_nc (by omega), hs7 41 (by omega), cls 41 (by omega) (by omega), hn]
          · rw [bst_nc (by omega), bst_nc (by omega), bst_nc (by omega), bst_nc (by omega), bst_up, hs7 42 (by omega), cls 42 (by omega) (by omega), ← hn, a1]
          · rw [bst_nc (by omega), bst_nc (by omega), bst_nc (by omega), bst_up, bst_nc (by omega), hs7 43 (by omega), cls 43 (by omega) (by omega), ← hn, vu.1]
          · rw [bst_nc (by omega), bst_nc (by omega), bst_up, bst_nc (by omega), bst_nc (by omega), hs7 44 (by omega), cls 44 (by omega) (by omega), ← hn]
          · rw [bst_nc (by omega), bst_up, bst_nc (by omega), bst_nc (by omega), bst_nc (by omega), hs7 30 (by omega), cls 30 (by omega) (by omega), ← hn, a1]
          · rw [bst_nc (by omega), bst_nc (by omega), bst_nc (by omega), bst_nc (by omega), bst_nc (by omega), hs7 45 (by omega), ← hn]
            have dd : c = 0 ∨ c = 1 ∨ c = 2 ∨ c = 3 := by omega
            rcases dd with dd | dd | dd | dd <;> subst dd
            · exact K0
            · exact K1
            · exact K2
            · exact K3
          · rw [bst_nc (by omega), bst_nc (by omega), bst_nc (by omega), bst_nc (by omega), bst_nc (by omega), hs7 45 (by omega), cls45 j (by omega)]
        · rw [bst_up, bst_up, t83, s683, bUp_ne (by omega), bUp_ne (by omega), bUp_ne (by omega), bUp_ne (by omega), bUp_ne (by omega), bUp_ne (by omega), bUp_ne (by omega), bUp_ne (by omega)]
        · rw [bst_nc (by omega), bst_nc (by omega)]; omega
      · rw [bEqF (by omega) (by omega) (by omega)]
        exact ⟨s7, rfl, _, rfl, LZ rfl (fun _ _ => rfl), fun c hc' => by rw [hs7 c (by omega), cls c (by omega) (by omega)], zc, z7, fun t => by rw [bst_nc (by omega), bst_nc (by omega)] at t; exact absurd t good⟩
    rw [M1, C1]
    have t12 : on_st τ6 83 ((62 + (7 * n)) + 1) u 77 12 = τ6 77 12 := by rw [bst_nc (by omega)]
    have no : ∀ wt, wt = 0 → ∃ σc' : on_S, pf_X6_readNet_154 n x v s6 = some (0, σc') ∧ ∃ σm' : on_S, pf_X12_readNet_160 ((62 + (7 * n)) + 2) wt (on_st τ6 83 ((62 + (7 * n)) + 1) u) = some (0, σm') ∧ bLn T σc σm σc' σm' := fun wt e => by
      subst e
      unfold pf_X6_readNet_154 pf_X6_readNet_155
      rw [bEqT (by omega) rfl]
      exact Fin 0 s6 _ (Or.inl rfl) L7 (fun _ _ => rfl) (fun _ _ => rfl) (fun i hi => by rw [bst_nc (by omega)]; exact s67 i hi) (fun t => ⟨by rw [t12] at t; exact t, by rw [bst_nc (by omega)]; omega⟩)
    by_cases good : τ6 77 12 = 0
    · have g7 : on_st τ6 83 ((62 + (7 * n)) + 1) u 77 12 = 0 := by rw [t12]; exact good
      rw [bEqT (by omega) (by omega), bCl (k_word L7 g7 (by omega)).1]
      cases hb : bWd 10 T (on_st τ6 83 ((62 + (7 * n)) + 1) u 77 10) (on_st τ6 83 ((62 + (7 * n)) + 1) u 77 9) (on_st τ6 83 ((62 + (7 * n)) + 1) u 77 8) with
      | true =>
        obtain ⟨s8, τ8, a1, a2, a3, a4, -⟩ := k_token L7 g7
        rw [if_pos rfl, bEqF (by omega) (by omega) (by omega), bCl (k_takes L7 g7 (by omega) hb a2), bEqF (by omega) (by omega) (by omega)]
        unfold pf_X6_readNet_155
        rw [bEqF (by omega) (by omega) (by omega), bCl a1]
        obtain ⟨σc', f1, σm', f2, f3⟩ := Fin 1 s8 τ8 (Or.inr rfl) a3 a4.1 a4.2.1 (fun i hi => by rw [a4.2.2.1 i hi, bst_nc (by omega)]; exact s67 i hi) (fun t => by
          have := a4.2.2.2.1 t
          rw [bst_nc (by omega)] at this
          exact this)
        exact ⟨σc', f1, Or.inr ⟨nl, σm', f2, f3⟩⟩
      | false =>
        rw [if_neg Bool.false_ne_true, bEqT (by omega) rfl, bCl (k_takes_no L7 g7 (by omega) hb), bEqT (by omega) rfl]
        obtain ⟨σc', f1, σm', f2, f3⟩ := no 0 rfl
        exact ⟨σc', f1, Or.inr ⟨nl, σm', f2, f3⟩⟩
    · rw [bEqF (by omega) (by omega) (by omega), bCl (k_takes_bad L7 (by rw [t12]; exact good)), bEqT (by omega) rfl]
      obtain ⟨σc', f1, σm', f2, f3⟩ := no 0 rfl
      exact ⟨σc', f1, Or.inr ⟨nl, σm', f2, f3⟩⟩
end O83
