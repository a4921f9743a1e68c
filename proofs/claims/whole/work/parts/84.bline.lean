/-! B: street: a line -/
section O84
variable {T : Int → Int} {σ σc σm σc' σm' : on_S}
theorem l_net (h : bLk T σc σm) (hg : σm 77 12 = 0) (hd : bDr (σm 83) σc) (hw : bWds T σm 6 = true) : ∃ σc' σm' : on_S, pf_X6_readNet σc = some (0, σc') ∧ pf_X12_readNext σm = some (0, σm') ∧ bLn T σc σm σc' σm' := by
  obtain ⟨q0, q1, q2, q3, q4, q5, q6, q7⟩ := hd.k.c
  obtain ⟨r0, r1, r2, r3, r4, r5, r6, r7⟩ := hd.r.c
  obtain ⟨σ1, τ1, a1, a2, a3, a4, a5⟩ := s_room h hg (n := σm 83 4) (N := 2) (by omega) (by omega) (by omega)
  have f1 := a3.1
  obtain ⟨σ2, τ2, c1, c2, c3, c4⟩ := s_word a2 (k := 7) (by omega)
  have f2 : ∀ c, c ≠ 52 → σ2 c = σc c := fun c hc => by rw [c4.1 c hc, f1 c hc]
  have m2 : ∀ c, c ≠ 77 → τ2 c = σm c := fun c hc => by rw [c4.2.1 c hc, a3.2.1 c hc]
  obtain ⟨x, y, σ3, τ3, b1, b2, b5, b6, bf, bg, b7⟩ := s_said c3 (l := 0) (u := σm 83 2 - 1) (by omega) (by omega) (by omega) (by omega) (fun t => bNetAt (σm 83) t != -1) (τ := bPre2 (fun t => bNetAt (σm 83) t != -1) τ2) rfl
  have f3 : ∀ c, c ≠ 52 → σ3 c = σc c := fun c hc => by rw [bf c hc, f2 c hc]
  have C0 : pf_X6_readNet σc = on_Eq (σ3 52 8) 0 (on_Rd σ3 30 9 x fun v10 => on_Eq v10 (-1) (pf_X6_readNet_64 (σm 83 4) x 1 σ3) (pf_X6_readNet_64 (σm 83 4) x 0 σ3)) (pf_X6_readNet_67 (σm 83 4) x σ3) := by
    unfold pf_X6_readNet
    rw [bGt, r6, bCl a1, bCl c1, bGt, f2 27 (by omega), r3, bCl b1, bGt]
  have E : ∀ s : on_S, bLk T s τ3 → bTo σ2 τ2 s τ3 → (τ3 77 12 = 0 → x = y ∧ 0 ≤ y ∧ y < σm 83 2 ∧ bNetAt (σm 83) y = -1) → ∃ σc' σm' : on_S, pf_X6_readNet_67 (σm 83 4) x s = some (0, σc') ∧ pf_X12_readNext σm = some (0, σm') ∧ bLn T σc σm σc' σm' := by
    intro s hs ht hgd
    have hc : ∀ c, c ≠ 52 → s c = σc c := fun c hc => by rw [ht.1 c hc, f2 c hc]
    have hm : ∀ c, c ≠ 77 → τ3 c = σm c := fun c hc => by rw [ht.2.1 c hc, m2 c hc]
    have h7 : ∀ i, (i < 8 ∨ 13 < i) → τ3 77 i = σm 77 i := fun i hi => by rw [ht.2.2.1 i hi, c4.2.2.1 i hi, a3.2.2.1 i hi]
    have bd : σm 83 4 = 2 → τ3 = bErr σm 3 := fun e => by
      have e1 := a4 e
      have n1 : τ1 77 12 ≠ 0 := by rw [e1, bErr_12]; omega
      have e2 : τ2 = τ1 := c4.2.2.2.2 n1
      rw [ht.2.2.2.2 (by rw [e2]; exact n1), e2, e1]
    obtain ⟨σc', z1, z2⟩ := n_rest (x := x) (y := y) hd rfl (by omega) hs hc (fun e => by rw [bd e, bErr_12]; omega) b5 b6 (fun g => by
      have g3 := ht.2.2.2.1 g
      have g2 := c4.2.2.2.1 g3.1
      have g1 := a3.2.2.2.1 g2.1
      exact ⟨hm, h7, by omega, hgd g⟩) (fun _ => hm 83 (by omega)) (fun _ => ⟨hm, h7⟩)
    rcases z2 with ⟨full, z3, z4⟩ | ⟨nl, σm', z3, z4⟩
    · obtain ⟨-, -, w2, -, -⟩ := m_166 h hg
      have e3 := bd full
      refine ⟨σc', τ3, z1, ?_, z3, z4, fun c h7 _ => hm c h7, h7, fun t => by rw [e3, bErr_12] at t; omega⟩
      rw [m_way h hg hd hw (by omega), if_pos (Or.inr (Or.inr (Or.inl ⟨rfl, full⟩))), w2, e3]
    · have adv := a5 (by omega)
      have g83 : τ1 83 = σm 83 := a3.2.1 83 (by omega)
      refine ⟨σc', σm', z1, ?_, z4⟩
      rw [m_way h hg hd hw (by omega), if_neg (by omega)]
      unfold pf_X12_readNext_171
      rw [bCl (m_good (by omega)), if_pos hg, bEqF (by omega) (by omega) (by omega), bCl (k_takes_not h hg hw (by omega) (by omega) (by omega)), bEqT (by omega) rfl, bCl (k_takes_not h hg hw (by omega) (by omega) (by omega)), bEqT (by omega) rfl, bCl (k_takes h hg (by omega) hw adv), bEqF (by omega) (by omega) (by omega)]
      unfold pf_X12_readNet
      rw [bRd (by omega) (by omega), g83, bCl c2, m_net21 hd.k (σm 83 4).toNat on_N 0 τ2 c3.rn (m2 83 (by omega)) (by omega) (by omega) (by unfold on_N; omega)]
      rw [show (fun t => bFst (fun n => decide (bNet (σm 83) n 0 = t)) (σm 83 4).toNat 0 != -1) = (fun t => bNetAt (σm 83) t != -1) from rfl, bCl (show pf_X12_freshWindow (bPre2 (fun t => bNetAt (σm 83) t != -1) τ2) = some (y, τ3) by unfold pf_X12_freshWindow; rw [bRd (by omega) (by omega), bPre2_c _ (by omega), m2 83 (by omega), bCl b2]), z3, bClS]
  rw [C0]
  rcases b7 with ⟨e, e1, e2, e3⟩ | ⟨e, eg, e0, σ5, e1, e2, e3, e4⟩
  · rw [bEqF (by omega) (by omega) e]
    exact E σ3 e1 e2 (fun t => absurd t e3)
  · have hd3 : bDr (σm 83) σ3 := hd.to fun c c0 c1 => f3 c (by omega)
    have mr : σ3 30 x = bNetAt (σm 83) x := (hd3.r.wi x (by omega) (by omega)).2.2
    have mb := bNetAt_spec hd.k.c x
    have S : (on_Rd σ3 30 9 x fun v10 => on_Eq v10 (-1) (pf_X6_readNet_64 (σm 83 4) x 1 σ3) (pf_X6_readNet_64 (σm 83 4) x 0 σ3)) = pf_X6_readNet_67 (σm 83 4) x σ5 := by
      rw [bRd (by omega) (by omega), mr]
      unfold pf_X6_readNet_64
      by_cases z : bNetAt (σm 83) x = -1
      · rw [if_neg (by rw [bne_iff_ne]; exact fun t => t z)] at e1
        rw [bEqT (by omega) z, bCl e1]
      · rw [if_pos (bne_iff_ne.mpr z)] at e1
        rw [bEqF (by omega) (by omega) z, bCl e1]
    rw [bEqT (by omega) e, S]
    refine E σ5 e2 e3 (fun t => ?_)
    obtain ⟨j1, j2⟩ := e4 t
    refine ⟨j1, by omega, by omega, ?_⟩
    rw [← j1]
    by_cases z : bNetAt (σm 83) x = -1
    · exact z
    · rw [bne_iff_ne.mpr z] at j2; cases j2
/-- the head; what comes before the sign -/
theorem l_head (h : bLk T σc σm) (hg : σm 77 12 = 0) (hd : bDr (σm 83) σc) (hz : ∀ i, 0 ≤ i → i < 687 → σm 83 i = 0) : ∃ σc' σm' : on_S, pf_X6_readHead σc = some (0, σc') ∧ pf_X12_readLine σm = pf_X12_readLine_52 σm' ∧ bLn T σc σm σc' σm' := by
  obtain ⟨σ1, τ1, a1, a2, a3, a4⟩ := s_word h (k := 0) (by omega)
  obtain ⟨σ2, τ2, b1, b2, b3, b4⟩ := s_word a3 (k := 1) (by omega)
  obtain ⟨v, u, σ3, τ3, c1, c2, c3, c4, c5, c6, c7, -⟩ := s_number b3 (l := 2) (u := 4) (by omega) (by omega) (by omega) (by omega)
  have L3 : bLk T (on_st σ3 27 0 v) (on_st τ3 83 0 u) := c3.to (bst_nc (by omega)) (fun i _ => by rw [bst_nc (by omega)]) (bst_nc (by omega)) (bst_nc (by omega))
  obtain ⟨σ4, τ4, d1, d2, d3, d4⟩ := s_word L3 (k := 2) (by omega)
  obtain ⟨x, y, σ5, τ5, e1, e2, e3, e4, e5, e6, e7, -⟩ := s_number d3 (l := 1) (u := 6) (by omega) (by omega) (by omega) (by omega)
  have z7 := hz 7 (by omega) (by omega)
  have s83 : on_st τ5 83 1 y 83 = bUp (bUp (σm 83) 0 u) 1 y := by rw [bst_up, e4.2.1 83 (by omega), d4.2.1 83 (by omega), bst_up, c4.2.1 83 (by omega), b4.2.1 83 (by omega), a4.2.1 83 (by omega)]
  have s27 : on_st σ5 27 1 x 27 = bUp (bUp (σc 27) 0 v) 1 x := by rw [bst_up, e4.1 27 (by omega), d4.1 27 (by omega), bst_up, c4.1 27 (by omega), b4.1 27 (by omega), a4.1 27 (by omega)]
  have sc : ∀ c, c ≠ 27 → c ≠ 52 → on_st σ5 27 1 x c = σc c := fun c h7 h5 => by rw [bst_nc h7, e4.1 c h5, d4.1 c h5, bst_nc h7, c4.1 c h5, b4.1 c h5, a4.1 c h5]
  refine ⟨on_st σ5 27 1 x, on_st τ5 83 1 y, ?_, ?_, e3.to (bst_nc (by omega)) (fun i _ => by rw [bst_nc (by omega)]) (bst_nc (by omega)) (bst_nc (by omega)), fun c hc => sc c (by omega) (by omega), fun c h7 h8 => by rw [bst_nc h8, e4.2.1 c h7, d4.2.1 c h7, bst_nc h8, c4.2.1 c h7, b4.2.1 c h7, a4.2.1 c h7], fun i hi => by rw [bst_nc (by omega), e4.2.2.1 i hi, d4.2.2.1 i hi, bst_nc (by omega), c4.2.2.1 i hi, b4.2.2.1 i hi, a4.2.2.1 i hi], fun t => ?_⟩
  · unfold pf_X6_readHead
    rw [bCl a1, bCl b1, bCl c1, bPt, bCl d1, bCl e1, bPt]
  · unfold pf_X12_readLine
    rw [bRd (by omega) (by omega), bEqT (by omega) z7, bCl a2, bCl (m_told b2 c2), bWr (by omega) (by omega), bCl (m_told d2 e2), bWr (by omega) (by omega)]
  · rw [bst_nc (by omega)] at t
    have g5 := e4.2.2.2.1 t
    have g4 := d4.2.2.2.1 g5.1
    rw [bst_nc (by omega)] at g4
    have g3 := c4.2.2.2.1 g4.1
    have g2 := b4.2.2.2.1 g3.1
    have g1 := a4.2.2.2.1 g2.1
    have v1 := (c7 g4.1).1
    have v2 := (e7 t).1
    refine ⟨bDr_head hd hz (x := u) (s := y) (by omega) (by omega) (by omega) (by omega) s83 (fun c c0 c1 h1 => sc c h1 (by omega)) (by rw [s27, v1.1, v2.1]), by rw [s83, bUp_ne (by omega), bUp_ne (by omega)], by rw [bst_nc (by omega)]; omega⟩
/-- a word that begins no line -/
theorem l_none (h : bLk T σc σm) (hg : σm 77 12 = 0) (hw : ∀ k : Nat, k = 3 ∨ k = 4 ∨ k = 6 ∨ k = 11 ∨ k = 12 ∨ k = 13 ∨ k = 14 ∨ k = 16 → bWds T σm k = false) : ∃ σc' σm' : on_S, pf_X6_refuse 1 (σc 52 5) σc = some (0, σc') ∧ pf_X12_readNext σm = some (0, σm') ∧ bLn T σc σm σc' σm' := by
  have I : ∀ k : Nat, k = 3 ∨ k = 4 ∨ k = 6 ∨ k = 11 ∨ k = 12 ∨ k = 13 ∨ k = 14 ∨ k = 16 → pf_X12_is k σm = some (0, σm) := fun k hk => (k_is h hg (by omega) false (hw k hk)).2
  obtain ⟨σ1, σ2, r1, r2, r3, r4, r5⟩ := k_refuse h (f := 1) (by omega) (by omega)
  refine ⟨σ1, σ2, r1, ?_, bLn_bad r3 r5 r4.1 (fun c h7 _ => r4.2.1 c h7) r4.2.2.1⟩
  have b8 := r3.2.2.2.1.2
  have J : ∀ k : Nat, pf_X12_is k σ2 = some (0, σ2) := fun k => m_is_bad r3 r5
  unfold pf_X12_readNext
  rw [bCl (I 3 (by omega)), bEqT (by omega) rfl, bCl (I 4 (by omega)), bEqT (by omega) rfl, bCl (I 6 (by omega)), bEqT (by omega) rfl, bCl (I 11 (by omega)), bEqT (by omega) rfl, bCl (I 12 (by omega)), bEqT (by omega) rfl, bCl (I 13 (by omega)), bEqT (by omega) rfl, bCl (I 14 (by omega)), bEqT (by omega) rfl, bCl (I 16 (by omega)), bEqT (by omega) rfl]
  unfold pf_X12_readNext_77 pf_X12_readNext_87 pf_X12_readNext_107 pf_X12_readNext_127 pf_X12_readNext_146
  rw [bEqT (by omega) rfl, bCl r2, bCl (J 3), bEqT (by omega) rfl, bCl (J 4), bEqT (by omega) rfl, bCl (J 6), bEqT (by omega) rfl, bCl (J 14), bEqT (by omega) rfl, m_171_bad b8 r5]
/-- a line, in both -/
theorem l_line (h : bLk T σc σm) (hg : σm 77 12 = 0) (hd : bDr (σm 83) σc) (hz : σm 83 7 = 0 → ∀ i, 0 ≤ i → i < 687 → σm 83 i = 0) (hl : σm 83 7 ≤ σm 77 9) : ∃ σc' σm' : on_S, pf_X6_readLine σc = some (0, σc') ∧ pf_X12_readLine σm = some (0, σm') ∧ bLk T σc' σm' ∧ (∀ c, (c < 27 ∨ 52 < c) → σc' c = σc c) ∧ (∀ c, c ≠ 77 → c ≠ 83 → σm' c = σm c) ∧ (∀ i, (i < 8 ∨ 13 < i) → σm' 77 i = σm 77 i) ∧ (σm' 77 12 = 0 → bDr (σm' 83) σc' ∧ σm' 83 7 = σm 83 7 + 1 ∧ σm' 83 7 ≤ σm' 77 9) := by
  obtain ⟨q0, q1, q2, q3, q4, q5, q6, q7⟩ := hd.k.c
  have r2 := hd.r.c.2.2.1
  have E : ∀ σ1 τ1 : on_S, bLn T σc σm σ1 τ1 → ∃ σc' σm' : on_S, pf_X6_readLine_154 σ1 = some (0, σc') ∧ pf_X12_readLine_52 τ1 = some (0, σm') ∧ bLk T σc' σm' ∧ (∀ c, (c < 27 ∨ 52 < c) → σc' c = σc c) ∧ (∀ c, c ≠ 77 → c ≠ 83 → σm' c = σm c) ∧ (∀ i, (i < 8 ∨ 13 < i) → σm' 77 i = σm 77 i) ∧ (σm' 77 12 = 0 → bDr (σm' 83) σc' ∧ σm' 83 7 = σm 83 7 + 1 ∧ σm' 83 7 ≤ σm' 77 9) := by
    intro σ1 τ1 hn
    obtain ⟨n1, n2, n3, n4, n5⟩ := hn
    obtain ⟨σ2, τ2, s1, s2, s3, s4, s5⟩ := s_sign n1
    refine ⟨on_st σ2 27 2 (σ2 27 2 + 1), on_st τ2 83 7 (τ2 83 7 + 1), ?_, ?_, s3.to (bst_nc (by omega)) (fun i _ => by rw [bst_nc (by omega)]) (bst_nc (by omega)) (bst_nc (by omega)), fun c hc => by rw [bst_nc (by omega), s4.1 c (by omega), n2 c hc], fun c h7 h8 => by rw [bst_nc h8, s4.2.1 c h7, n3 c h7 h8], fun i hi => by rw [bst_nc (by omega), s4.2.2.1 i hi, n4 i hi], fun t => ?_⟩
    · unfold pf_X6_readLine_154
      rw [bCl s1, bGt, bPt]
    · rw [s2]
      unfold pf_X12_readLine_83
      rw [bRd (by omega) (by omega), bWr (by omega) (by omega)]
    · rw [bst_nc (by omega)] at t
      have g := s4.2.2.2.1 t
      obtain ⟨m1, m2, m3⟩ := n5 g.1
      have lt := s5 t
      have tk := (s3.2.2.2.2.2.2 t).2.1
      have n14 := s3.2.1.2
      have hd2 : bDr (τ1 83) σ2 := m1.to fun c c0 c1 => s4.1 c (by omega)
      have e83 : τ2 83 = τ1 83 := s4.2.1 83 (by omega)
      have e27 : σ2 27 2 = τ1 83 7 := hd2.r.c.2.2.1
      refine ⟨bDr_line hd2 (by omega) (by rw [bst_up, e83]) (fun c c0 c1 h1 => bst_nc h1) (by rw [bst_up, e27]), by rw [bst_eq, e83, m2], by rw [bst_eq, e83, bst_nc (by omega), m2]; omega⟩
  unfold pf_X6_readLine
  rw [bGt, r2]
  by_cases z : σm 83 7 = 0
  · obtain ⟨σ1, τ1, a1, a2, a3⟩ := l_head h hg hd (hz z)
    obtain ⟨σ2, τ2, b1, b2, b3⟩ := E σ1 τ1 a3
    exact ⟨σ2, τ2, by rw [bEqT (by omega) z, bCl a1, b1], by rw [a2, b2], b3⟩
  · have D : ∀ {f : on_S → Option on_O}, (∃ σc' σm' : on_S, f σc = some (0, σc') ∧ pf_X12_readNext σm = some (0, σm') ∧ bLn T σc σm σc' σm') → ∃ σc' σm' : on_S, (on_Cl (f σc) fun _ σ => pf_X6_readLine_154 σ) = some (0, σc') ∧ pf_X12_readLine σm = some (0, σm') ∧ bLk T σc' σm' ∧ (∀ c, (c < 27 ∨ 52 < c) → σc' c = σc c) ∧ (∀ c, c ≠ 77 → c ≠ 83 → σm' c = σm c) ∧ (∀ i, (i < 8 ∨ 13 < i) → σm' 77 i = σm 77 i) ∧ (σm' 77 12 = 0 → bDr (σm' 83) σc' ∧ σm' 83 7 = σm 83 7 + 1 ∧ σm' 83 7 ≤ σm' 77 9) := by
      intro f hf
      obtain ⟨σ1, τ1, a1, a2, a3⟩ := hf
      obtain ⟨σ2, τ2, b1, b2, b3⟩ := E σ1 τ1 a3
      refine ⟨σ2, τ2, by rw [bCl a1, b1], ?_, b3⟩
      unfold pf_X12_readLine
      rw [bRd (by omega) (by omega), bEqF (by omega) (by omega) z, bCl a2, b2]
    have W : ∀ (k : Nat) (b : Bool), k < 17 → bWds T σm k = b → pf_X6_isWord k σc = some (if b then 1 else 0, σc) := fun k b hk hb => (k_is h hg hk b hb).1
    rw [bEqF (by omega) (by omega) z]
    cases w3 : bWds T σm 3 with
    | true => rw [bCl (W 3 _ (by omega) w3), if_pos rfl, bEqF (by omega) (by omega) (by omega)]; exact D (f := pf_X6_readWindow) (l_window h hg hd w3)
    | false =>
      rw [bCl (W 3 _ (by omega) w3), if_neg Bool.false_ne_true, bEqT (by omega) rfl]
      cases w4 : bWds T σm 4 with
      | true => rw [bCl (W 4 _ (by omega) w4), if_pos rfl, bEqF (by omega) (by omega) (by omega)]; exact D (f := pf_X6_readMan) (l_man h hg hd w4)
      | false =>
        rw [bCl (W 4 _ (by omega) w4), if_neg Bool.false_ne_true, bEqT (by omega) rfl]
        cases w6 : bWds T σm 6 with
        | true => rw [bCl (W 6 _ (by omega) w6), if_pos rfl, bEqF (by omega) (by omega) (by omega)]; exact D (f := pf_X6_readNet) (l_net h hg hd w6)
        | false =>
          rw [bCl (W 6 _ (by omega) w6), if_neg Bool.false_ne_true, bEqT (by omega) rfl]
          cases w11 : bWds T σm 11 with
          | true => rw [bCl (W 11 _ (by omega) w11), if_pos rfl, bEqF (by omega) (by omega) (by omega)]; exact D (f := pf_X6_readStands) (l_stands h hg hd w11)
          | false =>
            rw [bCl (W 11 _ (by omega) w11), if_neg Bool.false_ne_true, bEqT (by omega) rfl]
            cases w12 : bWds T σm 12 with
            | true => rw [bCl (W 12 _ (by omega) w12), if_pos rfl, bEqF (by omega) (by omega) (by omega)]; exact D (f := pf_X6_readQuarrel) (l_quarrel h hg hd w12)
            | false =>
              rw [bCl (W 12 _ (by omega) w12), if_neg Bool.false_ne_true, bEqT (by omega) rfl]
              cases w13 : bWds T σm 13 with
              | true => rw [bCl (W 13 _ (by omega) w13), if_pos rfl, bEqF (by omega) (by omega) (by omega)]; exact D (f := pf_X6_readFeud) (l_feud h hg hd w13)
              | false =>
                rw [bCl (W 13 _ (by omega) w13), if_neg Bool.false_ne_true, bEqT (by omega) rfl]
                cases w14 : bWds T σm 14 with
                | true => rw [bCl (W 14 _ (by omega) w14), if_pos rfl, bEqF (by omega) (by omega) (by omega)]; exact D (f := pf_X6_readJumper) (l_jumper h hg hd w14)
                | false =>
                  rw [bCl (W 14 _ (by omega) w14), if_neg Bool.false_ne_true, bEqT (by omega) rfl]
                  cases w16 : bWds T σm 16 with
                  | true => rw [bCl (W 16 _ (by omega) w16), if_pos rfl, bEqF (by omega) (by omega) (by omega)]; exact D (f := pf_X6_readRoad) (l_road h hg hd w16)
                  | false =>
                    rw [bCl (W 16 _ (by omega) w16), if_neg Bool.false_ne_true, bEqT (by omega) rfl, bGt]
                    exact D (f := pf_X6_refuse 1 (σc 52 5)) (l_none h hg fun k hk => by rcases hk with e | e | e | e | e | e | e | e <;> subst e <;> assumption)
end O84
