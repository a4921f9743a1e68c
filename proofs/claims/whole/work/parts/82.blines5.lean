/-! B: street: posts -/
def bRn (τ : on_S) : Prop := (0 ≤ τ 77 12 ∧ τ 77 12 ≤ 3) ∧ (τ 77 12 = 0 → (0 ≤ τ 77 10 ∧ τ 77 10 ≤ 4) ∧ (τ 77 10 = 2 → 0 ≤ τ 77 11 ∧ τ 77 11 ≤ 99999))
section O82
variable {T : Int → Int} {σ σc σm σc' σm' : on_S}
theorem bLk.rn (h : bLk T σc σm) : bRn σm := ⟨h.2.2.2.1.2, fun z => by
  obtain ⟨⟨g1, g2, g3⟩, ⟨g4, g5, g6⟩, g7, g8⟩ := h.2.2.2.2.2.2 z
  have k := h.2.2.2.2.2.1.1
  exact ⟨by omega, fun y => (g8 y).2⟩⟩
theorem bRn.pre (h : bRn σ) (B : Int → Bool) : bRn (bPre2 B σ) := by
  unfold bPre2
  split
  · exact ⟨by rw [bErr_12]; omega, fun t => by rw [bErr_12] at t; omega⟩
  · exact h
theorem bPre2_or {B B' : Int → Bool} : bPre2 B (bPre2 B' σ) = bPre2 (fun t => B' t || B t) σ := by
  unfold bPre2
  by_cases c : σ 77 12 = 0 ∧ σ 77 10 = 2 ∧ B' (σ 77 11) = true
  · rw [if_pos c, if_neg (fun t => by have := t.1; rw [bErr_12] at this; omega), if_pos ⟨c.1, c.2.1, by show (B' (σ 77 11) || B (σ 77 11)) = true; rw [c.2.2]; rfl⟩]
  · rw [if_neg c]
    by_cases d : σ 77 12 = 0 ∧ σ 77 10 = 2 ∧ B (σ 77 11) = true
    · rw [if_pos d, if_pos ⟨d.1, d.2.1, by show (B' (σ 77 11) || B (σ 77 11)) = true; rw [d.2.2, Bool.or_true]⟩]
    · rw [if_neg d, if_neg (fun t => by
        have t3 := t.2.2
        rw [Bool.or_eq_true] at t3
        rcases t3 with t3 | t3
        · exact c ⟨t.1, t.2.1, t3⟩
        · exact d ⟨t.1, t.2.1, t3⟩)]
theorem bPre2_cong {B B' : Int → Bool} (h : σ 77 12 = 0 → σ 77 10 = 2 → B (σ 77 11) = B' (σ 77 11)) : bPre2 B σ = bPre2 B' σ := by
  unfold bPre2
  by_cases c : σ 77 12 = 0 ∧ σ 77 10 = 2
  · rw [h c.1 c.2]
  · rw [if_neg (fun t => c ⟨t.1, t.2.1⟩), if_neg (fun t => c ⟨t.1, t.2.1⟩)]
theorem bPre2_none {B : Int → Bool} (h : ∀ t, B t = false) : bPre2 B σ = σ := by
  unfold bPre2
  rw [if_neg (fun t => by rw [h] at t; cases t.2.2)]
theorem m_isNext2 (h : bRn σ) {p : Int} (hp : on_R p) : pf_X12_isNext p σ = some (if σ 77 12 = 0 ∧ σ 77 10 = 2 ∧ σ 77 11 = p then 1 else 0, σ) := by
  unfold pf_X12_isNext pf_X12_isNext_27
  rw [bCl (m_good h.1), bE01]
  by_cases z : σ 77 12 = 0
  · obtain ⟨k, g8⟩ := h.2 z
    rw [if_pos z, bGt]
    by_cases y : σ 77 10 = 2
    · have v := g8 y
      rw [bEqT (by omega) y, bGt]
      by_cases x : σ 77 11 = p
      · rw [bEqT (by omega) x, if_pos ⟨z, y, x⟩]
      · rw [bEqF (by omega) hp x, if_neg (fun t => x t.2.2)]
    · rw [bEqF (by omega) (by omega) y, if_neg (fun t => y t.2.1)]
  · rw [if_neg z, if_neg (fun t => z t.1)]
theorem k_next2 (h : bRn σ) {p : Int} (hp : on_R p) (K : on_S → Option on_O) : (on_Cl (pf_X12_isNext p σ) fun v σ => on_Eq v 0 (K σ) (on_Cl (pf_X12_errs 2 σ) fun _ σ' => K σ')) = K (bPre2 (fun t => t == p) σ) := by
  rw [bCl (m_isNext2 h hp), bE01]
  unfold bPre2
  by_cases z : σ 77 12 = 0 ∧ σ 77 10 = 2 ∧ σ 77 11 = p
  · rw [if_pos z, bCl (m_errs0 z.1), if_pos ⟨z.1, z.2.1, beq_iff_eq.mpr z.2.2⟩]
  · rw [if_neg z, if_neg (fun t => z ⟨t.1, t.2.1, beq_iff_eq.mp t.2.2⟩)]
/-- the reference looks at every man for who stands there -/
theorem m_st74 {w : bW} (hk : bOk w) {l1 l2 : Int} (h2 : on_R l2) : ∀ (r nf : Nat) (k : Int) (τ : on_S), bRn τ → τ 83 = w → 0 ≤ k → k + (r : Int) = w 3 → r < nf → pf_X12_readStands_74 nf l1 l2 k τ = on_Cl (pf_X12_number 0 3 (bPre2 (fun t => bFst (fun m => decide (bMan w m 2 = l2 ∧ bMan w m 3 = t)) r k != -1) τ)) fun v23 σ24 => on_Cl (pf_X12_good σ24) fun v25 σ26 => on_Eq v25 0 (some (0, σ26)) (on_Wr σ26 83 687 ((26 + (4 * l1)) + 2) l2 fun σ27 => on_Wr σ27 83 687 ((26 + (4 * l1)) + 3) v23 fun σ28 => some (0, σ28)) := by
  have q3 := hk.c.2.2.2.1
  have q4 := hk.c.2.2.2.2.1
  intro r
  induction r with
  | zero =>
    intro nf k τ hr hw k0 hkr hnf
    cases nf with
    | zero => omega
    | succ nf => rw [pf_X12_readStands_74, bRd (by omega) (by omega), hw, bLtF (by omega) (by omega) (by omega), bPre2_none (B := fun t => bFst (fun m => decide (bMan w m 2 = l2 ∧ bMan w m 3 = t)) 0 k != -1) (fun _ => rfl)]
  | succ r ih =>
    intro nf k τ hr hw k0 hkr hnf
    cases nf with
    | zero => omega
    | succ nf =>
      have hm := (hk.m k k0 (by omega)).2.2
      have e2 : τ 83 ((26 + (4 * k)) + 2) = bMan w k 2 := by rw [hw]; rfl
      have e3 : τ 83 ((26 + (4 * k)) + 3) = bMan w k 3 := by rw [hw]; rfl
      rw [pf_X12_readStands_74, bRd (by omega) (by omega), hw, bLtT (by omega) (by omega) (by omega), bRd (by omega) (by omega), e2]
      by_cases z : bMan w k 2 = l2
      · rw [bEqT (by omega) z, bRd (by omega) (by omega), e3, k_next2 hr (by omega) (fun s => pf_X12_readStands_74 nf l1 l2 (k + 1) s), ih nf (k + 1) _ (hr.pre _) (by rw [bPre2_c _ (by omega)]; exact hw) (by omega) (by omega) (by omega), bPre2_or]
        rw [bPre2_cong (B' := fun t => bFst (fun m => decide (bMan w m 2 = l2 ∧ bMan w m 3 = t)) (r + 1) k != -1) (fun _ _ => ?_)]
        show ((τ 77 11 == bMan w k 3) || (bFst (fun m => decide (bMan w m 2 = l2 ∧ bMan w m 3 = τ 77 11)) r (k + 1) != -1)) = (bFst (fun m => decide (bMan w m 2 = l2 ∧ bMan w m 3 = τ 77 11)) (r + 1) k != -1)
        rw [bFst]
        by_cases y : bMan w k 3 = τ 77 11
        · rw [decide_eq_true ⟨z, y⟩, if_pos rfl, beq_iff_eq.mpr y.symm, Bool.true_or]
          exact (bne_iff_ne.mpr (by omega)).symm
        · rw [decide_eq_false (fun t => y t.2), if_neg Bool.false_ne_true, beq_eq_false_iff_ne.mpr (fun t => y t.symm), Bool.false_or]
      · rw [bEqF (by omega) h2 z, ih nf (k + 1) τ hr hw (by omega) (by omega) (by omega)]
        rw [bPre2_cong (B' := fun t => bFst (fun m => decide (bMan w m 2 = l2 ∧ bMan w m 3 = t)) (r + 1) k != -1) (fun _ _ => ?_)]
        show (bFst (fun m => decide (bMan w m 2 = l2 ∧ bMan w m 3 = τ 77 11)) r (k + 1) != -1) = (bFst (fun m => decide (bMan w m 2 = l2 ∧ bMan w m 3 = τ 77 11)) (r + 1) k != -1)
        rw [bFst, decide_eq_false (fun t => z t.1), if_neg Bool.false_ne_true]
theorem l_stands (h : bLk T σc σm) (hg : σm 77 12 = 0) (hd : bDr (σm 83) σc) (hw : bWds T σm 11 = true) : ∃ σc' σm' : on_S, pf_X6_readStands σc = some (0, σc') ∧ pf_X12_readNext σm = some (0, σm') ∧ bLn T σc σm σc' σm' := by
  obtain ⟨q0, q1, q2, q3, q4, q5, q6, q7⟩ := hd.k.c
  obtain ⟨r0, r1, r2, r3, r4, r5, r6, r7⟩ := hd.r.c
  obtain ⟨σ1, τ1, a1, a2, a3, a4, a5, -⟩ := k_token h hg
  have f1 := a4.1
  have g83 : τ1 83 = σm 83 := a4.2.1 83 (by omega)
  obtain ⟨x, y, σ2, τ2, b1, b2, b5, b6, bf, bg, b7⟩ := s_said a3 (l := 0) (u := σm 83 3 - 1) (by omega) (by omega) (by omega) (by omega) (fun t => decide (t < σm 83 3) && decide (bMan (σm 83) t 2 ≠ -1)) (τ := bPre2 (fun t => decide (t < σm 83 3) && decide (bMan (σm 83) t 2 ≠ -1)) τ1) rfl
  have f2 : ∀ c, c ≠ 52 → σ2 c = σc c := fun c hc => by rw [bf c hc, f1 c hc]
  have C0 : pf_X6_readStands σc = on_Eq (σ2 52 8) 0 (on_Rd σ2 38 9 x fun v7 => on_Eq v7 (-1) (pf_X6_readStands_51 x 1 σ2) (pf_X6_readStands_51 x 0 σ2)) (pf_X6_readStands_54 x σ2) := by
    unfold pf_X6_readStands
    rw [bCl a1, bGt, show σ1 (27 + 8) 0 = σm 83 3 by rw [f1 _ (by omega)]; exact r5, bCl b1, bGt]
  have M0 : pf_X12_readNext σm = on_Cl (on_Cl (pf_X12_needs 7 τ2) fun _ σ12 => on_Rd σ12 83 687 4 fun v13 => on_Cl (pf_X12_number 0 (v13 - 1) σ12) fun v14 σ15 => pf_X12_readStands_74 on_N y v14 0 σ15) fun _ σ67 => some (0, σ67) := by
    rw [m_way h hg hd hw (by omega), if_neg (by omega)]
    unfold pf_X12_readNext_171
    rw [bCl (m_good (by omega)), if_pos hg, bEqF (by omega) (by omega) (by omega), bCl (k_takes_not h hg hw (by omega) (by omega) (by omega)), bEqT (by omega) rfl, bCl (k_takes_not h hg hw (by omega) (by omega) (by omega)), bEqT (by omega) rfl, bCl (k_takes_not h hg hw (by omega) (by omega) (by omega)), bEqT (by omega) rfl, bCl (k_takes h hg (by omega) hw a2), bEqF (by omega) (by omega) (by omega)]
    have S : pf_X12_readStands τ1 = pf_X12_readStands_38 (bPre2 (fun t => decide (t < σm 83 3) && decide (bMan (σm 83) t 2 ≠ -1)) τ1) := by
      obtain ⟨⟨g1, g2, g3⟩, ⟨g4, g5, g6⟩, g7, g8⟩ := a3.2.2.2.2.2.2 a5
      have kb := a3.2.2.2.2.2.1.1
      unfold pf_X12_readStands pf_X12_isNextIn pf_X12_isNextIn_27 bPre2
      rw [bRd (by omega) (by omega), g83, bCl (m_good (by omega)), if_pos a5, bEqF (by omega) (by omega) (by omega), bGt]
      by_cases k2 : τ1 77 10 = 2
      · have v := g8 k2
        rw [bEqT (by omega) k2, bGt]
        by_cases lt : τ1 77 11 < σm 83 3
        · have hm := (hd.k.m (τ1 77 11) (by omega) lt).2.2
          rw [bLtT (by omega) (by omega) lt, bClS, bEqF (by omega) (by omega) (by omega), bGt, bRd (by omega) (by omega), g83, show σm 83 ((26 + (4 * τ1 77 11)) + 2) = bMan (σm 83) (τ1 77 11) 2 from rfl]
          by_cases e : bMan (σm 83) (τ1 77 11) 2 = -1
          · rw [bEqT (by omega) e, if_neg (fun t => by
              have := t.2.2
              rw [Bool.and_eq_true] at this
              exact (of_decide_eq_true this.2) e)]
          · rw [bEqF (by omega) (by omega) e, bCl (m_errs0 a5), if_pos ⟨a5, k2, by show (decide (τ1 77 11 < σm 83 3) && decide (bMan (σm 83) (τ1 77 11) 2 ≠ -1)) = true; rw [decide_eq_true lt, decide_eq_true e]; rfl⟩]
        · rw [bLtF (by omega) (by omega) (by omega), bClS, bEqT (by omega) rfl, if_neg (fun t => by
            have := t.2.2
            rw [Bool.and_eq_true] at this
            exact lt (of_decide_eq_true this.1))]
      · rw [bEqF (by omega) (by omega) k2, bClS, bEqT (by omega) rfl, if_neg (fun t => k2 t.2.1)]
    rw [S]
    unfold pf_X12_readStands_38
    rw [bRd (by omega) (by omega), bPre2_c _ (by omega), g83, bCl b2]
  -- behind the man
  have E : ∀ s : on_S, bLk T s τ2 → (∀ c, c ≠ 52 → s c = σc c) → (∀ c, c ≠ 77 → τ2 c = σm c) → (∀ i, (i < 8 ∨ 13 < i) → τ2 77 i = σm 77 i) → (τ2 77 12 = 0 → σm 77 9 ≤ τ2 77 9 ∧ (x = y ∧ 0 ≤ y ∧ y < σm 83 3 ∧ bMan (σm 83) y 2 = -1)) → ∃ σc' σm' : on_S, pf_X6_readStands_54 x s = some (0, σc') ∧ (on_Cl (on_Cl (pf_X12_needs 7 τ2) fun _ σ12 => on_Rd σ12 83 687 4 fun v13 => on_Cl (pf_X12_number 0 (v13 - 1) σ12) fun v14 σ15 => pf_X12_readStands_74 on_N y v14 0 σ15) fun _ σ67 => some (0, σ67)) = some (0, σm') ∧ bLn T σc σm σc' σm' := by
    intro s hs hc hm h7 hgd
    obtain ⟨σ3, τ3, c1, c2, c3, c4⟩ := s_word hs (k := 7) (by omega)
    obtain ⟨v, u, σ4, τ4, d1, d2, d3, d4, d5, d6, d7, -⟩ := s_number c3 (l := 0) (u := σm 83 4 - 1) (by omega) (by omega) (by omega) (by omega)
    have hm3 : ∀ c, c ≠ 77 → τ3 c = σm c := fun c h => by rw [c4.2.1 c h, hm c h]
    have hm4 : ∀ c, c ≠ 77 → τ4 c = σm c := fun c h => by rw [d4.2.1 c h, hm3 c h]
    obtain ⟨p, q, σ5, τ5, e1, e2, e5, e6, ef, eg, e7⟩ := s_said d3 (l := 0) (u := 3) (by omega) (by omega) (by omega) (by omega) (fun t => bManAt (σm 83) u t != -1) (τ := bPre2 (fun t => bManAt (σm 83) u t != -1) τ4) rfl
    have hc3 : ∀ c, c ≠ 52 → σ3 c = σc c := fun c h => by rw [c4.1 c h, hc c h]
    have hc4 : ∀ c, c ≠ 52 → σ4 c = σc c := fun c h => by rw [d4.1 c h, hc3 c h]
    have hc5 : ∀ c, c ≠ 52 → σ5 c = σc c := fun c h => by rw [ef c h, hc4 c h]
    have C1 : pf_X6_readStands_54 x s = on_Eq (σ5 52 8) 0 (on_Rd σ5 46 8 ((v * 4) + p) fun v18 => on_Eq v18 (-1) (pf_X6_readStands_118 x v p 1 σ5) (pf_X6_readStands_118 x v p 0 σ5)) (pf_X6_readStands_121 x v p σ5) := by
      unfold pf_X6_readStands_54
      rw [bCl c1, bGt, show σ3 (27 + 14) 0 = σm 83 4 by rw [hc3 _ (by omega)]; exact r6, bCl d1, bCl e1, bGt]
    have M1 : (on_Cl (on_Cl (pf_X12_needs 7 τ2) fun _ σ12 => on_Rd σ12 83 687 4 fun v13 => on_Cl (pf_X12_number 0 (v13 - 1) σ12) fun v14 σ15 => pf_X12_readStands_74 on_N y v14 0 σ15) fun _ σ67 => some (0, σ67)) = on_Cl (on_Cl (pf_X12_good τ5) fun v25 σ26 => on_Eq v25 0 (some (0, σ26)) (on_Wr σ26 83 687 ((26 + (4 * y)) + 2) u fun σ27 => on_Wr σ27 83 687 ((26 + (4 * y)) + 3) q fun σ28 => some (0, σ28))) fun _ σ67 => some (0, σ67) := by
      rw [bCl c2, bRd (by omega) (by omega), hm3 83 (by omega), bCl d2, m_st74 hd.k (by omega) (σm 83 3).toNat on_N 0 τ4 d3.rn (hm4 83 (by omega)) (by omega) (by omega) (by unfold on_N; omega)]
      rw [show (fun t => bFst (fun m => decide (bMan (σm 83) m 2 = u ∧ bMan (σm 83) m 3 = t)) (σm 83 3).toNat 0 != -1) = (fun t => bManAt (σm 83) u t != -1) from rfl, bCl e2]
    -- the last part, from any state
    have E2 : ∀ s5 : on_S, bLk T s5 τ5 → bTo σ4 τ4 s5 τ5 → (τ5 77 12 = 0 → p = q ∧ 0 ≤ q ∧ q ≤ 3 ∧ bManAt (σm 83) u q = -1) → ∃ σc' σm' : on_S, pf_X6_readStands_121 x v p s5 = some (0, σc') ∧ (on_Cl (on_Cl (pf_X12_good τ5) fun v25 σ26 => on_Eq v25 0 (some (0, σ26)) (on_Wr σ26 83 687 ((26 + (4 * y)) + 2) u fun σ27 => on_Wr σ27 83 687 ((26 + (4 * y)) + 3) q fun σ28 => some (0, σ28))) fun _ σ67 => some (0, σ67)) = some (0, σm') ∧ bLn T σc σm σc' σm' := by
      intro s5 hs5 ht hgd5
      have e8 := hs5.2.2.2.1
      have hs5c : ∀ c, c ≠ 52 → s5 c = σc c := fun c h => by rw [ht.1 c h, hc4 c h]
      have hm5 : ∀ c, c ≠ 77 → τ5 c = σm c := fun c h => by rw [ht.2.1 c h, hm4 c h]
      have h75 : ∀ i, (i < 8 ∨ 13 < i) → τ5 77 i = σm 77 i := fun i h => by rw [ht.2.2.1 i h, d4.2.2.1 i h, c4.2.2.1 i h, h7 i h]
      unfold pf_X6_readStands_121
      rw [bGt, bCl (m_good e8.2), bE01]
      by_cases good : τ5 77 12 = 0
      · have g4 := ht.2.2.2.1 good
        have g3 := d4.2.2.2.1 g4.1
        have g2 := c4.2.2.2.1 g3.1
        obtain ⟨w1, w2, w3, w4, w5⟩ := hgd g2.1
        obtain ⟨w6, w7, w8, w9⟩ := hgd5 good
        have w10 := (d7 g4.1).1
        have hd5 : bDr (σm 83) s5 := hd.to fun c c0 c1 => hs5c c (by omega)
        have A : pf_X9_putAt 27 x v p s5 = some (0, on_st (on_st (on_st s5 46 ((v * 4) + p) x) 38 x v) 39 x p) := by
          unfold pf_X9_putAt
          rw [bWr (by omega) (by omega), bWr (by omega) (by omega), bWr (by omega) (by omega)]
        have s83 : on_st (on_st τ5 83 ((26 + (4 * y)) + 2) u) 83 ((26 + (4 * y)) + 3) q 83 = bUp (bUp (σm 83) ((26 + (4 * y)) + 2) u) ((26 + (4 * y)) + 3) q := by rw [bst_up, bst_up, hm5 83 (by omega)]
        rw [bEqT (by omega) (by omega), bCl A, if_pos good, bWr (by omega) (by omega), bWr (by omega) (by omega), bClS]
        refine ⟨_, _, rfl, rfl, ?_, fun c hc' => by rw [bst_nc (by omega), bst_nc (by omega), bst_nc (by omega), hs5c c (by omega)], fun c h7 h8 => by rw [bst_nc h8, bst_nc h8, hm5 c h7], fun i hi => by rw [bst_nc (by omega), bst_nc (by omega), h75 i hi], fun _ => ⟨?_, by rw [s83, bUp_ne (by omega), bUp_ne (by omega)], by rw [bst_nc (by omega), bst_nc (by omega)]; omega⟩⟩
        · exact hs5.to (by rw [bst_nc (by omega), bst_nc (by omega), bst_nc (by omega)]) (fun i _ => by rw [bst_nc (by omega), bst_nc (by omega), bst_nc (by omega)]) (by rw [bst_nc (by omega), bst_nc (by omega)]) (by rw [bst_nc (by omega), bst_nc (by omega)])
        · refine bDr_stands hd5 (m := y) (n := u) (c := q) w3 w4 (by omega) (by omega) (by omega) (by omega) w5 w9 s83 (fun c c0 c1 h1 h2 h3 => by rw [bst_nc h2, bst_nc h1, bst_nc h3]) ?_ ?_ ?_
          · rw [bst_nc (by omega), bst_nc (by omega), bst_up, w10.1, w6, w2]
          · rw [bst_nc (by omega), bst_up, bst_nc (by omega), w10.1, w2]
          · rw [bst_up, bst_nc (by omega), bst_nc (by omega), w6, w2]
      · rw [bEqF (by omega) (by omega) (by omega), if_neg good, bClS]
        exact ⟨s5, τ5, rfl, rfl, bLn_bad hs5 good hs5c (fun c h7 _ => hm5 c h7) h75⟩
    rw [M1, C1]
    rcases e7 with ⟨i1, i2, i3, i4⟩ | ⟨i1, i2, i3, σ6, i4, i5, i6, i7⟩
    · rw [bEqF (by omega) (by omega) i1]
      exact E2 σ5 i2 i3 (fun t => absurd t i4)
    · have vu := (d7 i2).1
      have hd5 : bDr (σm 83) σ5 := hd.to fun c c0 c1 => hc5 c (by omega)
      have mr := hd5.r.h v p (by omega) (by omega) (by omega) (by omega)
      have mb := bManAt_spec hd.k.c v p
      have S : (on_Rd σ5 46 8 ((v * 4) + p) fun v18 => on_Eq v18 (-1) (pf_X6_readStands_118 x v p 1 σ5) (pf_X6_readStands_118 x v p 0 σ5)) = pf_X6_readStands_121 x v p σ6 := by
        rw [bRd (by omega) (by omega), show σ5 46 ((v * 4) + p) = bManAt (σm 83) v p from mr]
        unfold pf_X6_readStands_118
        by_cases z : bManAt (σm 83) v p = -1
        · rw [← vu.1, if_neg (by rw [bne_iff_ne]; exact fun t => t z)] at i4
          rw [bEqT (by omega) z, bCl i4]
        · rw [← vu.1, if_pos (bne_iff_ne.mpr z)] at i4
          rw [bEqF (by omega) (by omega) z, bCl i4]
      rw [bEqT (by omega) i1, S]
      refine E2 σ6 i5 i6 (fun t => ?_)
      obtain ⟨j1, j2⟩ := i7 t
      refine ⟨j1, by omega, by omega, ?_⟩
      rw [← j1]
      by_cases z : bManAt (σm 83) u p = -1
      · exact z
      · rw [bne_iff_ne.mpr z] at j2; cases j2
  rw [M0, C0]
  have frm : ∀ s, bTo σ1 τ1 s τ2 → (∀ c, c ≠ 52 → s c = σc c) ∧ (∀ c, c ≠ 77 → τ2 c = σm c) ∧ (∀ i, (i < 8 ∨ 13 < i) → τ2 77 i = σm 77 i) ∧ (τ2 77 12 = 0 → σm 77 9 ≤ τ2 77 9) := fun s t => ⟨fun c hc => by rw [t.1 c hc, f1 c hc], fun c hc => by rw [t.2.1 c hc, a4.2.1 c hc], fun i hi => by rw [t.2.2.1 i hi, a4.2.2.1 i hi], fun g => by
    have g3 := t.2.2.2.1 g
    have g2 := a4.2.2.2.1 g3.1
    omega⟩
  rcases b7 with ⟨e, e1, e2, e3⟩ | ⟨e, eg, e0, σ5, e1, e2, e3, e4⟩
  · obtain ⟨x1, x2, x3, x4⟩ := frm σ2 e2
    rw [bEqF (by omega) (by omega) e]
    exact E σ2 e1 x1 x2 x3 (fun t => absurd t e3)
  · obtain ⟨x1, x2, x3, x4⟩ := frm σ5 e3
    have hd2 : bDr (σm 83) σ2 := hd.to fun c c0 c1 => f2 c (by omega)
    have mr : σ2 38 x = bMan (σm 83) x 2 := (hd2.r.m x (by omega) (by omega)).2.2.1
    have hm := (hd.k.m x (by omega) (by omega)).2.2
    have S : (on_Rd σ2 38 9 x fun v7 => on_Eq v7 (-1) (pf_X6_readStands_51 x 1 σ2) (pf_X6_readStands_51 x 0 σ2)) = pf_X6_readStands_54 x σ5 := by
      rw [bRd (by omega) (by omega), mr]
      unfold pf_X6_readStands_51
      by_cases z : bMan (σm 83) x 2 = -1
      · rw [if_neg (fun t => by rw [Bool.and_eq_true] at t; exact (of_decide_eq_true t.2) z)] at e1
        rw [bEqT (by omega) z, bCl e1]
      · rw [if_pos (by rw [Bool.and_eq_true]; exact ⟨decide_eq_true (by omega), decide_eq_true z⟩)] at e1
        rw [bEqF (by omega) (by omega) z, bCl e1]
    rw [bEqT (by omega) e, S]
    refine E σ5 e2 x1 x2 x3 (fun t => ⟨x4 t, ?_⟩)
    obtain ⟨j1, j2⟩ := e4 t
    refine ⟨j1, by omega, by omega, ?_⟩
    rw [← j1]
    by_cases z : bMan (σm 83) x 2 = -1
    · exact z
    · rw [decide_eq_true z, decide_eq_true (show x < σm 83 3 by omega)] at j2; cases j2
end O82
