/-! B: street: lines, one kind after the other -/
section O78
variable {T : Int → Int} {σ σc σm σc' σm' : on_S}
/-- a part of a line has been read by both -/
def bLn (T : Int → Int) (σc σm σc' σm' : on_S) : Prop := bLk T σc' σm' ∧ (∀ c, (c < 27 ∨ 52 < c) → σc' c = σc c) ∧ (∀ c, c ≠ 77 → c ≠ 83 → σm' c = σm c) ∧ (∀ i, (i < 8 ∨ 13 < i) → σm' 77 i = σm 77 i) ∧ (σm' 77 12 = 0 → bDr (σm' 83) σc' ∧ σm' 83 7 = σm 83 7 ∧ σm 77 9 ≤ σm' 77 9)
theorem bWd_chr {k : Nat} {kd s a : Int} (hl : 0 < on_len.getD k 0) (h : bWd k T kd s a = true) : T s = on_chr k 0 := by
  unfold bWd at h
  rw [Bool.and_eq_true, Bool.and_eq_true] at h
  obtain ⟨-, -, h⟩ := h
  cases hn : on_len.getD k 0 with
  | zero => omega
  | succ r =>
    rw [hn, bWdR, Bool.and_eq_true, beq_iff_eq, show s + (0 : Int) = s by omega] at h
    exact h.1
theorem bWd_no {k k' : Nat} {kd s a : Int} (hl : 0 < on_len.getD k 0) (hl' : 0 < on_len.getD k' 0) (hn : on_chr k 0 ≠ on_chr k' 0) (h : bWd k T kd s a = true) : bWd k' T kd s a = false := by
  cases h' : bWd k' T kd s a with
  | false => rfl
  | true => exact absurd ((bWd_chr hl h).symm.trans (bWd_chr hl' h')) hn
/-- which of the eight words the token is, or none -/
def bWds (T : Int → Int) (σ : on_S) (k : Nat) : Bool := bWd k T (σ 77 10) (σ 77 9) (σ 77 8)
theorem k_is (h : bLk T σc σm) (hg : σm 77 12 = 0) {k : Nat} (hk : k < 17) (b : Bool) (hb : bWds T σm k = b) : pf_X6_isWord k σc = some (if b then 1 else 0, σc) ∧ pf_X12_is k σm = some (if b then 1 else 0, σm) := by
  have := k_word h hg hk
  unfold bWds at hb
  rw [hb] at this
  exact this
theorem bWds_8 {k : Nat} (h : bWds T σ k = true) (hk : k = 3 ∨ k = 4 ∨ k = 6 ∨ k = 11 ∨ k = 12 ∨ k = 13 ∨ k = 14 ∨ k = 16) {k' : Nat} (hk' : k' = 3 ∨ k' = 4 ∨ k' = 6 ∨ k' = 11 ∨ k' = 12 ∨ k' = 13 ∨ k' = 14 ∨ k' = 16) (hn : k ≠ k') : bWds T σ k' = false := by
  have t : ∀ a ∈ [3, 4, 6, 11, 12, 13, 14, 16], ∀ b ∈ [3, 4, 6, 11, 12, 13, 14, 16], a ≠ b → 0 < on_len.getD a 0 ∧ 0 < on_len.getD b 0 ∧ on_chr a 0 ≠ on_chr b 0 := by decide +kernel
  obtain ⟨t1, t2, t3⟩ := t k (by rcases hk with e | e | e | e | e | e | e | e <;> subst e <;> decide) k' (by rcases hk' with e | e | e | e | e | e | e | e <;> subst e <;> decide) hn
  exact bWd_no t1 t2 t3 h
theorem m_171_bad (hb : 0 ≤ σ 77 12 ∧ σ 77 12 ≤ 3) (hg : σ 77 12 ≠ 0) : pf_X12_readNext_171 σ = some (0, σ) := by
  unfold pf_X12_readNext_171
  rw [bCl (m_good hb), if_neg hg, bEqT (by omega) rfl]
theorem m_166 (h : bLk T σc σm) (hg : σm 77 12 = 0) : ∃ σc' : on_S, pf_X6_refuse 3 (σc 52 5) σc = some (0, σc') ∧ pf_X12_readNext_166 σm = some (0, bErr σm 3) ∧ bLk T σc' (bErr σm 3) ∧ bTo σc σm σc' (bErr σm 3) := by
  obtain ⟨σ1, σ2, r1, r2, r3, r4, r5⟩ := k_refuse h (f := 3) (by omega) (by omega)
  have e2 : σ2 = bErr σm 3 := by
    rw [m_errs0 hg] at r2
    injection r2 with r2
    injection r2 with _ r2
    exact r2.symm
  subst e2
  refine ⟨σ1, r1, ?_, r3, r4⟩
  unfold pf_X12_readNext_166
  rw [bCl r2, m_171_bad (by rw [bErr_12]; omega) r5]
/-- the reference's way to the part that a word asks for -/
theorem m_way (h : bLk T σc σm) (hg : σm 77 12 = 0) (hd : bDr (σm 83) σc) {k : Nat} (hw : bWds T σm k = true) (hk : k = 3 ∨ k = 4 ∨ k = 6 ∨ k = 11 ∨ k = 12 ∨ k = 13 ∨ k = 14 ∨ k = 16) : pf_X12_readNext σm = if (k = 3 ∧ σm 83 2 = 9) ∨ (k = 4 ∧ σm 83 3 = 9) ∨ (k = 6 ∧ σm 83 4 = 2) ∨ (k = 14 ∧ σm 83 5 = 9) then pf_X12_readNext_166 σm else pf_X12_readNext_171 σm := by
  obtain ⟨q0, q1, q2, q3, q4, q5, q6, q7⟩ := hd.k.c
  have I : ∀ k' : Nat, k' = 3 ∨ k' = 4 ∨ k' = 6 ∨ k' = 11 ∨ k' = 12 ∨ k' = 13 ∨ k' = 14 ∨ k' = 16 → k ≠ k' → pf_X12_is k' σm = some (0, σm) := fun k' hk' hn => (k_is h hg (by omega) false (bWds_8 hw hk hk' hn)).2
  have Y : pf_X12_is k σm = some (1, σm) := (k_is h hg (by omega) true hw).2
  have e72 : pf_X12_readNext_72 σm = pf_X12_readNext_87 σm := by
    unfold pf_X12_readNext_72 pf_X12_readNext_77
    rw [bEqF (by omega) (by omega) (by omega)]
  have e77 : pf_X12_readNext_77 1 σm = pf_X12_readNext_87 σm := by
    unfold pf_X12_readNext_77
    rw [bEqF (by omega) (by omega) (by omega)]
  -- is it one of the eight
  have s1 : pf_X12_readNext σm = pf_X12_readNext_87 σm := by
    unfold pf_X12_readNext
    by_cases z3 : k = 3
    · subst z3; rw [bCl Y, bEqF (by omega) (by omega) (by omega), e72]
    · rw [bCl (I 3 (by omega) z3), bEqT (by omega) rfl]
      by_cases z4 : k = 4
      · subst z4; rw [bCl Y, bEqF (by omega) (by omega) (by omega), e72]
      · rw [bCl (I 4 (by omega) z4), bEqT (by omega) rfl]
        by_cases z6 : k = 6
        · subst z6; rw [bCl Y, bEqF (by omega) (by omega) (by omega), e72]
        · rw [bCl (I 6 (by omega) z6), bEqT (by omega) rfl]
          by_cases z11 : k = 11
          · subst z11; rw [bCl Y, bEqF (by omega) (by omega) (by omega), e72]
          · rw [bCl (I 11 (by omega) z11), bEqT (by omega) rfl]
            by_cases z12 : k = 12
            · subst z12; rw [bCl Y, bEqF (by omega) (by omega) (by omega), e72]
            · rw [bCl (I 12 (by omega) z12), bEqT (by omega) rfl]
              by_cases z13 : k = 13
              · subst z13; rw [bCl Y, bEqF (by omega) (by omega) (by omega), e72]
              · rw [bCl (I 13 (by omega) z13), bEqT (by omega) rfl]
                by_cases z14 : k = 14
                · subst z14; rw [bCl Y, bEqF (by omega) (by omega) (by omega), e72]
                · rw [bCl (I 14 (by omega) z14), bEqT (by omega) rfl]
                  have z16 : k = 16 := by omega
                  subst z16; rw [bCl Y, bEqF (by omega) (by omega) (by omega), e72]
  rw [s1]
  unfold pf_X12_readNext_87
  by_cases z3 : k = 3
  · subst z3
    have s : pf_X12_readNext_107 σm = pf_X12_readNext_171 σm := by
      unfold pf_X12_readNext_107 pf_X12_readNext_127 pf_X12_readNext_146
      rw [bCl (I 4 (by omega) (by omega)), bEqT (by omega) rfl, bCl (I 6 (by omega) (by omega)), bEqT (by omega) rfl, bCl (I 14 (by omega) (by omega)), bEqT (by omega) rfl]
    rw [bCl Y, bEqF (by omega) (by omega) (by omega), bRd (by omega) (by omega)]
    by_cases u : σm 83 2 = 9
    · rw [bEqT (by omega) u, if_pos (Or.inl ⟨rfl, u⟩)]
    · rw [bEqF (by omega) (by omega) u, s, if_neg (by omega)]
  · rw [bCl (I 3 (by omega) z3), bEqT (by omega) rfl]
    unfold pf_X12_readNext_107
    by_cases z4 : k = 4
    · subst z4
      have s : pf_X12_readNext_127 σm = pf_X12_readNext_171 σm := by
        unfold pf_X12_readNext_127 pf_X12_readNext_146
        rw [bCl (I 6 (by omega) (by omega)), bEqT (by omega) rfl, bCl (I 14 (by omega) (by omega)), bEqT (by omega) rfl]
      rw [bCl Y, bEqF (by omega) (by omega) (by omega), bRd (by omega) (by omega)]
      by_cases u : σm 83 3 = 9
      · rw [bEqT (by omega) u, if_pos (Or.inr (Or.inl ⟨rfl, u⟩))]
      · rw [bEqF (by omega) (by omega) u, s, if_neg (by omega)]
    · rw [bCl (I 4 (by omega) z4), bEqT (by omega) rfl]
      unfold pf_X12_readNext_127
      by_cases z6 : k = 6
      · subst z6
        have s : pf_X12_readNext_146 σm = pf_X12_readNext_171 σm := by
          unfold pf_X12_readNext_146
          rw [bCl (I 14 (by omega) (by omega)), bEqT (by omega) rfl]
        rw [bCl Y, bEqF (by omega) (by omega) (by omega), bRd (by omega) (by omega)]
        by_cases u : σm 83 4 = 2
        · rw [bEqT (by omega) u, if_pos (Or.inr (Or.inr (Or.inl ⟨rfl, u⟩)))]
        · rw [bEqF (by omega) (by omega) u, s, if_neg (by omega)]
      · rw [bCl (I 6 (by omega) z6), bEqT (by omega) rfl]
        unfold pf_X12_readNext_146
        by_cases z14 : k = 14
        · subst z14
          rw [bCl Y, bEqF (by omega) (by omega) (by omega), bRd (by omega) (by omega)]
          by_cases u : σm 83 5 = 9
          · rw [bEqT (by omega) u, if_pos (Or.inr (Or.inr (Or.inr ⟨rfl, u⟩)))]
          · rw [bEqF (by omega) (by omega) u, if_neg (by omega)]
        · rw [bCl (I 14 (by omega) z14), bEqT (by omega) rfl, if_neg (by omega)]
/-- the room for one more -/
theorem s_room (h : bLk T σc σm) (hg : σm 77 12 = 0) {n N : Int} (n0 : 0 ≤ n) (n1 : n ≤ N) (N9 : N ≤ 9) : ∃ σc' σm' : on_S, pf_X6_needRoom n N σc = some (0, σc') ∧ bLk T σc' σm' ∧ bTo σc σm σc' σm' ∧ (n = N → σm' = bErr σm 3) ∧ (n ≠ N → pf_X12_advance σm = some (0, σm')) := by
  unfold pf_X6_needRoom
  by_cases e : n = N
  · obtain ⟨σ1, r1, r2, r3, r4⟩ := m_166 h hg
    exact ⟨σ1, bErr σm 3, by rw [bLtF (by omega) (by omega) (by omega), bGt, bCl r1], r3, r4, fun _ => rfl, fun t => absurd e t⟩
  · obtain ⟨σ3, σ4, t1, t2, t3, t4, -⟩ := k_token h hg
    exact ⟨σ3, σ4, by rw [bLtT (by omega) (by omega) (by omega), bCl t1], t3, t4, fun t => absurd t e, fun _ => t2⟩
theorem bErr_nc {f : Int} {c : Nat} (h : c ≠ 77) : bErr σ f c = σ c := by unfold bErr; rw [bst_nc h, bst_nc h]
/-- a line that is at fault: nothing more is asked of the reference -/
theorem bLn_bad (h : bLk T σc' σm') (hb : σm' 77 12 ≠ 0) (hc : ∀ c, c ≠ 52 → σc' c = σc c) (hm : ∀ c, c ≠ 77 → c ≠ 83 → σm' c = σm c) (h7 : ∀ i, (i < 8 ∨ 13 < i) → σm' 77 i = σm 77 i) : bLn T σc σm σc' σm' := ⟨h, fun c hc' => hc c (by omega), hm, h7, fun t => absurd t hb⟩
theorem l_window (h : bLk T σc σm) (hg : σm 77 12 = 0) (hd : bDr (σm 83) σc) (hw : bWds T σm 3 = true) : ∃ σc' σm' : on_S, pf_X6_readWindow σc = some (0, σc') ∧ pf_X12_readNext σm = some (0, σm') ∧ bLn T σc σm σc' σm' := by
  obtain ⟨q0, q1, q2, q3, q4, q5, q6, q7⟩ := hd.k.c
  obtain ⟨r0, r1, r2, r3, r4, r5, r6, r7⟩ := hd.r.c
  obtain ⟨σ1, τ1, a1, a2, a3, a4, a5⟩ := s_room h hg (n := σm 83 2) (N := 9) (by omega) (by omega) (by omega)
  have f1 := a3.1
  obtain ⟨v, u, σ2, τ2, b1, b2, b3, b4, b5, b6, b7, -⟩ := s_number a2 (l := 0) (u := σm 83 0 - 1) (by omega) (by omega) (by omega) (by omega)
  have tw : ∀ i x : Int, bLk T σ2 (on_st τ2 83 i x) := fun i x => b3.to rfl (fun _ _ => rfl) (bst_nc (by omega)) (bst_nc (by omega))
  have L3 := tw (8 + (2 * σm 83 2)) u
  have t12 : on_st τ2 83 (8 + (2 * σm 83 2)) u 77 12 = τ2 77 12 := by rw [bst_nc (by omega)]
  obtain ⟨x, y, σ3, τ3, c1, c2, c3, c4, c5, c6, c7, -⟩ := s_number L3 (l := 1) (u := σm 83 1) (by omega) (by omega) (by omega) (by omega)
  have hc : ∀ c, c ≠ 52 → σ3 c = σc c := fun c hc => by rw [c4.1 c hc, b4.1 c hc, f1 c hc]
  have s83 : τ3 83 = bUp (σm 83) (8 + (2 * σm 83 2)) u := by rw [c4.2.1 83 (by omega), bst_up, b4.2.1 83 (by omega), a3.2.1 83 (by omega)]
  have e8 := c3.2.2.2.1
  have C : pf_X6_readWindow σc = on_Eq (σ3 52 8) 0 (on_Cl (pf_X9_addWindow 27 v x σ3) fun _ σ12 => some (0, σ12)) (some (0, σ3)) := by
    unfold pf_X6_readWindow
    rw [bGt, r3, bCl a1, bGt, f1 27 (by omega), r0, bCl b1, bGt, b4.1 27 (by omega), f1 27 (by omega), r1, bCl c1, bGt]
  by_cases full : σm 83 2 = 9
  · -- too many
    have e1 := a4 full
    have bad1 : τ1 77 12 ≠ 0 := by rw [e1, bErr_12]; omega
    have e2 : τ2 = τ1 := b4.2.2.2.2 bad1
    have e3 : τ3 = on_st τ2 83 (8 + (2 * σm 83 2)) u := c4.2.2.2.2 (by rw [t12, e2]; exact bad1)
    have b12 : τ3 77 12 ≠ 0 := by rw [e3, t12, e2]; exact bad1
    have L : bLk T σ3 τ1 := c3.to rfl (fun _ _ => rfl) (by rw [e3, bst_nc (by omega), e2]) (by rw [e3, bst_nc (by omega), e2])
    refine ⟨σ3, τ1, ?_, ?_, bLn_bad L bad1 hc (fun c h7 h8 => a3.2.1 c h7) a3.2.2.1⟩
    · rw [C, bEqF (by omega) (by omega) (by omega)]
    · obtain ⟨-, -, m2, -, -⟩ := m_166 h hg
      rw [m_way h hg hd hw (by omega), if_pos (Or.inl ⟨rfl, full⟩), m2, e1]
  · have adv := a5 full
    have g83 : τ1 83 = σm 83 := a3.2.1 83 (by omega)
    have M : pf_X12_readNext σm = some (0, on_st (on_st τ3 83 ((8 + (2 * σm 83 2)) + 1) y) 83 2 (σm 83 2 + 1)) := by
      rw [m_way h hg hd hw (by omega), if_neg (by omega)]
      unfold pf_X12_readNext_171
      rw [bCl (m_good (by omega)), if_pos hg, bEqF (by omega) (by omega) (by omega), bCl (k_takes h hg (by omega) hw adv), bEqF (by omega) (by omega) (by omega), bRd (by omega) (by omega), g83, bCl (show pf_X12_freshHouse τ1 = some (u, τ2) by unfold pf_X12_freshHouse; rw [bRd (by omega) (by omega), g83, bCl b2]), bWr (by omega) (by omega), bRd (by omega) (by omega), bst_ni (by omega), b4.2.1 83 (by omega), g83, bCl c2, bWr (by omega) (by omega), bRd (by omega) (by omega), bst_ni (by omega), s83, bUp_ne (by omega), bWr (by omega) (by omega)]
    have z77 : on_st (on_st τ3 83 ((8 + (2 * σm 83 2)) + 1) y) 83 2 (σm 83 2 + 1) 77 = τ3 77 := by rw [bst_nc (by omega), bst_nc (by omega)]
    have z83 : on_st (on_st τ3 83 ((8 + (2 * σm 83 2)) + 1) y) 83 2 (σm 83 2 + 1) 83 = bUp (bUp (bUp (σm 83) (8 + (2 * σm 83 2)) u) ((8 + (2 * σm 83 2)) + 1) y) 2 (σm 83 2 + 1) := by rw [bst_up, bst_up, s83]
    have zc : ∀ c, c ≠ 77 → c ≠ 83 → on_st (on_st τ3 83 ((8 + (2 * σm 83 2)) + 1) y) 83 2 (σm 83 2 + 1) c = σm c := fun c h7 h8 => by rw [bst_nc h8, bst_nc h8, c4.2.1 c h7, bst_nc h8, b4.2.1 c h7, a3.2.1 c h7]
    have z7i : ∀ i, (i < 8 ∨ 13 < i) → τ3 77 i = σm 77 i := fun i hi => by rw [c4.2.2.1 i hi, bst_nc (by omega), b4.2.2.1 i hi, a3.2.2.1 i hi]
    generalize on_st (on_st τ3 83 ((8 + (2 * σm 83 2)) + 1) y) 83 2 (σm 83 2 + 1) = Z at *
    by_cases good : τ3 77 12 = 0
    · have g3 := c4.2.2.2.1 good
      rw [t12, bst_nc (by omega)] at g3
      have g2 := b4.2.2.2.1 g3.1
      have g1 := a3.2.2.2.1 g2.1
      have v1 := (b7 g3.1).1
      have v2 := (c7 good).1
      have hd3 : bDr (σm 83) σ3 := hd.to fun c c0 c1 => hc c (by omega)
      have k3 : σ3 27 3 = σm 83 2 := hd3.r.c.2.2.2.1
      have A : pf_X9_addWindow 27 v x σ3 = some (0, on_st (on_st (on_st (on_st σ3 28 (σm 83 2) v) 29 (σm 83 2) x) 30 (σm 83 2) (-1)) 27 3 (σm 83 2 + 1)) := by
        unfold pf_X9_addWindow
        rw [bGt, k3, bLtT (by omega) (by omega) (by omega), bGt, k3, bWr (by omega) (by omega), bGt, bst_nc (by omega), k3, bWr (by omega) (by omega), bGt, bst_nc (by omega), bst_nc (by omega), k3, bWr (by omega) (by omega), bGt, bst_nc (by omega), bst_nc (by omega), bst_nc (by omega), k3, bPt]
      refine ⟨on_st (on_st (on_st (on_st σ3 28 (σm 83 2) v) 29 (σm 83 2) x) 30 (σm 83 2) (-1)) 27 3 (σm 83 2 + 1), Z, by rw [C, bEqT (by omega) (by omega), bCl A], M, ?_, ?_, zc, fun i hi => by rw [z77, z7i i hi], fun _ => ⟨?_, by rw [z83, bUp_ne (by omega), bUp_ne (by omega), bUp_ne (by omega)], by rw [z77]; omega⟩⟩
      · exact c3.to (by rw [bst_nc (by omega), bst_nc (by omega), bst_nc (by omega), bst_nc (by omega)]) (fun i _ => by rw [bst_nc (by omega), bst_nc (by omega), bst_nc (by omega), bst_nc (by omega)]) z77 (by rw [zc 81 (by omega) (by omega), c4.2.1 81 (by omega), bst_nc (by omega), b4.2.1 81 (by omega), a3.2.1 81 (by omega)])
      · exact fun c hc' => by rw [bst_nc (by omega), bst_nc (by omega), bst_nc (by omega), bst_nc (by omega), hc c (by omega)]
      · refine bDr_window hd3 (x := u) (s := y) (by omega) (by omega) (by omega) (by omega) (by omega) z83 (fun c c0 c1 h1 h2 h3 h4 => by rw [bst_nc h1, bst_nc h4, bst_nc h3, bst_nc h2]) ?_ ?_ ?_ ?_
        · rw [bst_up, bst_nc (by omega), bst_nc (by omega), bst_nc (by omega)]
        · rw [bst_nc (by omega), bst_nc (by omega), bst_nc (by omega), bst_up, v1.1]
        · rw [bst_nc (by omega), bst_nc (by omega), bst_up, bst_nc (by omega), v2.1]
        · rw [bst_nc (by omega), bst_up, bst_nc (by omega), bst_nc (by omega)]
    · refine ⟨σ3, Z, by rw [C, bEqF (by omega) (by omega) (by omega)], M, bLn_bad ?_ (by rw [z77]; exact good) hc zc (fun i hi => by rw [z77, z7i i hi])⟩
      exact c3.to rfl (fun _ _ => rfl) z77 (by rw [zc 81 (by omega) (by omega), c4.2.1 81 (by omega), bst_nc (by omega), b4.2.1 81 (by omega), a3.2.1 81 (by omega)])
end O78
