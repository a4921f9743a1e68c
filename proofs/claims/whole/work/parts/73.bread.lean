/-! B: street: the two readers side by side -/
def bWdR (k : Nat) (T : Int → Int) (s : Int) : Nat → Int → Bool
  | 0, _ => true
  | r + 1, l => T (s + l) == on_chr k l && bWdR k T s r (l + 1)
/-- the token is a word -/
def bWd (k : Nat) (T : Int → Int) (kind s a : Int) : Bool := decide (kind = 1) && (decide (a - s = ((on_len.getD k 0 : Nat) : Int)) && bWdR k T s (on_len.getD k 0) 0)
/-- both have read as far, or both have found the same fault -/
def bLk (T : Int → Int) (σc σm : on_S) : Prop := σc 1 = T ∧ bTx T σm ∧ (σc 52 2 = σm 77 7 ∧ 0 ≤ σm 77 7) ∧ (σc 52 8 = σm 77 12 ∧ 0 ≤ σm 77 12 ∧ σm 77 12 ≤ 3) ∧ (σc 52 9 = σm 77 13 ∧ -1 ≤ σm 77 13 ∧ σm 77 13 ≤ 1400) ∧ ((0 ≤ σc 52 4 ∧ σc 52 4 ≤ 4) ∧ (0 ≤ σc 52 6 ∧ σc 52 6 ≤ 1000) ∧ (0 ≤ σc 52 5 ∧ σc 52 5 ≤ 1400)) ∧ (σm 77 12 = 0 → (σc 52 3 = σm 77 8 ∧ σc 52 4 = σm 77 10 ∧ σc 52 5 = σm 77 9) ∧ (0 ≤ σm 77 9 ∧ σm 77 9 ≤ σm 77 8 ∧ σm 77 8 ≤ σm 77 7) ∧ (σm 77 10 ≠ 0 → σm 77 9 < σm 77 8) ∧ (σm 77 10 = 2 → σc 52 6 = min 1000 (σm 77 11) ∧ 0 ≤ σm 77 11 ∧ σm 77 11 ≤ 99999))
/-- one goes on from the other -/
def bTo (σc σm σc' σm' : on_S) : Prop := (∀ c, c ≠ 52 → σc' c = σc c) ∧ (∀ c, c ≠ 77 → σm' c = σm c) ∧ (∀ i, (i < 8 ∨ 13 < i) → σm' 77 i = σm 77 i) ∧ (σm' 77 12 = 0 → σm 77 12 = 0 ∧ σm 77 9 ≤ σm' 77 9) ∧ (σm 77 12 ≠ 0 → σm' = σm)
section O73
variable {T : Int → Int} {σ σc σm σc' σm' σc2 σm2 : on_S}
theorem bTo.rf (σc σm : on_S) : bTo σc σm σc σm := ⟨fun _ _ => rfl, fun _ _ => rfl, fun _ _ => rfl, fun h => ⟨h, Int.le_refl _⟩, fun _ => rfl⟩
theorem bTo.tr (h : bTo σc σm σc' σm') (g : bTo σc' σm' σc2 σm2) : bTo σc σm σc2 σm2 := by
  obtain ⟨h1, h2, h3, h4, h5⟩ := h
  obtain ⟨g1, g2, g3, g4, g5⟩ := g
  refine ⟨fun c hc => (g1 c hc).trans (h1 c hc), fun c hc => (g2 c hc).trans (h2 c hc), fun i hi => (g3 i hi).trans (h3 i hi), fun z => ?_, fun z => ?_⟩
  · have a := g4 z
    have b := h4 a.1
    exact ⟨b.1, by omega⟩
  · have e := h5 z
    rw [g5 (by rw [e]; exact z), e]
theorem bLk.to (h : bLk T σc σm) (h1 : σc' 1 = σc 1) (h2 : ∀ i, i ≠ 7 → σc' 52 i = σc 52 i) (h3 : σm' 77 = σm 77) (h4 : σm' 81 = σm 81) : bLk T σc' σm' := by
  unfold bLk bTx at h ⊢
  rw [h1, h2 2 (by omega), h2 8 (by omega), h2 9 (by omega), h2 4 (by omega), h2 6 (by omega), h2 5 (by omega), h2 3 (by omega), h3, h4]
  exact h
theorem bLk.tape (h : bLk T σc σm) : ∀ i : Int, 0 ≤ i → i < 1400 → -128 ≤ σc 1 i ∧ σc 1 i < 128 := fun i i0 i1 => by rw [h.1]; exact (h.2.1.1 i i0 i1).2
theorem m_good (h : 0 ≤ σ 77 12 ∧ σ 77 12 ≤ 3) : pf_X12_good σ = some (if σ 77 12 = 0 then 1 else 0, σ) := by
  unfold pf_X12_good
  rw [bGt]
  by_cases z : σ 77 12 = 0
  · rw [bEqT (by omega) z, if_pos z]
  · rw [bEqF (by omega) (by omega) z, if_neg z]
theorem m_errs {f : Int} (h : 0 ≤ σ 77 12 ∧ σ 77 12 ≤ 3) : pf_X12_errs f σ = some (0, if σ 77 12 = 0 then on_st (on_st σ 77 12 f) 77 13 (σ 77 9) else σ) := by
  unfold pf_X12_errs
  rw [bCl (m_good h), bE01]
  by_cases z : σ 77 12 = 0
  · rw [if_pos z, if_pos z, bPt, bGt, bst_ni (by omega), bPt]
  · rw [if_neg z, if_neg z]
theorem c_refuse {f p : Int} (h : 0 ≤ σ 52 8 ∧ σ 52 8 ≤ 3) : pf_X6_refuse f p σ = some (0, if σ 52 8 = 0 then on_st (on_st σ 52 8 f) 52 9 p else σ) := by
  unfold pf_X6_refuse
  rw [bGt]
  by_cases z : σ 52 8 = 0
  · rw [bEqT (by omega) z, if_pos z, bPt, bPt]
  · rw [bEqF (by omega) (by omega) z, if_neg z]
/-- both go on to the next token -/
theorem k_token (h : bLk T σc σm) (hg : σm 77 12 = 0) : ∃ σc' σm' : on_S, pf_X6_readToken σc = some (0, σc') ∧ pf_X12_advance σm = some (0, σm') ∧ bLk T σc' σm' ∧ bTo σc σm σc' σm' ∧ σm' 77 12 = 0 ∧ (σm 77 10 ≠ 0 → σm 77 9 < σm' 77 9) ∧ (∀ i, i ≠ 3 → i ≠ 4 → i ≠ 5 → i ≠ 6 → σc' 52 i = σc 52 i) := by
  obtain ⟨h1, h2, ⟨h3, h3'⟩, ⟨h4, h4'⟩, ⟨h5, h5'⟩, h6, h7⟩ := id h
  obtain ⟨⟨g1, g2, g3⟩, ⟨g4, g5, g6⟩, g7, g8⟩ := h7 hg
  have n14 := h2.2
  obtain ⟨σc', a1, a2, a3, a4, a5, a6, a7, a8⟩ := c_readToken (σ := σc) h.tape (by omega) (by omega) (by omega)
  obtain ⟨σm', b1, b2, b3, b4, b5, b6, b7⟩ := m_advance (σ := σm) h2 (by omega) g6
  rw [h1, h3, g1] at a4 a5 a6 a8
  have jb := bJt_b (T := T) g6
  have kb := bKd_b T (σm 77 7) (bJt T (σm 77 7) (σm 77 8))
  have ab := bAf_b (T := T) jb.2
  have kn : bKd T (σm 77 7) (bJt T (σm 77 7) (σm 77 8)) ≠ 0 → bJt T (σm 77 7) (σm 77 8) < σm 77 7 := by
    intro k
    by_cases l : bJt T (σm 77 7) (σm 77 8) < σm 77 7
    · exact l
    · exact absurd (by unfold bKd; rw [if_pos (by omega)]) k
  have e7 := b3 7 (by omega) (by omega) (by omega) (by omega)
  have e12 := b3 12 (by omega) (by omega) (by omega) (by omega)
  have e13 := b3 13 (by omega) (by omega) (by omega) (by omega)
  have c2 := a3 2 (by omega) (by omega) (by omega) (by omega)
  have c8 := a3 8 (by omega) (by omega) (by omega) (by omega)
  have c9 := a3 9 (by omega) (by omega) (by omega) (by omega)
  refine ⟨σc', σm', a1, b1, ⟨by rw [a2 1 (by omega)]; exact h1, h2.to (b2 81 (by omega)) e7, ⟨by omega, by omega⟩, ⟨by omega, by omega⟩, ⟨by omega, by omega⟩, ⟨by omega, a7, by omega⟩, fun _ => ⟨⟨by omega, by omega, by omega⟩, ⟨by omega, by omega, by omega⟩, fun k => ?_, fun k => ?_⟩⟩, ⟨a2, b2, fun i hi => b3 i (by omega) (by omega) (by omega) (by omega), fun _ => ⟨hg, by omega⟩, fun t => absurd hg t⟩, by omega, fun k => ?_, a3⟩
  · have := ab.2 (kn (by omega)); omega
  · have k' := b7 k
    have k2 := a8 (by omega)
    have two := bVl_two T (σm 77 7 - bJt T (σm 77 7) (σm 77 8)).toNat (bJt T (σm 77 7) (σm 77 8)) 0 0 (by omega) (by omega)
    have vb := bVl_b (cap := 99999) (by omega) T (σm 77 7 - bJt T (σm 77 7) (σm 77 8)).toNat (bJt T (σm 77 7) (σm 77 8)) 0 (by omega) (by omega)
    rw [k', k2]
    exact ⟨two, vb⟩
  · have := g7 k; omega
/-- both find a fault where the token begins -/
theorem k_refuse (h : bLk T σc σm) {f : Int} (f0 : 1 ≤ f) (f3 : f ≤ 3) : ∃ σc' σm' : on_S, pf_X6_refuse f (σc 52 5) σc = some (0, σc') ∧ pf_X12_errs f σm = some (0, σm') ∧ bLk T σc' σm' ∧ bTo σc σm σc' σm' ∧ σm' 77 12 ≠ 0 := by
  obtain ⟨h1, h2, ⟨h3, h3'⟩, ⟨h4, h4'⟩, ⟨h5, h5'⟩, h6, h7⟩ := id h
  have rc := c_refuse (σ := σc) (f := f) (p := σc 52 5) (by omega)
  have rm := m_errs (σ := σm) (f := f) h4'
  by_cases z : σm 77 12 = 0
  · obtain ⟨⟨g1, g2, g3⟩, ⟨g4, g5, g6⟩, g7, g8⟩ := h7 z
    have n14 := h2.2
    rw [if_pos (by omega)] at rc
    rw [if_pos z] at rm
    have e : on_st (on_st σm 77 12 f) 77 13 (σm 77 9) 77 12 = f := by rw [bst_ni (by omega), bst_eq]
    refine ⟨_, _, rc, rm, ⟨by rw [bst_nc (by omega), bst_nc (by omega)]; exact h1, h2.to (by rw [bst_nc (by omega), bst_nc (by omega)]) (by rw [bst_ni (by omega), bst_ni (by omega)]), ?_, ?_, ?_, ?_, fun t => by omega⟩, ⟨fun c hc => by rw [bst_nc hc, bst_nc hc], fun c hc => by rw [bst_nc hc, bst_nc hc], fun i hi => by rw [bst_ni (by omega), bst_ni (by omega)], fun t => by omega, fun t => absurd z t⟩, by omega⟩
    · rw [bst_ni (by omega), bst_ni (by omega), bst_ni (by omega), bst_ni (by omega)]; exact ⟨h3, h3'⟩
    · rw [e, bst_ni (by omega), bst_eq]; omega
    · rw [bst_eq, bst_eq]; omega
    · rw [bst_ni (by omega), bst_ni (by omega), bst_ni (by omega), bst_ni (by omega), bst_ni (by omega), bst_ni (by omega)]; exact h6
  · rw [if_neg (by omega)] at rc
    rw [if_neg z] at rm
    exact ⟨σc, σm, rc, rm, h, bTo.rf _ _, z⟩
theorem c_isWord28 {k : Nat} (hk : k < 17) {s : Int} (hs : σ 52 5 = s) (s0 : 0 ≤ s) (hT : ∀ i : Int, 0 ≤ i → i < 1400 → -128 ≤ σ 1 i ∧ σ 1 i < 128) (s1 : s + ((on_len.getD k 0 : Nat) : Int) ≤ 1400) : ∀ (r nf : Nat) (l : Int), 0 ≤ l → l + (r : Int) = ((on_len.getD k 0 : Nat) : Int) → r < nf → pf_X6_isWord_28 k nf l σ = some (if bWdR k (σ 1) s r l then 1 else 0, σ) := by
  intro r
  induction r with
  | zero =>
    intro nf l l0 hl hnf
    cases nf with
    | zero => omega
    | succ nf => rw [pf_X6_isWord_28, bSl, bLtF (by omega) (by omega) (by omega)]; rfl
  | succ r ih =>
    intro nf l l0 hl hnf
    cases nf with
    | zero => omega
    | succ nf =>
      have t := hT (s + l) (by omega) (by omega)
      have cb : on_R (on_chr k l) := by unfold on_chr; exact ⟨Int32.le_toInt _, Int32.toInt_lt _⟩
      rw [pf_X6_isWord_28, bSl, bLtT (by omega) (by omega) (by omega), bGt, hs, bRd (by omega) (by omega), show on_Sc k l (fun v8 => on_Eq (σ 1 (s + l)) v8 (pf_X6_isWord_28 k nf (l + 1) σ) (some (0, σ))) = on_Eq (σ 1 (s + l)) (on_chr k l) (pf_X6_isWord_28 k nf (l + 1) σ) (some (0, σ)) from if_pos ⟨l0, by omega⟩, bWdR]
      by_cases e : σ 1 (s + l) = on_chr k l
      · rw [bEqT (by omega) e, ih nf (l + 1) (by omega) (by omega) (by omega), beq_iff_eq.mpr e, Bool.true_and]
      · rw [bEqF (by omega) cb e, beq_eq_false_iff_ne.mpr e]; rfl
theorem m_is39 {k : Nat} (hk : k < 17) {s : Int} (hs : σ 77 9 = s) (s0 : 0 ≤ s) (hT : bTx T σ) (s1 : s + ((on_len.getD k 0 : Nat) : Int) ≤ 1400) : ∀ (r nf : Nat) (l : Int), 0 ≤ l → l + (r : Int) = ((on_len.getD k 0 : Nat) : Int) → r < nf → pf_X12_is_39 k nf 1 l σ = some (if bWdR k T s r l then 1 else 0, σ) := by
  intro r
  induction r with
  | zero =>
    intro nf l l0 hl hnf
    cases nf with
    | zero => omega
    | succ nf => rw [pf_X12_is_39, bSl, bLtF (by omega) (by omega) (by omega)]; rfl
  | succ r ih =>
    intro nf l l0 hl hnf
    cases nf with
    | zero => omega
    | succ nf =>
      have t := hT.1 (s + l) (by omega) (by omega)
      have cb : on_R (on_chr k l) := by unfold on_chr; exact ⟨Int32.le_toInt _, Int32.toInt_lt _⟩
      have lb := on_len_ok k
      rw [pf_X12_is_39, bSl, bLtT (by omega) (by omega) (by omega), bEqF (by omega) (by omega) (by omega), bGt, hs, bRd (by omega) (by omega), t.1, show on_Sc k l (fun v10 => on_Eq (T (s + l)) v10 (pf_X12_is_39 k nf 1 (l + 1) σ) (pf_X12_is_39 k nf 0 (l + 1) σ)) = on_Eq (T (s + l)) (on_chr k l) (pf_X12_is_39 k nf 1 (l + 1) σ) (pf_X12_is_39 k nf 0 (l + 1) σ) from if_pos ⟨l0, by omega⟩, bWdR]
      by_cases e : T (s + l) = on_chr k l
      · rw [bEqT (by omega) e, ih nf (l + 1) (by omega) (by omega) (by omega), beq_iff_eq.mpr e, Bool.true_and]
      · rw [bEqF (by omega) cb e, beq_eq_false_iff_ne.mpr e]
        cases nf with
        | zero => omega
        | succ nf =>
          rw [pf_X12_is_39, bSl]
          by_cases z : l + 1 < ((on_len.getD k 0 : Nat) : Int)
          · rw [bLtT (by omega) (by omega) z, bEqT (by omega) rfl]; rfl
          · rw [bLtF (by omega) (by omega) (by omega)]; rfl
/-- the same word, to both -/
theorem k_word (h : bLk T σc σm) (hg : σm 77 12 = 0) {k : Nat} (hk : k < 17) : pf_X6_isWord k σc = some (if bWd k T (σm 77 10) (σm 77 9) (σm 77 8) then 1 else 0, σc) ∧ pf_X12_is k σm = some (if bWd k T (σm 77 10) (σm 77 9) (σm 77 8) then 1 else 0, σm) := by
  obtain ⟨h1, h2, ⟨h3, h3'⟩, ⟨h4, h4'⟩, ⟨h5, h5'⟩, h6, h7⟩ := id h
  obtain ⟨⟨g1, g2, g3⟩, ⟨g4, g5, g6⟩, g7, g8⟩ := h7 hg
  have n14 := h2.2
  have lb := on_len_ok k
  refine ⟨?_, ?_⟩
  · unfold pf_X6_isWord bWd
    rw [bGt, g2]
    by_cases e : σm 77 10 = 1
    · rw [bEqT (by omega) e, bGt, bGt, bSl, g1, g3, decide_eq_true e, Bool.true_and]
      by_cases e2 : σm 77 8 - σm 77 9 = ((on_len.getD k 0 : Nat) : Int)
      · have := c_isWord28 (σ := σc) hk g3 (by omega) h.tape (by omega) (on_len.getD k 0) on_N 0 (by omega) (by omega) (by unfold on_N; omega)
        rw [bEqT (by omega) e2, this, decide_eq_true e2, Bool.true_and, h1]
      · rw [bEqF (by omega) (by omega) e2, decide_eq_false e2]; rfl
    · rw [bEqF (by omega) (by omega) e, decide_eq_false e]; rfl
  · have no : pf_X12_is_35 k σm = some (0, σm) := by
      unfold pf_X12_is_35 pf_X12_is_36
      rw [show on_N = 99999 + 1 from rfl, pf_X12_is_39, bSl]
      by_cases z : (0 : Int) < ((on_len.getD k 0 : Nat) : Int)
      · rw [bLtT (by omega) (by omega) z, bEqT (by omega) rfl]; rfl
      · rw [bLtF (by omega) (by omega) (by omega)]; rfl
    unfold pf_X12_is bWd
    rw [bCl (m_good h4'), if_pos hg, bEqF (by omega) (by omega) (by omega), bGt]
    by_cases e : σm 77 10 = 1
    · rw [bEqT (by omega) e, bGt, bGt, bSl, decide_eq_true e, Bool.true_and]
      by_cases e2 : σm 77 8 - σm 77 9 = ((on_len.getD k 0 : Nat) : Int)
      · have := m_is39 (σ := σm) hk rfl (by omega) h2 (by omega) (on_len.getD k 0) on_N 0 (by omega) (by omega) (by unfold on_N; omega)
        rw [bEqT (by omega) e2]
        unfold pf_X12_is_36
        rw [this, decide_eq_true e2, Bool.true_and]
      · rw [bEqF (by omega) (by omega) e2, no, decide_eq_false e2]; rfl
    · rw [bEqF (by omega) (by omega) e, no, decide_eq_false e]; rfl
theorem m_is_bad (h : bLk T σc σm) (hg : σm 77 12 ≠ 0) {k : Nat} : pf_X12_is k σm = some (0, σm) := by
  unfold pf_X12_is
  rw [bCl (m_good h.2.2.2.1.2), if_neg hg, bEqT (by omega) rfl]
  have lb := on_len_ok k
  unfold pf_X12_is_35 pf_X12_is_36
  rw [show on_N = 99999 + 1 from rfl, pf_X12_is_39, bSl]
  by_cases z : (0 : Int) < ((on_len.getD k 0 : Nat) : Int)
  · rw [bLtT (by omega) (by omega) z, bEqT (by omega) rfl]; rfl
  · rw [bLtF (by omega) (by omega) (by omega)]; rfl
end O73
