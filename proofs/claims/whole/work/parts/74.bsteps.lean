/-! B: street: one step of both readers -/
/-- a fault, where the token begins -/
def bErr (σ : on_S) (f : Int) : on_S := on_st (on_st σ 77 12 f) 77 13 (σ 77 9)
section O74
variable {T : Int → Int} {σ σc σm σc' σm' : on_S}
theorem bErr_12 {f : Int} : bErr σ f 77 12 = f := by unfold bErr; rw [bst_ni (by omega), bst_eq]
theorem m_errs0 {f : Int} (h : σ 77 12 = 0) : pf_X12_errs f σ = some (0, bErr σ f) := by
  rw [m_errs (by omega), if_pos h]; rfl
theorem k_takes (h : bLk T σc σm) (hg : σm 77 12 = 0) {k : Nat} (hk : k < 17) (hw : bWd k T (σm 77 10) (σm 77 9) (σm 77 8) = true) (hm : pf_X12_advance σm = some (0, σm')) : pf_X12_takes k σm = some (1, σm') := by
  unfold pf_X12_takes
  rw [bCl (k_word h hg hk).2, hw, if_pos rfl, bEqF (by omega) (by omega) (by omega), bCl hm, bBz1]
theorem k_takes_no (h : bLk T σc σm) (hg : σm 77 12 = 0) {k : Nat} (hk : k < 17) (hw : bWd k T (σm 77 10) (σm 77 9) (σm 77 8) = false) : pf_X12_takes k σm = some (0, σm) := by
  unfold pf_X12_takes
  rw [bCl (k_word h hg hk).2, hw, if_neg Bool.false_ne_true, bEqT (by omega) rfl, bBz0]
theorem k_takes_bad (h : bLk T σc σm) (hg : σm 77 12 ≠ 0) {k : Nat} : pf_X12_takes k σm = some (0, σm) := by
  unfold pf_X12_takes
  rw [bCl (m_is_bad h hg), bEqT (by omega) rfl, bBz0]
theorem s_word (h : bLk T σc σm) {k : Nat} (hk : k < 17) : ∃ σc' σm' : on_S, pf_X6_needWord k σc = some (0, σc') ∧ pf_X12_needs k σm = some (0, σm') ∧ bLk T σc' σm' ∧ bTo σc σm σc' σm' := by
  have h4 := h.2.2.2.1
  obtain ⟨σ1, σ2, r1, r2, r3, r4, -⟩ := k_refuse h (f := 1) (by omega) (by omega)
  unfold pf_X6_needWord pf_X6_needWord_22 pf_X12_needs
  rw [bGt, bGt]
  by_cases z : σm 77 12 = 0
  · rw [bEqT (by omega) (by omega), bCl (k_word h z hk).1]
    cases hw : bWd k T (σm 77 10) (σm 77 9) (σm 77 8) with
    | true =>
      obtain ⟨σ3, σ4, t1, t2, t3, t4, -⟩ := k_token h z
      exact ⟨σ3, σ4, by rw [if_pos rfl, bEqF (by omega) (by omega) (by omega), bCl t1], by rw [bCl (k_takes h z hk hw t2), bEqF (by omega) (by omega) (by omega)], t3, t4⟩
    | false =>
      exact ⟨σ1, σ2, by rw [if_neg Bool.false_ne_true, bEqT (by omega) rfl, bGt, bCl r1], by rw [bCl (k_takes_no h z hk hw), bEqT (by omega) rfl, bCl r2], r3, r4⟩
  · exact ⟨σ1, σ2, by rw [bEqF (by omega) (by omega) (by omega), bCl r1], by rw [bCl (k_takes_bad h z), bEqT (by omega) rfl, bCl r2], r3, r4⟩
theorem m_num47_bad (hb : 0 ≤ σ 77 12 ∧ σ 77 12 ≤ 3) (hg : σ 77 12 ≠ 0) : pf_X12_number_47 σ = some (0, σ) := by
  unfold pf_X12_number_47
  rw [bCl (m_good hb), if_neg hg, bEqT (by omega) rfl]
theorem m_num20_bad (hb : 0 ≤ σ 77 12 ∧ σ 77 12 ≤ 3) (hg : σ 77 12 ≠ 0) {l u : Int} : pf_X12_number_20 l u σ = some (0, σ) := by
  unfold pf_X12_number_20
  rw [bCl (m_good hb), if_neg hg, bEqT (by omega) rfl, m_num47_bad hb hg]
theorem m_num_bad (hb : 0 ≤ σ 77 12 ∧ σ 77 12 ≤ 3) (hg : σ 77 12 ≠ 0) {l u : Int} : pf_X12_number l u σ = some (0, σ) := by
  unfold pf_X12_number
  rw [bCl (m_good hb), if_neg hg, bEqT (by omega) rfl, m_num20_bad hb hg]
theorem c_num_bad (hk : 0 ≤ σ 52 4 ∧ σ 52 4 ≤ 4) (hv : 0 ≤ σ 52 6 ∧ σ 52 6 ≤ 1000) (hb : 0 ≤ σ 52 8 ∧ σ 52 8 ≤ 3) (hg : σ 52 8 ≠ 0) {l u : Int} (hl : on_R l) (hu : on_R u) : pf_X6_needNumber l u σ = some (l, on_st σ 52 7 (σ 52 5)) := by
  have e : ∀ i, i ≠ 7 → on_st σ 52 7 (σ 52 5) 52 i = σ 52 i := fun i hi => bst_ni hi
  unfold pf_X6_needNumber
  rw [bGt, bGt, bPt]
  generalize on_st σ 52 7 (σ 52 5) = S at *
  have e8 := e 8 (by omega)
  have e4 := e 4 (by omega)
  have r : ∀ f p : Int, pf_X6_refuse f p S = some (0, S) := fun f p => by rw [c_refuse (by omega), if_neg (by omega)]
  have e61 : pf_X6_needNumber_61 l S = some (l, S) := by unfold pf_X6_needNumber_61; rw [bGt, bCl (r _ _)]
  have e40 : ∀ v : Int, pf_X6_needNumber_40 l v S = some (l, S) := fun v => by
    unfold pf_X6_needNumber_40
    rw [bGt, bEqF (by omega) (by omega) (by omega), e61]
  have e31 : ∀ v : Int, pf_X6_needNumber_31 l v S = some (l, S) := fun v => by
    unfold pf_X6_needNumber_31
    rw [bGt, bCl (r _ _), e40]
  rw [bGt, e4]
  by_cases z : σ 52 4 = 2
  · rw [bEqT (by omega) z]
    by_cases y : σ 52 6 < l
    · rw [bLtT (by omega) hl y, e31]
    · rw [bLtF (by omega) hl (by omega)]
      by_cases x : σ 52 6 ≤ u
      · rw [bLeT (by omega) hu x, e40]
      · rw [bLeF (by omega) hu (by omega), e31]
  · rw [bEqF (by omega) (by omega) z, e40]
theorem s_number (h : bLk T σc σm) {l u : Int} (l0 : 0 ≤ l) (l1 : l ≤ 99) (u0 : -1 ≤ u) (u1 : u ≤ 99) : ∃ (vc vm : Int) (σc' σm' : on_S), pf_X6_needNumber l u σc = some (vc, σc') ∧ pf_X12_number l u σm = some (vm, σm') ∧ bLk T σc' σm' ∧ bTo σc σm σc' σm' ∧ (0 ≤ vc ∧ vc ≤ 99) ∧ (0 ≤ vm ∧ vm ≤ 99) ∧ (σm' 77 12 = 0 → (vc = vm ∧ l ≤ vm ∧ vm ≤ u) ∧ σm 77 10 = 2 ∧ vm = σm 77 11) ∧ σc' 52 7 = σc 52 5 ∧ (σm 77 12 = 0 → σm 77 10 = 2 → ¬ (l ≤ σm 77 11 ∧ σm 77 11 ≤ u) → σm' = bErr σm 2) := by
  obtain ⟨h1, h2, ⟨h3, h3'⟩, ⟨h4, h4'⟩, ⟨h5, h5'⟩, ⟨h6, h6', h6''⟩, h7⟩ := id h
  have L7 : bLk T (on_st σc 52 7 (σc 52 5)) σm := h.to (bst_nc (by omega)) (fun i hi => bst_ni hi) rfl rfl
  by_cases z : σm 77 12 = 0
  · obtain ⟨⟨g1, g2, g3⟩, ⟨g4, g5, g6⟩, g7, g8⟩ := h7 z
    have s7 : on_st σc 52 7 (σc 52 5) 52 7 = σc 52 5 := bst_eq
    have si : ∀ i, i ≠ 7 → on_st σc 52 7 (σc 52 5) 52 i = σc 52 i := fun i hi => bst_ni hi
    have sc : ∀ c, c ≠ 52 → on_st σc 52 7 (σc 52 5) c = σc c := fun c hc => bst_nc hc
    unfold pf_X6_needNumber pf_X12_number
    rw [bGt, bGt, bPt, bCl (m_good h4'), if_pos z, bEqF (by omega) (by omega) (by omega), bGt, bGt]
    generalize on_st σc 52 7 (σc 52 5) = S at *
    have s8 := si 8 (by omega)
    have s4 := si 4 (by omega)
    have s5 := si 5 (by omega)
    have toS : ∀ {σ1 σ2 : on_S}, bTo S σm σ1 σ2 → bTo σc σm σ1 σ2 := fun t => ⟨fun c hc => (t.1 c hc).trans (sc c hc), t.2⟩
    rw [s4, g2]
    by_cases y : σm 77 10 = 2
    · obtain ⟨v1, v2, v3⟩ := g8 y
      rw [bEqT (by omega) y, bEqT (by omega) y]
      by_cases x : l ≤ σm 77 11 ∧ σm 77 11 ≤ u
      · -- a number as it should be
        obtain ⟨σ3, σ4, t1, t2, t3, t4, t5, t6, t7⟩ := k_token L7 z
        refine ⟨σm 77 11, σm 77 11, σ3, σ4, ?_, ?_, t3, toS t4, by omega, by omega, fun _ => ⟨⟨rfl, x⟩, y, rfl⟩, by rw [t7 7 (by omega) (by omega) (by omega) (by omega)]; exact s7, fun _ _ n => absurd x n⟩
        · rw [v1, show min 1000 (σm 77 11) = σm 77 11 by omega, bLtF (by omega) (by omega) (by omega), bLeT (by omega) (by omega) (by omega)]
          unfold pf_X6_needNumber_40
          rw [bGt, bEqT (by omega) (by omega), bGt, bEqT (by omega) (by omega), bCl t1]
        · unfold pf_X12_number_20
          rw [bCl (m_good h4'), if_pos z, bEqF (by omega) (by omega) (by omega), bGt, bCk (by omega), bCk (by omega), bCk (by omega), bCl (m_in' (by omega) (by omega) (by omega)), if_pos x, bEqF (by omega) (by omega) (by omega)]
          unfold pf_X12_number_47
          rw [bCl (m_good h4'), if_pos z, bEqF (by omega) (by omega) (by omega), bGt, bCl t2]
      · -- too small or too large
        obtain ⟨σ1, σ2, r1, r2, r3, r4, r5⟩ := k_refuse L7 (f := 2) (by omega) (by omega)
        have e2 : σ2 = bErr σm 2 := by
          rw [m_errs0 z] at r2
          injection r2 with r2
          injection r2 with _ r2
          exact r2.symm
        have b8 := r3.2.2.2.1
        have e40 : ∀ v : Int, pf_X6_needNumber_40 l v σ1 = some (l, σ1) := fun v => by
          unfold pf_X6_needNumber_40 pf_X6_needNumber_61
          rw [bGt, bEqF (by omega) (by omega) (by omega), bGt, bCl (show pf_X6_refuse 1 (σ1 52 5) σ1 = some (0, σ1) by rw [c_refuse (by omega), if_neg (by omega)])]
        have e31 : ∀ v : Int, pf_X6_needNumber_31 l v S = some (l, σ1) := fun v => by
          unfold pf_X6_needNumber_31
          rw [bGt, bCl r1, e40]
        have s17 : σ1 52 7 = σc 52 5 := by
          rw [c_refuse (by omega), if_pos (by omega)] at r1
          injection r1 with r1
          injection r1 with _ r1
          rw [← r1, bst_ni (by omega), bst_ni (by omega)]; exact s7
        refine ⟨l, 0, σ1, σ2, ?_, ?_, r3, toS r4, by omega, by omega, fun t => absurd t r5, s17, fun _ _ _ => e2⟩
        · by_cases w : σc 52 6 < l
          · rw [bLtT (by omega) (by omega) w, e31]
          · rw [bLtF (by omega) (by omega) (by omega), bLeF (by omega) (by omega) (by omega), e31]
        · unfold pf_X12_number_20
          rw [bCl (m_good h4'), if_pos z, bEqF (by omega) (by omega) (by omega), bGt, bCk (by omega), bCk (by omega), bCk (by omega), bCl (m_in' (by omega) (by omega) (by omega)), if_neg x, bEqT (by omega) rfl, bCl r2, m_num47_bad b8.2 r5]
    · -- no number
      obtain ⟨σ1, σ2, r1, r2, r3, r4, r5⟩ := k_refuse L7 (f := 1) (by omega) (by omega)
      have b8 := r3.2.2.2.1
      have s17 : σ1 52 7 = σc 52 5 := by
        rw [c_refuse (by omega), if_pos (by omega)] at r1
        injection r1 with r1
        injection r1 with _ r1
        rw [← r1, bst_ni (by omega), bst_ni (by omega)]; exact s7
      refine ⟨l, 0, σ1, σ2, ?_, ?_, r3, toS r4, by omega, by omega, fun t => absurd t r5, s17, fun _ t _ => absurd t y⟩
      · rw [bEqF (by omega) (by omega) y]
        unfold pf_X6_needNumber_40
        rw [bGt, bEqT (by omega) (by omega), bGt, bEqF (by omega) (by omega) (by omega)]
        unfold pf_X6_needNumber_61
        rw [bGt, bCl r1]
      · rw [bEqF (by omega) (by omega) y, bCl r2, m_num20_bad b8.2 r5]
  · refine ⟨l, 0, on_st σc 52 7 (σc 52 5), σm, c_num_bad h6 h6' (by omega) (by omega) (by omega) (by omega), m_num_bad h4' z, L7, ⟨fun c hc => bst_nc hc, fun _ _ => rfl, fun _ _ => rfl, fun t => absurd t z, fun _ => rfl⟩, by omega, by omega, fun t => absurd t z, bst_eq, fun t => absurd t z⟩
/-- a number, of which something must hold that both look after: the class behind it, the reference before -/
theorem s_said (h : bLk T σc σm) {l u : Int} (l0 : 0 ≤ l) (l1 : l ≤ 99) (u0 : -1 ≤ u) (u1 : u ≤ 99) (B : Int → Bool) {τ : on_S} (hτ : τ = if σm 77 12 = 0 ∧ σm 77 10 = 2 ∧ B (σm 77 11) = true then bErr σm 2 else σm) : ∃ (vc vm : Int) (σ1 σm' : on_S), pf_X6_needNumber l u σc = some (vc, σ1) ∧ pf_X12_number l u τ = some (vm, σm') ∧ (0 ≤ vc ∧ vc ≤ 99) ∧ (0 ≤ vm ∧ vm ≤ 99) ∧ (∀ c, c ≠ 52 → σ1 c = σc c) ∧ (0 ≤ σ1 52 8 ∧ σ1 52 8 ≤ 3) ∧ ((σ1 52 8 ≠ 0 ∧ bLk T σ1 σm' ∧ bTo σc σm σ1 σm' ∧ σm' 77 12 ≠ 0) ∨ (σ1 52 8 = 0 ∧ σm 77 12 = 0 ∧ (l ≤ vc ∧ vc ≤ u) ∧ ∃ σc' : on_S, pf_X6_needAsSaid (if B vc then 0 else 1) σ1 = some (0, σc') ∧ bLk T σc' σm' ∧ bTo σc σm σc' σm' ∧ (σm' 77 12 = 0 → vc = vm ∧ B vc = false))) := by
  obtain ⟨vc, vm, σ1, σ2, a1, a2, a3, a4, a5, a6, a7, a8, a9⟩ := s_number h l0 l1 u0 u1
  obtain ⟨h1, h2, ⟨h3, h3'⟩, ⟨h4, h4'⟩, ⟨h5, h5'⟩, ⟨h6, h6', h6''⟩, h7⟩ := id h
  have b8 := a3.2.2.2.1
  by_cases c : σm 77 12 = 0 ∧ σm 77 10 = 2 ∧ B (σm 77 11) = true
  · obtain ⟨c1, c2, c3⟩ := c
    rw [if_pos ⟨c1, c2, c3⟩] at hτ
    have t12 : τ 77 12 = 2 := by rw [hτ]; exact bErr_12
    have nb : pf_X12_number l u τ = some (0, τ) := m_num_bad (by omega) (by omega)
    obtain ⟨⟨g1, g2, g3⟩, ⟨g4, g5, g6⟩, g7, g8⟩ := h7 c1
    have n14 := h2.2
    have frm : bTo σc σm σ1 τ := ⟨a4.1, fun c hc => by rw [hτ]; unfold bErr; rw [bst_nc hc, bst_nc hc], fun i hi => by rw [hτ]; unfold bErr; rw [bst_ni (by omega), bst_ni (by omega)], fun t => by omega, fun t => absurd c1 t⟩
    by_cases x : l ≤ σm 77 11 ∧ σm 77 11 ≤ u
    · by_cases z : σ2 77 12 = 0
      · obtain ⟨⟨e1, e2, e3⟩, e4, e5⟩ := a7 z
        refine ⟨vc, 0, σ1, τ, a1, nb, a5, by omega, a4.1, by omega, Or.inr ⟨by omega, c1, by omega, on_st (on_st σ1 52 8 2) 52 9 (σ1 52 7), ?_, ?_, ?_, fun t => by omega⟩⟩
        · unfold pf_X6_needAsSaid
          rw [if_pos (by rw [e1, e5]; exact c3), bEqT (by omega) rfl, bGt, bCl (show pf_X6_refuse 2 (σ1 52 7) σ1 = some (0, on_st (on_st σ1 52 8 2) 52 9 (σ1 52 7)) by rw [c_refuse (by omega), if_pos (by omega)])]
        · have t7 : τ 77 7 = σm 77 7 := by rw [hτ]; unfold bErr; rw [bst_ni (by omega), bst_ni (by omega)]
          have t13 : τ 77 13 = σm 77 9 := by rw [hτ]; unfold bErr; rw [bst_eq]
          have t81 : τ 81 = σm 81 := by rw [hτ]; unfold bErr; rw [bst_nc (by omega), bst_nc (by omega)]
          obtain ⟨k1, k2, ⟨k3, k3'⟩, -, -, k6, -⟩ := a3
          refine ⟨by rw [bst_nc (by omega), bst_nc (by omega)]; exact k1, h2.to t81 t7, ?_, ?_, ?_, ?_, fun t => by omega⟩
          · rw [bst_ni (by omega), bst_ni (by omega), t7, k3]
            have := a4.2.2.1 7 (by omega)
            omega
          · rw [bst_ni (by omega), bst_eq, t12]; omega
          · rw [bst_eq, t13, a8]; omega
          · rw [bst_ni (by omega), bst_ni (by omega), bst_ni (by omega), bst_ni (by omega), bst_ni (by omega), bst_ni (by omega)]; exact k6
        · exact ⟨fun c hc => by rw [bst_nc hc, bst_nc hc, a4.1 c hc], frm.2⟩
      · refine ⟨vc, 0, σ1, τ, a1, nb, a5, by omega, a4.1, by omega, Or.inl ⟨by omega, ?_, frm, by omega⟩⟩
        -- it can't be
        exfalso
        have e20 : pf_X12_number l u σm = some (σm 77 11, σ2) ∧ σ2 77 12 = 0 := by
          obtain ⟨σ3, σ4, t1, t2, t3, t4, t5, t6, t7⟩ := k_token h c1
          have v := g8 c2
          have : pf_X12_number l u σm = some (σm 77 11, σ4) := by
            unfold pf_X12_number
            rw [bCl (m_good h4'), if_pos c1, bEqF (by omega) (by omega) (by omega), bGt, bEqT (by omega) c2]
            unfold pf_X12_number_20
            rw [bCl (m_good h4'), if_pos c1, bEqF (by omega) (by omega) (by omega), bGt, bCk (by omega), bCk (by omega), bCk (by omega), bCl (m_in' (by omega) (by omega) (by omega)), if_pos x, bEqF (by omega) (by omega) (by omega)]
            unfold pf_X12_number_47
            rw [bCl (m_good h4'), if_pos c1, bEqF (by omega) (by omega) (by omega), bGt, bCl t2]
          rw [a2] at this
          injection this with this
          injection this with e1 e2
          subst e2
          exact ⟨by rw [a2, e1], t5⟩
        exact z e20.2
    · have e2 := a9 c1 c2 x
      have t2 : τ = σ2 := by rw [hτ, e2]
      rw [t2] at nb t12 frm ⊢
      exact ⟨vc, 0, σ1, σ2, a1, nb, a5, by omega, a4.1, by omega, Or.inl ⟨by omega, a3, frm, by omega⟩⟩
  · rw [if_neg c] at hτ
    subst hτ
    by_cases z : σ2 77 12 = 0
    · obtain ⟨⟨e1, e2, e3⟩, e4, e5⟩ := a7 z
      have B0 : B vc = false := by
        cases hB : B vc with
        | false => rfl
        | true => exact absurd ⟨(a4.2.2.2.1 z).1, e4, by rw [← e5, ← e1]; exact hB⟩ c
      refine ⟨vc, vm, σ1, σ2, a1, a2, a5, a6, a4.1, by omega, Or.inr ⟨by omega, (a4.2.2.2.1 z).1, by omega, σ1, ?_, a3, a4, fun _ => ⟨e1, B0⟩⟩⟩
      unfold pf_X6_needAsSaid
      rw [B0, if_neg Bool.false_ne_true, bEqF (by omega) (by omega) (by omega)]
    · exact ⟨vc, vm, σ1, σ2, a1, a2, a5, a6, a4.1, by omega, Or.inl ⟨by omega, a3, a4, z⟩⟩
theorem s_sign (h : bLk T σc σm) : ∃ σc' σm' : on_S, pf_X6_needSign σc = some (0, σc') ∧ pf_X12_readLine_52 σm = pf_X12_readLine_83 σm' ∧ bLk T σc' σm' ∧ bTo σc σm σc' σm' ∧ (σm' 77 12 = 0 → σm 77 9 < σm' 77 9) := by
  obtain ⟨h1, h2, ⟨h3, h3'⟩, ⟨h4, h4'⟩, ⟨h5, h5'⟩, ⟨h6, h6', h6''⟩, h7⟩ := id h
  obtain ⟨σ1, σ2, r1, r2, r3, r4, r5⟩ := k_refuse h (f := 1) (by omega) (by omega)
  have b72 : pf_X12_readLine_72 σ2 = pf_X12_readLine_83 σ2 := by
    unfold pf_X12_readLine_72
    rw [bCl (m_good r3.2.2.2.1.2), if_neg r5, bEqT (by omega) rfl]
  unfold pf_X12_readLine_52
  rw [bCl (m_good h4')]
  by_cases z : σm 77 12 = 0
  · obtain ⟨⟨g1, g2, g3⟩, ⟨g4, g5, g6⟩, g7, g8⟩ := h7 z
    rw [if_pos z, bEqF (by omega) (by omega) (by omega), bGt]
    by_cases y : σm 77 10 = 3
    · obtain ⟨σ3, σ4, t1, t2, t3, t4, t5, t6, t7⟩ := k_token h z
      refine ⟨σ3, σ4, ?_, ?_, t3, t4, fun _ => t6 (by omega)⟩
      · unfold pf_X6_needSign
        rw [bGt, bEqT (by omega) (by omega), bGt, bEqT (by omega) (by omega), bCl t1]
      · rw [bEqT (by omega) y]
        unfold pf_X12_readLine_72
        rw [bCl (m_good h4'), if_pos z, bEqF (by omega) (by omega) (by omega), bCl t2]
    · refine ⟨σ1, σ2, ?_, by rw [bEqF (by omega) (by omega) y, bCl r2, b72], r3, r4, fun t => absurd t r5⟩
      unfold pf_X6_needSign pf_X6_needSign_22
      rw [bGt, bEqT (by omega) (by omega), bGt, bEqF (by omega) (by omega) (by omega), bGt, bCl r1]
  · rw [if_neg z, bEqT (by omega) rfl]
    rw [m_errs h4', if_neg z] at r2
    injection r2 with r2
    injection r2 with _ r2
    subst r2
    refine ⟨σ1, σm, ?_, b72, r3, r4, fun t => absurd t r5⟩
    unfold pf_X6_needSign pf_X6_needSign_22
    rw [bGt, bEqF (by omega) (by omega) (by omega), bGt, bCl r1]
end O74
