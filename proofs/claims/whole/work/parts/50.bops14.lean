/-! B: the alarm in the reference -/
def bHe (w : bW) (b : Int) : Nat → Int → Prop
  | 0, a => a = b
  | r + 1, a => bHe w b r a ∨ ∃ c : Int, 0 ≤ c ∧ c < w 0 ∧ 0 < bRoad w a c ∧ bDs w a b = bRoad w a c + bDs w c b ∧ bHe w b r c
theorem bPig : ∀ a b c d e : Fin 4, a = b ∨ a = c ∨ a = d ∨ a = e ∨ b = c ∨ b = d ∨ b = e ∨ c = d ∨ c = e ∨ d = e := by decide +kernel
theorem bPig' {a b c d e : Int} (ha : 0 ≤ a ∧ a < 4) (hb : 0 ≤ b ∧ b < 4) (hc : 0 ≤ c ∧ c < 4) (hd : 0 ≤ d ∧ d < 4) (he : 0 ≤ e ∧ e < 4) (h1 : a ≠ b) (h2 : a ≠ c) (h3 : a ≠ d) (h4 : a ≠ e) (h5 : b ≠ c) (h6 : b ≠ d) (h7 : b ≠ e) (h8 : c ≠ d) (h9 : c ≠ e) (h10 : d ≠ e) : False := by
  have f : ∀ {x y : Int} (hx : 0 ≤ x ∧ x < 4) (hy : 0 ≤ y ∧ y < 4), x ≠ y → (⟨x.toNat, by omega⟩ : Fin 4) ≠ ⟨y.toNat, by omega⟩ := by
    intro x y hx hy h t
    have := congrArg Fin.val t
    simp only at this
    omega
  rcases bPig ⟨a.toNat, by omega⟩ ⟨b.toNat, by omega⟩ ⟨c.toNat, by omega⟩ ⟨d.toNat, by omega⟩ ⟨e.toNat, by omega⟩ with t | t | t | t | t | t | t | t | t | t
  · exact f ha hb h1 t
  · exact f ha hc h2 t
  · exact f ha hd h3 t
  · exact f ha he h4 t
  · exact f hb hc h5 t
  · exact f hb hd h6 t
  · exact f hb he h7 t
  · exact f hc hd h8 t
  · exact f hc he h9 t
  · exact f hd he h10 t
section O50
variable {n : Nat} {σ : on_S} {p q r : Int} {w : bW}
theorem bRoad_in (hk : bOk w) {a c : Int} (a0 : 0 ≤ a) (a4 : a < 4) (c0 : 0 ≤ c) (c4 : c < 4) (h : 0 < bRoad w a c) : c < w 0 := by
  have x := (hk.r c a c0 c4 a0 a4).2
  have y := (hk.r a c a0 a4 c0 c4).2.1
  apply Classical.byContradiction
  intro t
  have := x.2 (by omega)
  omega
theorem bHe_all (hk : bOk w) {a b : Int} (a0 : 0 ≤ a) (a4 : a < 4) (b0 : 0 ≤ b) (b4 : b < 4) (hl : bDs w a b < 1000000) : bHe w b 3 a := by
  by_cases e : a = b
  · exact Or.inl (Or.inl (Or.inl e))
  · obtain ⟨c, c0, c4, cr, -, cd⟩ := bDs_pred hk a0 a4 b0 b4 e hl
    have cw := bRoad_in hk a0 a4 c0 c4 cr
    by_cases e1 : c = b
    · exact Or.inl (Or.inl (Or.inr ⟨c, c0, cw, cr, cd, e1⟩))
    · obtain ⟨d, d0, d4, dr, -, dd⟩ := bDs_pred hk c0 c4 b0 b4 e1 (by omega)
      have dw := bRoad_in hk c0 c4 d0 d4 dr
      by_cases e2 : d = b
      · exact Or.inl (Or.inr ⟨c, c0, cw, cr, cd, Or.inr ⟨d, d0, dw, dr, dd, e2⟩⟩)
      · obtain ⟨f, f0, f4, fr, -, fd⟩ := bDs_pred hk d0 d4 b0 b4 e2 (by omega)
        have fw := bRoad_in hk d0 d4 f0 f4 fr
        by_cases e3 : f = b
        · exact Or.inr ⟨c, c0, cw, cr, cd, Or.inr ⟨d, d0, dw, dr, dd, Or.inr ⟨f, f0, fw, fr, fd, e3⟩⟩⟩
        · exfalso
          exact bPig' ⟨a0, a4⟩ ⟨c0, c4⟩ ⟨d0, d4⟩ ⟨f0, f4⟩ ⟨b0, b4⟩ (fun t => by rw [t] at cd; rw [t] at cr; omega) (fun t => by rw [t] at cd cr; omega) (fun t => by rw [t] at cd cr; omega) e (fun t => by rw [t] at dd dr; omega) (fun t => by rw [t] at dd dr; omega) e1 (fun t => by rw [t] at fd fr; omega) e2 e3
def bInH (w : bW) (b : Int) (σ σ' : on_S) (Q : Int → Prop) : Prop := (∀ c, c ≠ 93 → σ' c = σ c) ∧ (∀ a : Int, 0 ≤ a → a < 4 → bDs w a b ≤ σ' 93 a ∧ σ' 93 a ≤ 1000000) ∧ ∀ a : Int, 0 ≤ a → a < 4 → Q a → σ' 93 a = bDs w a b
theorem m_roadOf {x y : Int} (h0 : 0 ≤ 191 + 4 * x + y) (h1 : 191 + 4 * x + y < 687) : pf_X12_roadOf x y σ = some (bRoad (σ 78) x y, σ) := by
  unfold pf_X12_roadOf; rw [bRd (by omega) (by omega)]; rfl
theorem m_round (hk : bOk (σ 78)) {b : Int} (b0 : 0 ≤ b) (b4 : b < 4) (r : Nat) (k33 : Int → on_S → Option on_O) (l : Int) : ∀ σ1 : on_S, bInH (σ 78) b σ σ1 (bHe (σ 78) b r) → ∃ σ2 : on_S, pf_X12_spreads_40 k33 on_N l 0 σ1 = k33 (l + 1) σ2 ∧ bInH (σ 78) b σ σ2 (bHe (σ 78) b (r + 1)) := by
  intro σ1 hσ
  obtain ⟨q0, q1, q2, q3, q4, q5, q6, q7⟩ := hk.c
  have wy := bDs_way hk
  have L2 : ∀ (m nf : Nat) (i j : Int) (k40 : Int → Int → on_S → Option on_O) (σ' : on_S), 0 ≤ i → i < σ 78 0 → 0 ≤ j → j + (m : Int) = σ 78 0 → m < nf → bInH (σ 78) b σ σ' (bHe (σ 78) b r) → (∀ a : Int, 0 ≤ a → a < i → bHe (σ 78) b (r + 1) a → σ' 93 a = bDs (σ 78) a b) → (∀ c : Int, 0 ≤ c → c < j → 0 < bRoad (σ 78) i c → bDs (σ 78) i b = bRoad (σ 78) i c + bDs (σ 78) c b → bHe (σ 78) b r c → σ' 93 i = bDs (σ 78) i b) → ∃ σ'' : on_S, pf_X12_spreads_53 k33 k40 nf l i j σ' = k40 l (i + 1) σ'' ∧ bInH (σ 78) b σ σ'' (bHe (σ 78) b r) ∧ (∀ a : Int, 0 ≤ a → a < i + 1 → bHe (σ 78) b (r + 1) a → σ'' 93 a = bDs (σ 78) a b) := by
    intro m
    induction m with
    | zero =>
      intro nf i j k40 σ' i0 i4 j0 hj hnf h1 h2 h3
      have w1 : σ' 78 = σ 78 := h1.1 78 (by omega)
      cases nf with
      | zero => omega
      | succ nf =>
        refine ⟨σ', by rw [pf_X12_spreads_53, bRd (by omega) (by omega), w1, bLtF (by omega) (by omega) (by omega)], h1, fun a a0 a1 ha => ?_⟩
        by_cases e : a = i
        · subst e
          rcases ha with ha | ⟨c, c0, c1, c2, c3, c4⟩
          · exact h1.2.2 a a0 (by omega) ha
          · exact h3 c c0 (by omega) c2 c3 c4
        · exact h2 a a0 (by omega) ha
    | succ m ih =>
      intro nf i j k40 σ' i0 i4 j0 hj hnf h1 h2 h3
      have w1 : σ' 78 = σ 78 := h1.1 78 (by omega)
      cases nf with
      | zero => omega
      | succ nf =>
        have rb := (hk.r i j i0 (by omega) j0 (by omega)).1
        have bi := h1.2.1 i i0 (by omega)
        have bj := h1.2.1 j j0 (by omega)
        have di := wy.1 i b i0 (by omega) b0 b4
        have dj := wy.1 j b j0 (by omega) b0 b4
        rw [pf_X12_spreads_53, bRd (by omega) (by omega), w1, bLtT (by omega) (by omega) (by omega), bCl (m_roadOf (by omega) (by omega)), w1]
        by_cases z : bRoad (σ 78) i j ≤ 0
        · rw [bLeT (by omega) (by omega) z]
          refine ih nf i (j + 1) k40 σ' i0 i4 (by omega) (by omega) (by omega) h1 h2 (fun c c0 c1 c2 c3 c4 => ?_)
          by_cases e : c = j
          · subst e; omega
          · exact h3 c c0 (by omega) c2 c3 c4
        · have tri : bDs (σ 78) i b ≤ bRoad (σ 78) i j + bDs (σ 78) j b := by
            have t := bDs_tri hk i0 (by omega) b0 b4 j0 (show j < 4 by omega)
            have : bEd (σ 78) i j ≤ bRoad (σ 78) i j := by
              unfold bEd; split
              · omega
              · rw [if_neg (by omega)]; omega
            omega
          rw [bLeF (by omega) (by omega) (by omega), bRd (by omega) (by omega), bRd (by omega) (by omega), bCl (m_roadOf (by omega) (by omega)), w1, bMn (by omega) (by omega), bWr (by omega) (by omega)]
          refine ih nf i (j + 1) k40 _ i0 i4 (by omega) (by omega) (by omega) ⟨fun c hc => by rw [bst_nc hc]; exact h1.1 c hc, fun a a0 a4 => ?_, fun a a0 a4 ha => ?_⟩ (fun a a0 a1 ha => ?_) (fun c c0 c1 c2 c3 c4 => ?_)
          · rw [bst_if]
            by_cases e : a = i
            · rw [if_pos e, e]; omega
            · rw [if_neg e]; exact h1.2.1 a a0 a4
          · rw [bst_if]
            by_cases e : a = i
            · subst e
              have := h1.2.2 a a0 a4 ha
              rw [if_pos rfl]; omega
            · rw [if_neg e]; exact h1.2.2 a a0 a4 ha
          · rw [bst_if, if_neg (by omega)]; exact h2 a a0 a1 ha
          · rw [bst_eq]
            by_cases e : c = j
            · subst e
              have := h1.2.2 c c0 (by omega) c4
              omega
            · have := h3 c c0 (by omega) c2 c3 c4
              omega
  have L1 : ∀ (m nf : Nat) (i : Int) (σ' : on_S), 0 ≤ i → i + (m : Int) = σ 78 0 → m < nf → bInH (σ 78) b σ σ' (bHe (σ 78) b r) → (∀ a : Int, 0 ≤ a → a < i → bHe (σ 78) b (r + 1) a → σ' 93 a = bDs (σ 78) a b) → ∃ σ2 : on_S, pf_X12_spreads_40 k33 nf l i σ' = k33 (l + 1) σ2 ∧ bInH (σ 78) b σ σ2 (bHe (σ 78) b (r + 1)) := by
    intro m
    induction m with
    | zero =>
      intro nf i σ' i0 hi hnf h1 h2
      have w1 : σ' 78 = σ 78 := h1.1 78 (by omega)
      cases nf with
      | zero => omega
      | succ nf =>
        refine ⟨σ', by rw [pf_X12_spreads_40, bRd (by omega) (by omega), w1, bLtF (by omega) (by omega) (by omega)], h1.1, h1.2.1, fun a a0 a4 ha => ?_⟩
        by_cases e : a < i
        · exact h2 a a0 e ha
        · rcases ha with ha | ⟨c, c0, c1, c2, c3, c4⟩
          · exact h1.2.2 a a0 a4 ha
          · have := (hk.r a c a0 a4 c0 (by omega)).2.2 (by omega)
            omega
    | succ m ih =>
      intro nf i σ' i0 hi hnf h1 h2
      have w1 : σ' 78 = σ 78 := h1.1 78 (by omega)
      cases nf with
      | zero => omega
      | succ nf =>
        obtain ⟨σ3, a1, a2, a3⟩ := L2 (σ 78 0).toNat on_N i 0 (pf_X12_spreads_40 k33 nf) σ' i0 (by omega) (by omega) (by omega) (by unfold on_N; omega) h1 h2 (fun c c0 c1 => by omega)
        rw [pf_X12_spreads_40, bRd (by omega) (by omega), w1, bLtT (by omega) (by omega) (by omega), a1]
        exact ih nf (i + 1) σ3 (by omega) (by omega) (by omega) a2 a3
  exact L1 (σ 78 0).toNat on_N 0 σ1 (by omega) (by omega) (by unfold on_N; omega) hσ (fun a a0 a1 => by omega)
theorem m_spreads (hk : bOk (σ 78)) {b : Int} (b0 : 0 ≤ b) (b4 : b < 4) : ∃ σ' : on_S, pf_X12_spreads b σ = some (0, σ') ∧ (∀ c, c ≠ 93 → σ' c = σ c) ∧ ∀ a : Int, 0 ≤ a → a < 4 → σ' 93 a = bDs (σ 78) a b := by
  have wy := bDs_way hk
  have L : ∀ (m nf : Nat) (k : Int) (σ' : on_S), 0 ≤ k → k + (m : Int) = 4 → m < nf → (∀ c, c ≠ 93 → σ' c = σ c) → (∀ a : Int, 0 ≤ a → a < k → σ' 93 a = if a = b then 0 else 1000000) → ∃ σ'' : on_S, pf_X12_spreads_2 nf b k σ' = pf_X12_spreads_33 on_N 0 σ'' ∧ bInH (σ 78) b σ σ'' (bHe (σ 78) b 0) := by
    intro m
    induction m with
    | zero =>
      intro nf k σ' k0 hk' hnf h1 h2
      cases nf with
      | zero => omega
      | succ nf =>
        refine ⟨σ', by rw [pf_X12_spreads_2, bLtF (by omega) (by omega) (by omega)], h1, fun a a0 a4 => ?_, fun a a0 a4 ha => ?_⟩
        · have x := wy.1 a b a0 a4 b0 b4
          rw [h2 a a0 (by omega)]
          by_cases e : a = b
          · subst e; have := wy.2.1 a a0 a4; rw [if_pos rfl]; omega
          · rw [if_neg e]; omega
        · have e : a = b := ha
          subst e
          rw [h2 a a0 (by omega), if_pos rfl, wy.2.1 a a0 a4]
    | succ m ih =>
      intro nf k σ' k0 hk' hnf h1 h2
      cases nf with
      | zero => omega
      | succ nf =>
        have go : ∀ v : Int, v = (if k = b then 0 else 1000000) → ∃ σ'' : on_S, pf_X12_spreads_24 (pf_X12_spreads_2 nf) b k k v σ' = pf_X12_spreads_33 on_N 0 σ'' ∧ bInH (σ 78) b σ σ'' (bHe (σ 78) b 0) := by
          intro v hv
          unfold pf_X12_spreads_24
          rw [bWr (by omega) (by omega)]
          refine ih nf (k + 1) _ (by omega) (by omega) (by omega) (fun c hc => by rw [bst_nc hc]; exact h1 c hc) (fun a a0 a1 => ?_)
          rw [bst_if]
          by_cases e : a = k
          · rw [if_pos e, hv, e]
          · rw [if_neg e]; exact h2 a a0 (by omega)
        rw [pf_X12_spreads_2, bLtT (by omega) (by omega) (by omega)]
        by_cases e : k = b
        · rw [bEqT (by omega) e]; exact go 0 (by rw [if_pos e])
        · rw [bEqF (by omega) (by omega) e]; exact go 1000000 (by rw [if_neg e])
  obtain ⟨σ0, a1, a2⟩ := L 4 on_N 0 σ (by omega) (by omega) (by unfold on_N; omega) (fun _ _ => rfl) (fun a a0 a1 => by omega)
  obtain ⟨σ1, b1, b2⟩ := m_round hk b0 b4 0 (pf_X12_spreads_33 (99995 + 1 + 1 + 1 + 1)) 0 σ0 a2
  obtain ⟨σ2, c1, c2⟩ := m_round hk b0 b4 1 (pf_X12_spreads_33 (99995 + 1 + 1 + 1)) (0 + 1) σ1 b2
  obtain ⟨σ3, d1, d2⟩ := m_round hk b0 b4 2 (pf_X12_spreads_33 (99995 + 1 + 1)) (0 + 1 + 1) σ2 c2
  obtain ⟨σ4, e1, e2⟩ := m_round hk b0 b4 3 (pf_X12_spreads_33 (99995 + 1)) (0 + 1 + 1 + 1) σ3 d2
  refine ⟨σ4, ?_, e2.1, fun a a0 a4 => ?_⟩
  · unfold pf_X12_spreads
    rw [a1, show pf_X12_spreads_33 on_N 0 σ0 = pf_X12_spreads_33 (99995 + 1 + 1 + 1 + 1 + 1) 0 σ0 from rfl, pf_X12_spreads_33, bLtT (by omega) (by omega) (by omega), b1, pf_X12_spreads_33, bLtT (by omega) (by omega) (by omega), c1, pf_X12_spreads_33, bLtT (by omega) (by omega) (by omega), d1, pf_X12_spreads_33, bLtT (by omega) (by omega) (by omega), e1, pf_X12_spreads_33, bLtF (by omega) (by omega) (by omega)]
  · by_cases h : bDs (σ 78) a b < 1000000
    · exact e2.2.2 a a0 a4 (Or.inl (bHe_all hk a0 a4 b0 b4 h))
    · have x := wy.1 a b a0 a4 b0 b4
      have y := e2.2.1 a a0 a4
      omega
end O50
