/-! B: the guard: the reference looks through all pairs of rows -/
/-- no later: fewer quarrels, or as many and an earlier first row, or that too and no later a second -/
def bLe3 (q a b q' a' b' : Int) : Prop := q < q' ∨ (q = q' ∧ (a < a' ∨ (a = a' ∧ b ≤ b')))
/-- two rows that share nobody -/
def bDj (p : bQd × bQd) : Bool := bMz p.1 &&& bMz p.2 == 0
/-- how many pairs share nobody, and the first of those with fewest quarrels -/
def bFs (w : bW) (L : List (bQd × bQd)) (σ : on_S) : Prop := σ 77 25 = (L.countP bDj : Int) ∧ ((σ 77 24 = -1 ∧ ∀ p ∈ L, bDj p = false) ∨ ∃ p ∈ L, bDj p = true ∧ σ 77 24 = bQu w p.1 + bQu w p.2 ∧ (0 ≤ σ 91 0 ∧ σ 91 0 < 3100 ∧ ∀ c : Int, 0 ≤ c → c < 4 → σ 88 (4 * σ 91 0 + c) = bQp p.1 c) ∧ (0 ≤ σ 91 1 ∧ σ 91 1 < 3100 ∧ ∀ c : Int, 0 ≤ c → c < 4 → σ 88 (4 * (3100 + σ 91 1) + c) = bQp p.2 c) ∧ ∀ p' ∈ L, bDj p' = true → bLe3 (σ 77 24) (bCo p.1) (bCo p.2) (bQu w p'.1 + bQu w p'.2) (bCo p'.1) (bCo p'.2))
section O67
variable {σ : on_S} {w : bW}
theorem bLaid_of {σ' : on_S} : ∀ (G : List bQd) (I : Int), (∀ i : Int, I ≤ i → i < I + (G.length : Int) → σ' 87 i = σ 87 i ∧ σ' 89 i = σ 89 i ∧ ∀ c : Int, 0 ≤ c → c < 4 → σ' 88 (4 * i + c) = σ 88 (4 * i + c)) → bLaid w σ G I → bLaid w σ' G I := by
  intro G
  induction G with
  | nil => intro I _ _; trivial
  | cons r G ih =>
    intro I e h
    rw [List.length_cons] at e
    obtain ⟨⟨a, b, c⟩, d⟩ := h
    obtain ⟨e1, e2, e3⟩ := e I (by omega) (by omega)
    exact ⟨⟨by rw [e1]; exact a, fun x x0 x4 => by rw [e3 x x0 x4]; exact b x x0 x4, by rw [e2]; exact c⟩, ih _ (fun i i0 i1 => e i (by omega) (by omega)) d⟩
theorem bLaid_same {σ' : on_S} (h7 : σ' 87 = σ 87) (h8 : σ' 88 = σ 88) (h9 : σ' 89 = σ 89) {G : List bQd} {I : Int} (h : bLaid w σ G I) : bLaid w σ' G I := bLaid_of G I (fun i _ _ => ⟨by rw [h7], by rw [h9], fun c _ _ => by rw [h8]⟩) h
theorem bFs_skip {L : List (bQd × bQd)} {p : bQd × bQd} (h : bFs w L σ) (hd : bDj p = false) : bFs w (L ++ [p]) σ := by
  obtain ⟨h1, h2⟩ := h
  refine ⟨by rw [List.countP_append, List.countP_singleton, if_neg (by rw [hd]; exact Bool.false_ne_true), Nat.add_zero]; exact h1, ?_⟩
  rcases h2 with ⟨a, b⟩ | ⟨q, a, b, c, d, e, f⟩
  · refine Or.inl ⟨a, fun x hx => ?_⟩
    rcases List.mem_append.mp hx with g | g
    · exact b x g
    · rw [List.mem_singleton.mp g]; exact hd
  · refine Or.inr ⟨q, List.mem_append_left _ a, b, c, d, e, fun x hx hj => ?_⟩
    rcases List.mem_append.mp hx with g | g
    · exact f x g hj
    · rw [List.mem_singleton.mp g, hd] at hj; cases hj
theorem bFs_keep {L : List (bQd × bQd)} {p : bQd × bQd} (h : bFs w L σ) (hd : bDj p = true) (hq : σ 77 24 ≠ -1) (hl : σ 77 24 ≤ bQu w p.1 + bQu w p.2) (hb : ∀ x ∈ L, bCo x.1 < bCo p.1 ∨ (x.1 = p.1 ∧ bCo x.2 < bCo p.2)) : bFs w (L ++ [p]) (on_st σ 77 25 (σ 77 25 + 1)) := by
  obtain ⟨h1, h2⟩ := h
  refine ⟨by rw [List.countP_append, List.countP_singleton, if_pos hd, bst_eq, h1]; omega, ?_⟩
  rw [bst_ni (by omega), bst_nc (by omega), bst_nc (by omega)]
  rcases h2 with ⟨a, -⟩ | ⟨q, a, b, c, d, e, f⟩
  · exact absurd a hq
  · refine Or.inr ⟨q, List.mem_append_left _ a, b, c, d, e, fun x hx hj => ?_⟩
    rcases List.mem_append.mp hx with g | g
    · exact f x g hj
    · rw [List.mem_singleton.mp g]
      unfold bLe3
      rcases hb q a with u | ⟨u, v⟩
      · omega
      · rw [u]; omega
theorem bFs_new {L : List (bQd × bQd)} {p : bQd × bQd} {i j q : Int} (h : bFs w L σ) (hd : bDj p = true) (hL : ∀ x ∈ L, 0 ≤ bQu w x.1 + bQu w x.2) (hq : q = bQu w p.1 + bQu w p.2) (hn : σ 77 24 = -1 ∨ q < σ 77 24) (hi : 0 ≤ i ∧ i < 3100 ∧ ∀ c : Int, 0 ≤ c → c < 4 → σ 88 (4 * i + c) = bQp p.1 c) (hj : 0 ≤ j ∧ j < 3100 ∧ ∀ c : Int, 0 ≤ c → c < 4 → σ 88 (4 * (3100 + j) + c) = bQp p.2 c) : bFs w (L ++ [p]) (on_st (on_st (on_st (on_st σ 77 25 (σ 77 25 + 1)) 77 24 q) 91 0 i) 91 1 j) := by
  obtain ⟨h1, h2⟩ := h
  refine ⟨by rw [List.countP_append, List.countP_singleton, if_pos hd, bst_nc (by omega), bst_nc (by omega), bst_ni (by omega), bst_eq, h1]; omega, ?_⟩
  have e24 : on_st (on_st (on_st (on_st σ 77 25 (σ 77 25 + 1)) 77 24 q) 91 0 i) 91 1 j 77 24 = q := by rw [bst_nc (by omega), bst_nc (by omega), bst_eq]
  have e0 : on_st (on_st (on_st (on_st σ 77 25 (σ 77 25 + 1)) 77 24 q) 91 0 i) 91 1 j 91 0 = i := by rw [bst_ni (by omega), bst_eq]
  have e1 : on_st (on_st (on_st (on_st σ 77 25 (σ 77 25 + 1)) 77 24 q) 91 0 i) 91 1 j 91 1 = j := bst_eq
  have e8 : on_st (on_st (on_st (on_st σ 77 25 (σ 77 25 + 1)) 77 24 q) 91 0 i) 91 1 j 88 = σ 88 := by rw [bst_nc (by omega), bst_nc (by omega), bst_nc (by omega), bst_nc (by omega)]
  rw [e24, e0, e1, e8]
  refine Or.inr ⟨p, List.mem_append_right _ (List.mem_singleton.mpr rfl), hd, hq, hi, hj, fun x hx hx2 => ?_⟩
  unfold bLe3
  rcases List.mem_append.mp hx with g | g
  · rcases h2 with ⟨-, b⟩ | ⟨y, a, b, c, -, -, f⟩
    · rw [b x g] at hx2; cases hx2
    · have := f x g hx2
      unfold bLe3 at this
      have := hL y a
      omega
  · rw [List.mem_singleton.mp g]; omega
theorem m_safe42 (hk : bOk w) (k30 : Int → on_S → Option on_O) {r : bQd} {i : Int} (hr : bGd w r) (i0 : 0 ≤ i) (i1 : i < 3100) (N : Int) (hN : N ≤ 3100) : ∀ (D : List bQd) (nf : Nat) (j : Int) (L : List (bQd × bQd)) (σ : on_S), (σ 87 i = (bMz r : Int) ∧ (∀ c : Int, 0 ≤ c → c < 4 → σ 88 (4 * i + c) = bQp r c) ∧ σ 89 i = bQu w r) → bLaid w σ D (3100 + j) → σ 90 1 = N → 0 ≤ j → j + (D.length : Int) = N → D.length < nf → bFs w L σ → (∀ x ∈ L, (0 ≤ bQu w x.1 + bQu w x.2 ∧ bQu w x.1 + bQu w x.2 ≤ 72) ∧ ∀ s ∈ D, bCo x.1 < bCo r ∨ (x.1 = r ∧ bCo x.2 < bCo s)) → D.Pairwise (fun r s => bCo r < bCo s) → (∀ s ∈ D, bGd w s) → ∃ σ' : on_S, pf_X12_findSafe_42 k30 nf i j σ = k30 (i + 1) σ' ∧ (∀ c, c ≠ 77 → c ≠ 91 → σ' c = σ c) ∧ (∀ k, k ≠ 24 → k ≠ 25 → σ' 77 k = σ 77 k) ∧ bFs w (L ++ D.map fun s => (r, s)) σ' := by
  have qr := bQu_b hk hr
  intro D
  induction D with
  | nil =>
    intro nf j L σ _ _ h90 j0 jN hnf hL _ _ _
    cases nf with
    | zero => simp at hnf
    | succ nf =>
      rw [List.length_nil] at jN
      exact ⟨σ, by rw [pf_X12_findSafe_42, bRd (by omega) (by omega), h90, bLtF (by omega) (by omega) (by omega)], fun _ _ _ => rfl, fun _ _ _ => rfl, by rw [List.map_nil, List.append_nil]; exact hL⟩
  | cons s D ih =>
    intro nf j L σ hi hD h90 j0 jN hnf hL hx hp hg
    rw [List.length_cons] at hnf jN
    cases nf with
    | zero => omega
    | succ nf =>
      obtain ⟨⟨d1, d2, d3⟩, d4⟩ := hD
      obtain ⟨a1, a2, a3⟩ := hi
      have gs := hg s (List.mem_cons_self ..)
      have qs := bQu_b hk gs
      have ms := (bGd_me hk gs).1
      have mr := (bGd_me hk hr).2
      rw [ms] at d1
      have d3' : σ 89 (3100 + j) = bQu w s := d3
      have ea : L ++ (s :: D).map (fun s => (r, s)) = (L ++ [(r, s)]) ++ D.map fun s => (r, s) := by rw [List.map_cons, List.append_assoc]; rfl
      have hx' : ∀ x ∈ L ++ [(r, s)], (0 ≤ bQu w x.1 + bQu w x.2 ∧ bQu w x.1 + bQu w x.2 ≤ 72) ∧ ∀ t ∈ D, bCo x.1 < bCo r ∨ (x.1 = r ∧ bCo x.2 < bCo t) := by
        intro x h
        rcases List.mem_append.mp h with g | g
        · exact ⟨(hx x g).1, fun t ht => (hx x g).2 t (List.mem_cons_of_mem _ ht)⟩
        · rw [List.mem_singleton.mp g]
          exact ⟨by simp only; omega, fun t ht => Or.inr ⟨rfl, (List.pairwise_cons.mp hp).1 t ht⟩⟩
      have hp' := (List.pairwise_cons.mp hp).2
      have hg' : ∀ t ∈ D, bGd w t := fun t ht => hg t (List.mem_cons_of_mem _ ht)
      have hb : ∀ x ∈ L, bCo x.1 < bCo (r, s).1 ∨ (x.1 = (r, s).1 ∧ bCo x.2 < bCo (r, s).2) := fun x h => (hx x h).2 s (List.mem_cons_self ..)
      -- what the next turn finds
      have go : ∀ τ : on_S, (∀ c, c ≠ 77 → c ≠ 91 → τ c = σ c) → (∀ k, k ≠ 24 → k ≠ 25 → τ 77 k = σ 77 k) → bFs w (L ++ [(r, s)]) τ → ∃ σ' : on_S, pf_X12_findSafe_42 k30 nf i (j + 1) τ = k30 (i + 1) σ' ∧ (∀ c, c ≠ 77 → c ≠ 91 → σ' c = σ c) ∧ (∀ k, k ≠ 24 → k ≠ 25 → σ' 77 k = σ 77 k) ∧ bFs w (L ++ (s :: D).map fun s => (r, s)) σ' := by
        intro τ t1 t2 t3
        have t87 := t1 87 (by omega) (by omega)
        have t88 := t1 88 (by omega) (by omega)
        have t89 := t1 89 (by omega) (by omega)
        obtain ⟨σ', u1, u2, u3, u4⟩ := ih nf (j + 1) (L ++ [(r, s)]) τ ⟨by rw [t87]; exact a1, by rw [t88]; exact a2, by rw [t89]; exact a3⟩ (by rw [show 3100 + (j + 1) = 3100 + j + 1 by omega]; exact bLaid_same t87 t88 t89 d4) (by rw [t1 90 (by omega) (by omega)]; exact h90) (by omega) (by omega) (by omega) t3 hx' hp' hg'
        exact ⟨σ', u1, fun c h7 h9 => by rw [u2 c h7 h9, t1 c h7 h9], fun k h4 h5 => by rw [u3 k h4 h5, t2 k h4 h5], by rw [ea]; exact u4⟩
      rw [pf_X12_findSafe_42, bRd (by omega) (by omega), h90, bLtT (by omega) (by omega) (by omega), bRd i0 (by omega), bRd (by omega) (by omega), a1, d1, bAndN (by omega)]
      by_cases z : bMz r &&& bMz s = 0
      · have hd : bDj (r, s) = true := beq_iff_eq.mpr z
        have qb : σ 77 24 = -1 ∨ (0 ≤ σ 77 24 ∧ σ 77 24 ≤ 72) := by
          rcases hL.2 with ⟨a, -⟩ | ⟨q, a, -, b, -⟩
          · exact Or.inl a
          · have := (hx q a).1; omega
        have new : (σ 77 24 = -1 ∨ bQu w r + bQu w s < σ 77 24) → ∃ σ' : on_S, pf_X12_findSafe_122 k30 (pf_X12_findSafe_42 k30 nf) i j (bQu w r + bQu w s) (on_st σ 77 25 (σ 77 25 + 1)) = k30 (i + 1) σ' ∧ (∀ c, c ≠ 77 → c ≠ 91 → σ' c = σ c) ∧ (∀ k, k ≠ 24 → k ≠ 25 → σ' 77 k = σ 77 k) ∧ bFs w (L ++ (s :: D).map fun s => (r, s)) σ' := by
          intro hn
          unfold pf_X12_findSafe_122
          rw [bPt, bWr (by omega) (by omega), bWr (by omega) (by omega)]
          exact go _ (fun c h7 h9 => by rw [bst_nc h9, bst_nc h9, bst_nc h7, bst_nc h7]) (fun k h4 h5 => by rw [bst_nc (by omega), bst_nc (by omega), bst_ni h4, bst_ni h5]) (bFs_new hL hd (fun x h => (hx x h).1.1) rfl hn ⟨i0, i1, a2⟩ ⟨j0, by omega, d2⟩)
        rw [z, bEqT (by omega) (show ((0 : Nat) : Int) = 0 from rfl), bGt, bPt, bRd i0 (by omega), bRd (by omega) (by omega), bst_nc (by omega), a3, d3', bGt, bst_ni (by omega)]
        by_cases z1 : σ 77 24 = -1
        · rw [bEqT (by omega) z1]
          exact new (Or.inl z1)
        · rw [bEqF (by omega) (by omega) z1, bGt, bst_ni (by omega)]
          by_cases z2 : bQu w r + bQu w s < σ 77 24
          · rw [bLtT (by omega) (by omega) z2]
            exact new (Or.inr z2)
          · rw [bLtF (by omega) (by omega) (by omega)]
            exact go _ (fun c h7 h9 => bst_nc h7) (fun k h4 h5 => bst_ni h5) (bFs_keep hL hd z1 (by simp only; omega) hb)
      · have zl : bMz r &&& bMz s ≤ bMz r := Nat.and_le_left
        rw [bEqF (by omega) (by omega) (by omega)]
        exact go σ (fun _ _ _ => rfl) (fun _ _ _ => rfl) (bFs_skip hL (by unfold bDj; exact beq_eq_false_iff_ne.mpr z))
theorem m_safe30 (hk : bOk w) (G1 : List bQd) (h1 : G1.length ≤ 3024) (p1 : G1.Pairwise (fun r s => bCo r < bCo s)) (g1 : ∀ s ∈ G1, bGd w s) (N : Int) (hN : N ≤ 3100) : ∀ (A : List bQd) (nf : Nat) (i : Int) (L : List (bQd × bQd)) (σ : on_S), bLaid w σ A i → bLaid w σ G1 3100 → σ 90 0 = N → σ 90 1 = (G1.length : Int) → 0 ≤ i → i + (A.length : Int) = N → A.length < nf → bFs w L σ → (∀ x ∈ L, (0 ≤ bQu w x.1 + bQu w x.2 ∧ bQu w x.1 + bQu w x.2 ≤ 72) ∧ ∀ s ∈ A, bCo x.1 < bCo s) → A.Pairwise (fun r s => bCo r < bCo s) → (∀ s ∈ A, bGd w s) → ∃ σ' : on_S, pf_X12_findSafe_30 nf i σ = some (0, σ') ∧ (∀ c, c ≠ 77 → c ≠ 91 → σ' c = σ c) ∧ (∀ k, k ≠ 24 → k ≠ 25 → σ' 77 k = σ 77 k) ∧ bFs w (L ++ A.flatMap fun r => G1.map fun s => (r, s)) σ' := by
  intro A
  induction A with
  | nil =>
    intro nf i L σ _ _ h90 _ i0 iN hnf hL _ _ _
    cases nf with
    | zero => simp at hnf
    | succ nf =>
      rw [List.length_nil] at iN
      exact ⟨σ, by rw [pf_X12_findSafe_30, bRd (by omega) (by omega), h90, bLtF (by omega) (by omega) (by omega)], fun _ _ _ => rfl, fun _ _ _ => rfl, by rw [List.flatMap_nil, List.append_nil]; exact hL⟩
  | cons r A ih =>
    intro nf i L σ hA hG h90 h91 i0 iN hnf hL hx hp hg
    rw [List.length_cons] at hnf iN
    cases nf with
    | zero => omega
    | succ nf =>
      obtain ⟨⟨d1, d2, d3⟩, d4⟩ := hA
      have gr := hg r (List.mem_cons_self ..)
      have qr := bQu_b hk gr
      rw [(bGd_me hk gr).1] at d1
      rw [pf_X12_findSafe_30, bRd (by omega) (by omega), h90, bLtT (by omega) (by omega) (by omega)]
      obtain ⟨τ, t1, t2, t3, t4⟩ := m_safe42 hk (pf_X12_findSafe_30 nf) gr i0 (by omega) (G1.length : Int) (by omega) G1 on_N 0 L σ ⟨d1, d2, d3⟩ hG h91 (by omega) (by omega) (by unfold on_N; omega) hL (fun x h => ⟨(hx x h).1, fun _ _ => Or.inl ((hx x h).2 r (List.mem_cons_self ..))⟩) p1 g1
      have t87 := t2 87 (by omega) (by omega)
      have t88 := t2 88 (by omega) (by omega)
      have t89 := t2 89 (by omega) (by omega)
      have t90 := t2 90 (by omega) (by omega)
      obtain ⟨σ', u1, u2, u3, u4⟩ := ih nf (i + 1) (L ++ G1.map fun s => (r, s)) τ (bLaid_same t87 t88 t89 d4) (bLaid_same t87 t88 t89 hG) (by rw [t90]; exact h90) (by rw [t90]; exact h91) (by omega) (by omega) (by omega) t4 (fun x h => by
        rcases List.mem_append.mp h with g | g
        · exact ⟨(hx x g).1, fun s hs => (hx x g).2 s (List.mem_cons_of_mem _ hs)⟩
        · obtain ⟨s, s1, s2⟩ := List.mem_map.mp g
          have := bQu_b hk (g1 s s1)
          subst s2
          exact ⟨by simp only; omega, fun t ht => (List.pairwise_cons.mp hp).1 t ht⟩) (List.pairwise_cons.mp hp).2 (fun s hs => hg s (List.mem_cons_of_mem _ hs))
      refine ⟨σ', by rw [t1, u1], fun c h7 h9 => by rw [u2 c h7 h9, t2 c h7 h9], fun k h4 h5 => by rw [u3 k h4 h5, t3 k h4 h5], ?_⟩
      rw [List.flatMap_cons, ← List.append_assoc]; exact u4
/-- all pairs of rows, one of each net -/
def bPrs (w : bW) : List (bQd × bQd) := (bGr w 0).flatMap fun r => (bGr w 1).map fun s => (r, s)
theorem m_findSafe (hk : bOk w) (hw : σ 78 = w) : ∃ σ' : on_S, pf_X12_findSafe σ = some (0, σ') ∧ bS σ σ' ∧ bFs w (bPrs w) σ' := by
  have nb : ∀ k : Int, 0 ≤ k → k < 2 → on_R (bNeed w k) := fun k _ _ => by have := bNeed_b hk k; omega
  obtain ⟨σ1, a1, a2, a3, a4, a5, a6, a7⟩ := m_layRows (σ := σ) hk hw (k := 0) (by omega) (by omega) (nb 0 (by omega) (by omega))
  obtain ⟨σ2, b1, b2, b3, b4, b5, b6, b7⟩ := m_layRows (σ := σ1) hk (by rw [a2 78 (by omega) (by omega) (by omega) (by omega) (by omega) (by omega)]; exact hw) (k := 1) (by omega) (by omega) (nb 1 (by omega) (by omega))
  have l0 := bGr_len hk 0
  have l1 := bGr_len hk 1
  have A2 : bLaid w σ2 (bGr w 0) 0 := bLaid_of _ _ (fun i i0 i1 => b6 i (by omega)) a7
  have n0 : σ2 90 0 = ((bGr w 0).length : Int) := by rw [b5 0 (by omega)]; exact a4
  have f0 : bFs w [] (on_st (on_st σ2 77 24 (-1)) 77 25 0) := ⟨by rw [bst_eq]; rfl, Or.inl ⟨by rw [bst_ni (by omega), bst_eq], fun _ h => by cases h⟩⟩
  have e8 : ∀ c, c ≠ 77 → on_st (on_st σ2 77 24 (-1)) 77 25 0 c = σ2 c := fun c h => by rw [bst_nc h, bst_nc h]
  have e77 : ∀ k, k ≠ 24 → k ≠ 25 → on_st (on_st σ2 77 24 (-1)) 77 25 0 77 k = σ2 77 k := fun k h h' => by rw [bst_ni h', bst_ni h]
  generalize hT : on_st (on_st σ2 77 24 (-1)) 77 25 0 = T at f0 e8 e77
  obtain ⟨σ3, c1, c2, c3, c4⟩ := m_safe30 hk (bGr w 1) l1 (bGr_pw hk 1) (fun s h => bGr_gd h) ((bGr w 0).length : Int) (by omega) (bGr w 0) on_N 0 [] T (bLaid_same (e8 87 (by omega)) (e8 88 (by omega)) (e8 89 (by omega)) A2) (bLaid_same (e8 87 (by omega)) (e8 88 (by omega)) (e8 89 (by omega)) b7) (by rw [e8 90 (by omega)]; exact n0) (by rw [e8 90 (by omega)]; exact b4) (by omega) (by omega) (by unfold on_N; omega) f0 (fun _ h => by cases h) (bGr_pw hk 0) (fun s h => bGr_gd h)
  rw [List.nil_append] at c4
  refine ⟨σ3, ?_, ⟨fun c hc => ?_, ?_, ?_, ?_⟩, c4⟩
  · unfold pf_X12_findSafe
    rw [show on_N = 99997 + 1 + 1 + 1 from rfl, pf_X12_findSafe_2, bLtT (by omega) (by omega) (by omega), bCl a1, show (0 : Int) + 1 = 1 from rfl, pf_X12_findSafe_2, bLtT (by omega) (by omega) (by omega), bCl b1, pf_X12_findSafe_2, bLtF (by omega) (by omega) (by omega), bPt, bPt, hT]
    exact c1
  · have n : ∀ x : Nat, x ∈ bScr → c ≠ x := fun x hx e => hc (e ▸ hx)
    rw [c2 c (n _ (by decide)) (n _ (by decide)), e8 c (n _ (by decide)), b2 c (n _ (by decide)) (n _ (by decide)) (n _ (by decide)) (n _ (by decide)) (n _ (by decide)) (n _ (by decide)), a2 c (n _ (by decide)) (n _ (by decide)) (n _ (by decide)) (n _ (by decide)) (n _ (by decide)) (n _ (by decide))]
  · rw [c3 _ (by omega) (by omega), e77 _ (by omega) (by omega), b3 _ (by omega), a3 _ (by omega)]
  · rw [c3 _ (by omega) (by omega), e77 _ (by omega) (by omega), b3 _ (by omega), a3 _ (by omega)]
  · rw [c3 _ (by omega) (by omega), e77 _ (by omega) (by omega), b3 _ (by omega), a3 _ (by omega)]
end O67
