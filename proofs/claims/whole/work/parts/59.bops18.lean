/-! B: rows -/
section O59
variable {n : Nat} {σ : on_S} {p q : Int} {w : bW}
theorem bCountP_le {α : Type} (g : α → Bool) : ∀ L : List α, L.countP g ≤ L.length := fun _ => List.countP_le_length
theorem c_rowsCarrying (hk : bOk w) (hR : bRp 2 w σ) {n x t : Int} (n0 : 0 ≤ n) (n1 : n < w 4) (hY : bRdy w n x σ) (hO : bRo σ) (h4 : 4 ≤ w 3) (ht : on_R t) : pf_X7_rowsCarrying t σ = some (8 * (((bTabl (w 3)).countP fun r => decide (t ≤ bCv w n x r) : Nat) : Int), σ) := by
  have hm := hk.c.2.2.2.1
  have L : ∀ (r nf : Nat) (k : Nat) (a : Int), k + r = 378 → r < nf → pf_X7_rowsCarrying_4 nf t a (k : Int) σ = some (a + 8 * (((bTRw (w 3) k).countP fun r => decide (t ≤ bCv w n x r) : Nat) : Int), σ) := by
    intro r
    induction r with
    | zero =>
      intro nf k a hkr hnf
      cases nf with
      | zero => omega
      | succ nf =>
        have e : bTRw (w 3) k = [] := by
          unfold bTRw; rw [List.drop_eq_nil_of_le (by rw [bRows_len]; omega)]; rfl
        rw [pf_X7_rowsCarrying_4, bLtF (by omega) (by omega) (by omega), e, List.countP_nil]; congr 2; omega
    | succ r ih =>
      intro nf k a hkr hnf
      cases nf with
      | zero => omega
      | succ nf =>
        have k378 : k < 378 := by omega
        have o1 : σ 56 (k : Int) = bRow k := hO k k378
        rw [pf_X7_rowsCarrying_4, bLtT (by omega) (by omega) (by omega), bRd (by omega) (by omega), o1, bCl (c_isThereR hR hk k378), bE01, bTRw_go k378]
        by_cases hp : bPre (w 3) (bDec (on_rowsT.getD k 0)) = true
        · have vr : bVr (fun _ => true) (w 3) (bDec (on_rowsT.getD k 0)) := bTabl_vr h4 hm.2 (bTRw_mem (k := k) (by rw [bTRw_go k378, if_pos hp]; exact List.mem_cons_self ..))
          have cb := bCv_b hk (x := x) n0 n1 (bDec (on_rowsT.getD k 0))
          rw [if_pos hp, if_pos hp, bRd (by omega) (by omega), o1, bCl (c_carriedBy hk hR n0 n1 hY k378 vr), List.countP_cons]
          by_cases g : bCv w n x (bDec (on_rowsT.getD k 0)) < t
          · rw [bLtT (by omega) ht g, show (k : Int) + 1 = ((k + 1 : Nat) : Int) by omega, ih nf (k + 1) a (by omega) (by omega), if_neg (fun u => by have := of_decide_eq_true u; omega)]; rfl
          · rw [bLtF (by omega) ht (by omega), show (k : Int) + 1 = ((k + 1 : Nat) : Int) by omega, ih nf (k + 1) (a + 8) (by omega) (by omega), if_pos (decide_eq_true (by omega))]; congr 2; omega
        · rw [if_neg hp, if_neg hp, show (k : Int) + 1 = ((k + 1 : Nat) : Int) by omega]
          exact ih nf (k + 1) a (by omega) (by omega)
  have := L 378 on_N 0 0 (by omega) (by unfold on_N; omega)
  rw [Int.zero_add] at this
  exact this
theorem m_rowsLoop (hk : bOk w) {n t : Int} (n0 : 0 ≤ n) (n1 : n < w 4) (ht : on_R t) : ∀ (L : List bQd) (nf : Nat) (a v : Int) (σ : on_S), bAtR w 15 v L σ → L.length < nf → ∃ σ' : on_S, pf_X12_rows_46 nf n t a v σ = some (a + ((L.countP fun r => decide (t ≤ bVal w n (bNet w n 0) (bNet w n 2) r) : Nat) : Int), σ') ∧ ∀ c, c ≠ 84 → σ' c = σ c := by
  have hn := (hk.n n n0 n1).2.2.1
  have hx := (hk.n n n0 n1).1
  have q4 := hk.c.2.2.2.2.1
  intro L
  induction L with
  | nil =>
    intro nf a v σ h hnf
    cases nf with
    | zero => simp at hnf
    | succ nf =>
      have v0 : v = 0 := by
        rcases h.2.2.2 with ⟨h, -⟩ | ⟨-, h⟩
        · exact h
        · cases h
      exact ⟨σ, by rw [pf_X12_rows_46, bEqT (by omega) v0, List.countP_nil]; congr 2; omega, fun _ _ => rfl⟩
  | cons r L ih =>
    intro nf a v σ h hnf
    rw [List.length_cons] at hnf
    cases nf with
    | zero => omega
    | succ nf =>
      have v1 : v = 1 ∧ r = bRw σ 84 := by
        rcases h.2.2.2 with ⟨-, h⟩ | ⟨h1, h⟩
        · cases h
        · injection h with h _; exact ⟨h1, h⟩
      obtain ⟨v1, hr⟩ := v1
      subst v1
      have vb := bVal_b hk (x := bNet w n 0) (wet := bNet w n 2) n0 n1 r
      obtain ⟨v', σ2, r1, r2, r3⟩ := m_next hk h
      rw [pf_X12_rows_46, bEqF (by omega) (by omega) (by omega), bCl (m_ofNet n0 (by omega) (by omega) (by omega)), bCl (m_ofNet n0 (by omega) (by omega) (by omega)), h.1, bCl (m_rowVal hk h n0 n1 hx.1 hx.2 (by omega)), ← hr, List.countP_cons]
      by_cases g : bVal w n (bNet w n 0) (bNet w n 2) r < t
      · obtain ⟨σ3, s1, s2⟩ := ih nf (a + 0) v' σ2 r3 (by omega)
        refine ⟨σ3, ?_, fun c hc => by rw [s2 c hc, r2 c hc]⟩
        unfold pf_X12_rows_79
        rw [bLtT (by omega) ht g, bCl r1, s1, if_neg (by simp; omega)]; congr 2; omega
      · obtain ⟨σ3, s1, s2⟩ := ih nf (a + 1) v' σ2 r3 (by omega)
        refine ⟨σ3, ?_, fun c hc => by rw [s2 c hc, r2 c hc]⟩
        unfold pf_X12_rows_79
        rw [bLtF (by omega) ht (by omega), bCl r1, s1, if_pos (by simp; omega)]; congr 2; omega
theorem o_rows (hI : bI n σ) (hp : on_R p) (hq : on_R q) : bOp n σ (pf_X11_rows p q) (pf_X12_rows p q) := by
  obtain ⟨q0, q1, q2, q3, q4, q5, q6, q7⟩ := hI.k.c
  have no : pf_X12_rows_19 p q 0 σ = some (-2, σ) := by
    unfold pf_X12_rows_19
    rw [bCl (m_asksFour hI.k (by omega)), if_pos rfl, bLtT (by omega) (by omega) (by omega)]
  by_cases g : q < 0
  · refine bOp.no (r := -2) hI (by omega) ?_ ?_
    · unfold pf_X11_rows; rw [bLtT hq (by omega) g]
    · unfold pf_X12_rows pf_X12_rows_18
      rw [bCk hp, bCl (m_isNet hI.k (by omega)), bE01]
      split
      · rw [bLtT hq (by omega) g, no]
      · rw [no]
  · by_cases h : 0 ≤ p ∧ p < σ 78 4
    · by_cases h4 : σ 78 3 < 4
      · refine bOp.no (r := -6) hI (by omega) ?_ ?_
        · unfold pf_X11_rows
          rw [bLtF hq (by omega) (by omega), bCl (c_standing hI.k hI.r hp), if_pos h, if_pos h4, bEqF (by omega) (by omega) (by omega)]
        · unfold pf_X12_rows pf_X12_rows_19
          rw [bCk hp, bCl (m_isNet hI.k (by omega)), bE01, if_pos h, bLtF hq (by omega) (by omega), bCl (m_asksFour hI.k (by omega)), if_neg (by omega), if_pos h4, bLtT (by omega) (by omega) (by omega)]
      · have hx := (hI.k.n p h.1 h.2).1
        obtain ⟨σ1, a1, a2, a3⟩ := c_prepare hI.k hI.r h.1 h.2 hx.1 hx.2
        have R1 : bRp 2 (σ 78) σ1 := hI.r.to fun j hj => a2 _ (by omega) (by omega)
        have O1 : bRo σ1 := fun i hi => by rw [a2 56 (by omega) (by omega)]; exact hI.o i hi
        have i1 : bI n σ1 := hI.idle fun c hc => a2 c (by omega) (by omega)
        have w1 : σ1 78 = σ 78 := a2 78 (by omega) (by omega)
        have cc := c_rowsCarrying (t := q) hI.k R1 h.1 h.2 a3 O1 (by omega) hq
        obtain ⟨v, σ2, b1, b2, b3⟩ := m_firstRow (σ := on_st σ1 77 18 15) (w := σ 78) (S := 15) hI.k (by rw [bst_nc (by omega)]; exact w1) bst_eq
        have ll := bLen_L0 (bOkS (σ 78) 15) (m := σ 78 3) q3.2
        obtain ⟨σ3, c1, c2⟩ := m_rowsLoop (t := q) hI.k h.1 h.2 hq _ on_N 0 v σ2 b3 (by unfold on_N; omega)
        -- as many
        have e1 : bL0 (bOkS (σ 78) 15) (σ 78 3) 0 = bL0 (fun _ => true) (σ 78 3) 0 := bL0_congr (fun x x0 x1 => bOkS15 hI.k x0 x1)
        have e2 : (bL0 (fun _ => true) (σ 78 3) 0).countP (fun r => decide (q ≤ bVal (σ 78) p (bNet (σ 78) p 0) (bNet (σ 78) p 2) r)) = (bL0 (fun _ => true) (σ 78 3) 0).countP (fun r => decide (q ≤ bCv (σ 78) p (bNet (σ 78) p 0) r)) := by
          refine List.countP_congr fun r hr => ?_
          rw [bVal_cv hI.k h.1 h.2 (bL0_mem.mp hr)]
        have e3 := bCount8 (ok := fun _ => true) (m := σ 78 3) (g := fun r => decide (q ≤ bCv (σ 78) p (bNet (σ 78) p 0) r)) (fun r hr => by
          have s := bCv_sy hI.k (n := p) (x := bNet (σ 78) p 0) r hr
          rw [s.1, s.2]; exact ⟨rfl, rfl⟩)
        rw [bTabl_all (by omega) q3.2] at e3
        have e4 := bCountP_le (fun r => decide (q ≤ bCv (σ 78) p (bNet (σ 78) p 0) r)) (bL0 (fun _ => true) (σ 78 3) 0)
        have ll' : (bL0 (fun _ => true) (σ 78 3) 0).length ≤ 6561 := bLen_L0 _ q3.2
        rw [e1, e2, e3] at c1
        have fr : ∀ c, c ≠ 77 → c ≠ 84 → σ3 c = σ1 c := fun c h7 h8 => by rw [c2 c h8, b2 c h8, bst_nc h7]
        have f77 : σ3 77 = on_st σ1 77 18 15 77 := by rw [c2 77 (by omega), b2 77 (by omega)]
        have bs : bS σ1 σ3 := ⟨fun c hc => fr c (fun e => hc (by rw [e]; decide)) (fun e => hc (by rw [e]; decide)), by rw [f77, bst_ni (by omega)], by rw [f77, bst_ni (by omega)], by rw [f77, bst_ni (by omega)]⟩
        refine ⟨8 * (((bTabl (σ 78 3)).countP fun r => decide (q ≤ bCv (σ 78) p (bNet (σ 78) p 0) r) : Nat) : Int), σ1, σ3, ?_, ?_, by omega, bs.inv i1⟩
        · unfold pf_X11_rows
          rw [bLtF hq (by omega) (by omega), bCl (c_standing hI.k hI.r hp), if_pos h, if_neg h4, bEqT (by omega) rfl, bRd h.1 (by omega), (hI.r.n p h.1 h.2).1, bCl a1, bCl cc]
        · unfold pf_X12_rows pf_X12_rows_19 pf_X12_allHouses
          rw [bCk hp, bCl (m_isNet i1.k (by omega)), bE01, w1, if_pos h, bLtF hq (by omega) (by omega), bCl (m_asksFour i1.k (by omega)), w1, if_neg (by omega), if_neg h4, bLtF (by omega) (by omega) (by omega), bCl (show (some (15, σ1) : Option on_O) = some (15, σ1) from rfl), bPt, bCl b1, c1]
          congr 2; omega
    · refine bOp.no (r := -2) hI (by omega) ?_ ?_
      · unfold pf_X11_rows
        rw [bLtF hq (by omega) (by omega), bCl (c_standing hI.k hI.r hp), if_neg h, bEqF (by omega) (by omega) (by omega)]
      · unfold pf_X12_rows pf_X12_rows_18
        rw [bCk hp, bCl (m_isNet hI.k (by omega)), bE01, if_neg h, no]
end O59
