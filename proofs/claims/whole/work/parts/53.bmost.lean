/-! B: the most that a net can carry, in the reference -/
def bQp (r : bQd) : Int → Int := fun c => if c = 0 then r.1 else if c = 1 then r.2.1 else if c = 2 then r.2.2.1 else r.2.2.2
def bVal (w : bW) (n x wet : Int) (r : bQd) : Int := 4 * bLst (bHold w (bQp r) n x wet)
def bBest (f : bQd → Int) : List bQd → Int → Int
  | [], b => b
  | r :: L, b => bBest f L (max b (f r))
def bArg (f : bQd → Int) : List bQd → Int → bQd → bQd
  | [], _, q => q
  | r :: L, b, q => bArg f L (max b (f r)) (if f r ≤ b then q else r)
def bRw (σ : on_S) (c : Nat) : bQd := (σ c 0, σ c 1, σ c 2, σ c 3)
/-- whose house is in a set of houses -/
def bOkS (w : bW) (S : Int) (d : Int) : Bool := decide (on_and (on_shr S (bMan w d 0)) 1 = 1)
theorem bLen_flat {α β : Type} {f : α → List β} {B : Nat} : ∀ l : List α, (∀ x ∈ l, (f x).length ≤ B) → (l.flatMap f).length ≤ l.length * B := by
  intro l
  induction l with
  | nil => intro _; simp
  | cons a l ih =>
    intro h
    rw [List.flatMap_cons, List.length_append, List.length_cons, Nat.add_mul, Nat.one_mul]
    have h1 := h a (List.mem_cons_self ..)
    have h2 := ih fun x hx => h x (List.mem_cons_of_mem _ hx)
    omega
theorem bLen_cs (P : Int → Bool) : ∀ (r : Nat) (k : Int), (bCs P r k).length ≤ r := by
  intro r
  induction r with
  | zero => intro k; exact Nat.le_refl _
  | succ r ih =>
    intro k
    rw [bCs]
    split
    · have := ih (k + 1); simp; omega
    · have := ih (k + 1); omega
theorem bLen_cf (P : Int → Bool) {m k : Int} (hm : m ≤ 9) (hk : 0 ≤ k) : (bCf P m k).length ≤ 9 := by
  have := bLen_cs P (m - k).toNat k
  unfold bCf; omega
theorem bLen_L0 (ok : Int → Bool) {m : Int} (hm : m ≤ 9) : (bL0 ok m 0).length ≤ 6561 := by
  have h3 : ∀ a b c : Int, (bL3 ok m a b c 0).length ≤ 9 := fun a b c => by
    unfold bL3; rw [List.length_map]; exact bLen_cf _ hm (by omega)
  have h2 : ∀ a b : Int, (bL2 ok m a b 0).length ≤ 81 := fun a b => by
    have x := bLen_flat (B := 9) (bCf (fun d => ok d && (d != a) && (d != b)) m 0) (fun c _ => h3 a b c)
    have y := bLen_cf (fun d => ok d && (d != a) && (d != b)) hm (show (0 : Int) ≤ 0 by omega)
    unfold bL2; omega
  have h1 : ∀ a : Int, (bL1 ok m a 0).length ≤ 729 := fun a => by
    have x := bLen_flat (B := 81) (bCf (fun d => ok d && (d != a)) m 0) (fun c _ => h2 a c)
    have y := bLen_cf (fun d => ok d && (d != a)) hm (show (0 : Int) ≤ 0 by omega)
    unfold bL1; omega
  have x := bLen_flat (B := 729) (bCf (fun d => ok d) m 0) (fun c _ => h1 c)
  have y := bLen_cf (fun d => ok d) hm (show (0 : Int) ≤ 0 by omega)
  unfold bL0; omega
section O53
variable {σ : on_S} {w : bW} {S : Int}
theorem m_isThere (hk : bOk w) (hw : σ 78 = w) (hS : σ 77 18 = S) {d : Int} (d0 : 0 ≤ d) (d1 : d < w 3) : pf_X12_isThere d σ = some (if bOkS w S d then 1 else 0, σ) := by
  have h3 := hk.c.2.2.2.1
  have hR := on_and_R (on_shr S (bMan w d 0)) 1
  unfold pf_X12_isThere bOkS
  rw [bGt, hS, bCl (m_ofMan d0 (by omega) (by omega) (by omega)), hw]
  by_cases h : on_and (on_shr S (bMan w d 0)) 1 = 1
  · rw [bEqT (by omega) h, if_pos (decide_eq_true h)]
  · rw [bEqF hR (by omega) h, if_neg (by simp [h])]
/-- where a row stands among those to come -/
def bAtR (w : bW) (S v : Int) (L : List bQd) (σ : on_S) : Prop := σ 78 = w ∧ σ 77 18 = S ∧ (∀ i : Int, 0 ≤ i → i < 4 → -1 ≤ σ 84 i ∧ σ 84 i < w 3) ∧ ((v = 0 ∧ L = []) ∨ (v = 1 ∧ L = bRw σ 84 :: bRmn (bOkS w S) (w 3) 3 (σ 84)))
theorem m_next (hk : bOk w) {L : List bQd} {r : bQd} (h : bAtR w S 1 (r :: L) σ) : ∃ (v : Int) (σ' : on_S), pf_X12_nextRow 3 σ = some (v, σ') ∧ (∀ c, c ≠ 84 → σ' c = σ c) ∧ bAtR w S v L σ' := by
  obtain ⟨h1, h2, h3, h4⟩ := h
  have hm := hk.c.2.2.2.1
  have a0 := h3 0 (by omega) (by omega)
  have a1 := h3 1 (by omega) (by omega)
  have a2 := h3 2 (by omega) (by omega)
  have a3 := h3 3 (by omega) (by omega)
  obtain ⟨v, σ', r1, r2, r3, r4⟩ := m_nextRow2 (ok := bOkS w S) (w := w) (S := S) hm (fun σ' e1 e2 d d0 d1 => m_isThere hk e1 e2 d0 d1) on_N 3 σ h1 h2 (by omega) (by omega) h3 (by
    rw [if_neg (by omega)]
    unfold bFu on_N
    rw [if_pos (by omega), if_pos (by omega), if_pos (by omega)]; omega)
  have e : L = bRmn (bOkS w S) (w 3) 3 (σ 84) := by
    rcases h4 with ⟨h4, -⟩ | ⟨-, h4⟩
    · omega
    · injection h4
  refine ⟨v, σ', r1, r2, by rw [r2 78 (by omega)]; exact h1, by rw [r2 77 (by omega)]; exact h2, r3, ?_⟩
  rw [e]
  exact r4
theorem m_firstRow (hk : bOk w) (hw : σ 78 = w) (hS : σ 77 18 = S) : ∃ (v : Int) (σ' : on_S), pf_X12_firstRow σ = some (v, σ') ∧ (∀ c, c ≠ 84 → σ' c = σ c) ∧ bAtR w S v (bL0 (bOkS w S) (w 3) 0) σ' := by
  have hm := hk.c.2.2.2.1
  have e84 : ∀ i : Int, 0 ≤ i → i < 4 → on_st (on_st (on_st (on_st σ 84 0 (-1)) 84 1 (-1)) 84 2 (-1)) 84 3 (-1) 84 i = -1 := by
    intro i i0 i4
    rw [bst_if]; split
    · rfl
    · rw [bst_if]; split
      · rfl
      · rw [bst_if]; split
        · rfl
        · rw [bst_if, if_pos (by omega)]
  obtain ⟨v, σ', r1, r2, r3, r4⟩ := m_nextRow2 (ok := bOkS w S) (w := w) (S := S) hm (fun σ' e1 e2 d d0 d1 => m_isThere hk e1 e2 d0 d1) on_N 0 (on_st (on_st (on_st (on_st σ 84 0 (-1)) 84 1 (-1)) 84 2 (-1)) 84 3 (-1)) (by rw [bst_nc (by omega), bst_nc (by omega), bst_nc (by omega), bst_nc (by omega)]; exact hw) (by rw [bst_nc (by omega), bst_nc (by omega), bst_nc (by omega), bst_nc (by omega)]; exact hS) (by omega) (by omega) (fun i i0 i4 => by rw [e84 i i0 i4]; omega) (by
    rw [if_neg (by omega)]
    unfold bFu on_N
    rw [if_neg (by omega), if_neg (by omega), if_neg (by omega), e84 0 (by omega) (by omega)]; omega)
  have fr : ∀ c, c ≠ 84 → σ' c = σ c := fun c hc => by rw [r2 c hc, bst_nc hc, bst_nc hc, bst_nc hc, bst_nc hc]
  refine ⟨v, σ', ?_, fr, by rw [fr 78 (by omega)]; exact hw, by rw [fr 77 (by omega)]; exact hS, r3, ?_⟩
  · unfold pf_X12_firstRow
    rw [show on_N = 99995 + 1 + 1 + 1 + 1 + 1 from rfl, pf_X12_firstRow_2, bLtT (by omega) (by omega) (by omega), bWr (by omega) (by omega), pf_X12_firstRow_2, bLtT (by omega) (by omega) (by omega), bWr (by omega) (by omega), pf_X12_firstRow_2, bLtT (by omega) (by omega) (by omega), bWr (by omega) (by omega), pf_X12_firstRow_2, bLtT (by omega) (by omega) (by omega), bWr (by omega) (by omega), pf_X12_firstRow_2, bLtF (by omega) (by omega) (by omega), show (0 : Int) + 1 = 1 from rfl, show (1 : Int) + 1 = 2 from rfl, show (2 : Int) + 1 = 3 from rfl, bCl (show pf_X12_nextRow 0 (on_st (on_st (on_st (on_st σ 84 0 (-1)) 84 1 (-1)) 84 2 (-1)) 84 3 (-1)) = some (v, σ') from r1)]
    unfold on_Bz
    rw [if_pos (by rcases r4 with ⟨h, -⟩ | ⟨h, -⟩ <;> omega)]
  · have e : bRmn (bOkS w S) (w 3) 0 (on_st (on_st (on_st (on_st σ 84 0 (-1)) 84 1 (-1)) 84 2 (-1)) 84 3 (-1) 84) = bL0 (bOkS w S) (w 3) 0 := by
      show bL0 (bOkS w S) (w 3) (on_st (on_st (on_st (on_st σ 84 0 (-1)) 84 1 (-1)) 84 2 (-1)) 84 3 (-1) 84 0 + 1) = _
      rw [e84 0 (by omega) (by omega)]; rfl
    rw [e] at r4
    exact r4
theorem bVal_b (hk : bOk w) {n x wet : Int} (n0 : 0 ≤ n) (n1 : n < w 4) (r : bQd) : 0 ≤ bVal w n x wet r ∧ bVal w n x wet r ≤ 396 := by
  have := bLst_b (f := bHold w (bQp r) n x wet) (l := 0) (h := 99) (fun c c0 c1 => bHold_b hk n0 n1 c0 c1)
  unfold bVal; omega
theorem m_rowVal {v : Int} {L : List bQd} (hk : bOk w) (h : bAtR w S v L σ) {n x wet : Int} (n0 : 0 ≤ n) (n1 : n < w 4) (x0 : 0 ≤ x) (x1 : x < w 2) (hw : on_R wet) : pf_X12_carriesBy n x wet σ = some (bVal w n x wet (bRw σ 84), σ) := by
  obtain ⟨h1, h2, h3, h4⟩ := h
  have po : bPo (σ 78) (σ 84) := fun c c0 c1 => by
    have := h3 c c0 c1
    rw [h1]; omega
  rw [m_carriesBy (by rw [h1]; exact hk) po n0 (by rw [h1]; exact n1) x0 (by rw [h1]; exact x1) hw, h1]
  unfold bVal
  rw [bLst_congr (g := bHold w (bQp (bRw σ 84)) n x wet) (fun c c0 c1 => bHold_congr (fun c c0 c1 => by
    have d : c = 0 ∨ c = 1 ∨ c = 2 ∨ c = 3 := by omega
    rcases d with d | d | d | d <;> subst d <;> rfl) c0 c1)]
theorem m_mostLoop (hk : bOk w) {n x : Int} (n0 : 0 ≤ n) (n1 : n < w 4) (x0 : 0 ≤ x) (x1 : x < w 2) : ∀ (L : List bQd) (nf : Nat) (b v : Int) (σ : on_S), bAtR w S v L σ → L.length < nf → (-1 ≤ b ∧ b ≤ 396) → ∃ σ' : on_S, pf_X12_mostBy_14 nf n x b v σ = some (bBest (bVal w n x (bNet w n 2)) L b, σ') ∧ (∀ c, c ≠ 84 → c ≠ 86 → σ' c = σ c) ∧ bRw σ' 86 = bArg (bVal w n x (bNet w n 2)) L b (bRw σ 86) := by
  have hn := (hk.n n n0 n1).2.2.1
  have q4 := hk.c.2.2.2.2.1
  intro L
  induction L with
  | nil =>
    intro nf b v σ h hnf hb
    cases nf with
    | zero => simp at hnf
    | succ nf =>
      have v0 : v = 0 := by
        rcases h.2.2.2 with ⟨h, -⟩ | ⟨-, h⟩
        · exact h
        · cases h
      exact ⟨σ, by rw [pf_X12_mostBy_14, bEqT (by omega) v0]; rfl, fun _ _ _ => rfl, rfl⟩
  | cons r L ih =>
    intro nf b v σ h hnf hb
    rw [List.length_cons] at hnf
    cases nf with
    | zero => omega
    | succ nf =>
      have v1 : v = 1 ∧ r = bRw σ 84 := by
        rcases h.2.2.2 with ⟨-, h⟩ | ⟨h1, h⟩
        · cases h
        · injection h with h _; exact ⟨h1, h⟩
      obtain ⟨v1, hr⟩ := v1
      subst v1
      have vb := bVal_b hk (x := x) (wet := bNet w n 2) n0 n1 r
      rw [pf_X12_mostBy_14, bEqF (by omega) (by omega) (by omega), bCl (m_ofNet n0 (by omega) (by omega) (by omega)), h.1, bCl (m_rowVal hk h n0 n1 x0 x1 (by omega)), ← hr, bBest, bArg]
      have tail : ∀ σ1 : on_S, bAtR w S 1 (r :: L) σ1 → ∃ σ' : on_S, pf_X12_mostBy_69 (pf_X12_mostBy_14 nf) n x b (bVal w n x (bNet w n 2) r) σ1 = some (bBest (bVal w n x (bNet w n 2)) L (max b (bVal w n x (bNet w n 2) r)), σ') ∧ (∀ c, c ≠ 84 → c ≠ 86 → σ' c = σ1 c) ∧ bRw σ' 86 = bArg (bVal w n x (bNet w n 2)) L (max b (bVal w n x (bNet w n 2) r)) (bRw σ1 86) := by
        intro σ1 h1
        obtain ⟨v', σ2, r1, r2, r3⟩ := m_next hk h1
        obtain ⟨σ3, s1, s2, s3⟩ := ih nf (max b (bVal w n x (bNet w n 2) r)) v' σ2 r3 (by omega) (by omega)
        refine ⟨σ3, ?_, fun c c1 c2 => by rw [s2 c c1 c2, r2 c c1], ?_⟩
        · unfold pf_X12_mostBy_69
          rw [bMx (by omega) (by omega), bCl r1, s1]
        · rw [s3]
          unfold bRw
          rw [r2 86 (by omega)]
      by_cases g : bVal w n x (bNet w n 2) r ≤ b
      · rw [bLeT (by omega) (by omega) g, if_pos g]
        exact tail σ h
      · rw [bLeF (by omega) (by omega) (by omega), if_neg g]
        have cp : ∃ σ1 : on_S, pf_X12_mostBy_43 (pf_X12_mostBy_14 nf) on_N n x b (bVal w n x (bNet w n 2) r) 0 σ = pf_X12_mostBy_69 (pf_X12_mostBy_14 nf) n x b (bVal w n x (bNet w n 2) r) σ1 ∧ (∀ c, c ≠ 86 → σ1 c = σ c) ∧ bRw σ1 86 = r := by
          refine ⟨on_st (on_st (on_st (on_st σ 86 0 (σ 84 0)) 86 1 (σ 84 1)) 86 2 (σ 84 2)) 86 3 (σ 84 3), ?_, fun c hc => by rw [bst_nc hc, bst_nc hc, bst_nc hc, bst_nc hc], ?_⟩
          · rw [show on_N = 99995 + 1 + 1 + 1 + 1 + 1 from rfl, pf_X12_mostBy_43, bLtT (by omega) (by omega) (by omega), bRd (by omega) (by omega), bWr (by omega) (by omega), pf_X12_mostBy_43, bLtT (by omega) (by omega) (by omega), bRd (by omega) (by omega), bWr (by omega) (by omega), pf_X12_mostBy_43, bLtT (by omega) (by omega) (by omega), bRd (by omega) (by omega), bWr (by omega) (by omega), pf_X12_mostBy_43, bLtT (by omega) (by omega) (by omega), bRd (by omega) (by omega), bWr (by omega) (by omega), pf_X12_mostBy_43, bLtF (by omega) (by omega) (by omega), show (0 : Int) + 1 = 1 from rfl, show (1 : Int) + 1 = 2 from rfl, show (2 : Int) + 1 = 3 from rfl]
            repeat rw [bst_nc (show 84 ≠ 86 by omega)]
          · rw [hr]
            unfold bRw
            have e0 : on_st (on_st (on_st (on_st σ 86 0 (σ 84 0)) 86 1 (σ 84 1)) 86 2 (σ 84 2)) 86 3 (σ 84 3) 86 0 = σ 84 0 := by rw [bst_ni (by omega), bst_ni (by omega), bst_ni (by omega), bst_eq]
            have e1 : on_st (on_st (on_st (on_st σ 86 0 (σ 84 0)) 86 1 (σ 84 1)) 86 2 (σ 84 2)) 86 3 (σ 84 3) 86 1 = σ 84 1 := by rw [bst_ni (by omega), bst_ni (by omega), bst_eq]
            have e2 : on_st (on_st (on_st (on_st σ 86 0 (σ 84 0)) 86 1 (σ 84 1)) 86 2 (σ 84 2)) 86 3 (σ 84 3) 86 2 = σ 84 2 := by rw [bst_ni (by omega), bst_eq]
            have e3 : on_st (on_st (on_st (on_st σ 86 0 (σ 84 0)) 86 1 (σ 84 1)) 86 2 (σ 84 2)) 86 3 (σ 84 3) 86 3 = σ 84 3 := bst_eq
            rw [e0, e1, e2, e3]
        obtain ⟨σ1, c1, c2, c3⟩ := cp
        have h' : bAtR w S 1 (r :: L) σ1 := by
          unfold bAtR bRw at h ⊢
          rw [c2 78 (by omega), c2 77 (by omega), c2 84 (by omega)]
          exact h
        obtain ⟨σ', d1, d2, d3⟩ := tail σ1 h'
        refine ⟨σ', by rw [c1, d1], fun c e1 e2 => by rw [d2 c e1 e2, c2 c e2], ?_⟩
        rw [d3, c3]
theorem m_mostBy (hk : bOk w) (hw : σ 78 = w) {n x : Int} (n0 : 0 ≤ n) (n1 : n < w 4) (x0 : 0 ≤ x) (x1 : x < w 2) (S : Int) : ∃ σ' : on_S, pf_X12_mostBy n x S σ = some (bBest (bVal w n x (bNet w n 2)) (bL0 (bOkS w S) (w 3) 0) (-1), σ') ∧ bS σ σ' ∧ bRw σ' 86 = bArg (bVal w n x (bNet w n 2)) (bL0 (bOkS w S) (w 3) 0) (-1) (bRw σ 86) := by
  obtain ⟨v, σ1, r1, r2, r3⟩ := m_firstRow (σ := on_st σ 77 18 S) (w := w) (S := S) hk (by rw [bst_nc (by omega)]; exact hw) bst_eq
  have ll := bLen_L0 (bOkS w S) (m := w 3) hk.c.2.2.2.1.2
  obtain ⟨σ2, s1, s2, s3⟩ := m_mostLoop hk n0 n1 x0 x1 _ on_N (-1) v σ1 r3 (by unfold on_N; omega) (by omega)
  have fr : ∀ c, c ≠ 77 → c ≠ 84 → c ≠ 86 → σ2 c = σ c := fun c c1 c2 c3 => by rw [s2 c c2 c3, r2 c c2, bst_nc c1]
  have f77 : σ2 77 = on_st σ 77 18 S 77 := by rw [s2 77 (by omega) (by omega), r2 77 (by omega)]
  refine ⟨σ2, ?_, ⟨fun c hc => fr c (fun e => hc (by rw [e]; decide)) (fun e => hc (by rw [e]; decide)) (fun e => hc (by rw [e]; decide)), by rw [f77, bst_ni (by omega)], by rw [f77, bst_ni (by omega)], by rw [f77, bst_ni (by omega)]⟩, ?_⟩
  · unfold pf_X12_mostBy
    rw [bPt, bCl r1, s1]
  · rw [s3]
    unfold bRw
    rw [r2 86 (by omega), bst_nc (by omega)]
end O53
