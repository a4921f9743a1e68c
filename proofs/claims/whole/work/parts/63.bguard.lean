/-! B: the guard: the men and the quarrels of a row, in the class -/
/-- the men of a row, as bits -/
def bMs4 (r : bQd) : Int := on_or (on_or (on_or (on_shl 1 r.1) (on_shl 1 r.2.1)) (on_shl 1 r.2.2.1)) (on_shl 1 r.2.2.2)
/-- the quarrels round a row -/
def bQr (w : bW) (r : bQd) : Int := bQ w r.1 r.2.1 + bQ w r.2.1 r.2.2.1 + bQ w r.2.2.1 r.2.2.2 + bQ w r.2.2.2 r.1
section O63
variable {σ : on_S} {w : bW}
theorem c_menIn {i : Nat} (hi : i < 378) : pf_X7_menIn (bRow i) σ = some (bMs4 (bDec (on_rowsT.getD i 0)), σ) := by
  have m0 := c_manOf (σ := σ) hi (c := 0) (by omega) (by omega)
  have m1 := c_manOf (σ := σ) hi (c := 1) (by omega) (by omega)
  have m2 := c_manOf (σ := σ) hi (c := 2) (by omega) (by omega)
  have m3 := c_manOf (σ := σ) hi (c := 3) (by omega) (by omega)
  unfold pf_X7_menIn
  rw [bCl m0, bCl m1, bCl m2, bCl m3]
  rfl
theorem c_quarrelsIn (hk : bOk w) (hR : bRp 2 w σ) {i : Nat} (hi : i < 378) (hv : bVr (fun _ => true) (w 3) (bDec (on_rowsT.getD i 0))) : pf_X7_quarrelsIn (bRow i) σ = some (bQr w (bDec (on_rowsT.getD i 0)), σ) := by
  have hm := hk.c.2.2.2.1
  have m0 := c_manOf (σ := σ) hi (c := 0) (by omega) (by omega)
  have m1 := c_manOf (σ := σ) hi (c := 1) (by omega) (by omega)
  have m2 := c_manOf (σ := σ) hi (c := 2) (by omega) (by omega)
  have m3 := c_manOf (σ := σ) hi (c := 3) (by omega) (by omega)
  generalize hr : bDec (on_rowsT.getD i 0) = r at *
  obtain ⟨a, b, c, d⟩ := r
  obtain ⟨⟨h1, -⟩, ⟨h2, -⟩, ⟨h3, -⟩, ⟨h4, -⟩, -⟩ := hv
  simp only at h1 h2 h3 h4
  rw [show bQp (a, b, c, d) 0 = a from rfl] at m0
  rw [show bQp (a, b, c, d) 1 = b from rfl] at m1
  rw [show bQp (a, b, c, d) 2 = c from rfl] at m2
  rw [show bQp (a, b, c, d) 3 = d from rfl] at m3
  unfold pf_X7_quarrelsIn
  rw [show on_N = 99995 + 1 + 1 + 1 + 1 + 1 from rfl, pf_X7_quarrelsIn_4, bLtT (by omega) (by omega) (by omega), bCl m0, bRm (by omega) (by omega) (by omega) (by omega), show ((0 : Int) + 1) % 4 = 1 from rfl, bCl m1, bCl (c_quarrelOf hR h1.1 (by omega) h2.1 (by omega)), show (0 : Int) + 1 = 1 from rfl, pf_X7_quarrelsIn_4, bLtT (by omega) (by omega) (by omega), bCl m1, bRm (by omega) (by omega) (by omega) (by omega), show ((1 : Int) + 1) % 4 = 2 from rfl, bCl m2, bCl (c_quarrelOf hR h2.1 (by omega) h3.1 (by omega)), show (1 : Int) + 1 = 2 from rfl, pf_X7_quarrelsIn_4, bLtT (by omega) (by omega) (by omega), bCl m2, bRm (by omega) (by omega) (by omega) (by omega), show ((2 : Int) + 1) % 4 = 3 from rfl, bCl m3, bCl (c_quarrelOf hR h3.1 (by omega) h4.1 (by omega)), show (2 : Int) + 1 = 3 from rfl, pf_X7_quarrelsIn_4, bLtT (by omega) (by omega) (by omega), bCl m3, bRm (by omega) (by omega) (by omega) (by omega), show ((3 : Int) + 1) % 4 = 0 from rfl, bCl m0, bCl (c_quarrelOf hR h4.1 (by omega) h1.1 (by omega)), pf_X7_quarrelsIn_4, bLtF (by omega) (by omega) (by omega)]
  unfold bQr
  simp only
  congr 2; omega
/-! the reference lays a row down -/
def bMk1 (a : Int) : Int := if a = -1 then 0 else on_shl 1 a
/-- the men of the posts, as bits -/
def bMk (p : Int → Int) : Int := on_or (on_or (on_or (on_or 0 (bMk1 (p 0))) (bMk1 (p 1))) (bMk1 (p 2))) (bMk1 (p 3))
theorem m_layRow (hk : bOk (σ 78)) (hp : bPo (σ 78) (σ 84)) {k : Int} (k0 : 0 ≤ k) (k2 : k < 2) (c0 : 0 ≤ σ 90 k) (c1 : σ 90 k < 3100) : ∃ σ' : on_S, pf_X12_layRow k σ = some (0, σ') ∧ (∀ c, c ≠ 87 → c ≠ 88 → c ≠ 89 → c ≠ 90 → σ' c = σ c) ∧ (∀ i, σ' 87 i = if i = 3100 * k + σ 90 k then bMk (σ 84) else σ 87 i) ∧ (∀ i, σ' 88 i = if 4 * (3100 * k + σ 90 k) ≤ i ∧ i < 4 * (3100 * k + σ 90 k) + 4 then σ 84 (i - 4 * (3100 * k + σ 90 k)) else σ 88 i) ∧ (∀ i, σ' 89 i = if i = 3100 * k + σ 90 k then bQs (σ 78) (σ 84) else σ 89 i) ∧ (∀ i, σ' 90 i = if i = k then σ 90 k + 1 else σ 90 i) := by
  have h3 := hk.c.2.2.2.1
  generalize hI : 3100 * k + σ 90 k = I
  have step : ∀ (nf : Nat) (c v : Int) (σ' : on_S), 0 ≤ c → c < 4 → (∀ x, x ≠ 87 → x ≠ 88 → σ' x = σ x) → σ' 87 I = v → pf_X12_layRow_22 (nf + 1) k I c σ' = pf_X12_layRow_22 nf k I (c + 1) (on_st (on_st σ' 88 (4 * I + c) (σ 84 c)) 87 I (on_or v (bMk1 (σ 84 c)))) := by
    intro nf c v σ' c0 c4 hf hv
    have pc := hp c c0 c4
    have e84 : σ' 84 = σ 84 := hf 84 (by omega) (by omega)
    rw [pf_X12_layRow_22, bLtT (by omega) (by omega) c4, bRd c0 (by omega), e84, bWr (by omega) (by omega), bRd (by omega) (by omega), bst_nc (by omega), hv, bRd c0 (by omega), bst_nc (by omega), e84]
    unfold bMk1 pf_X12_layRow_72
    by_cases z : σ 84 c = -1
    · rw [bEqT (by omega) z, bWr (by omega) (by omega), if_pos z]
    · rw [bEqF (by omega) (by omega) z, bRd c0 (by omega), bst_nc (by omega), e84, bWr (by omega) (by omega), if_neg z]
  have fr : ∀ (σ' : on_S) (i j v u : Int), (∀ x, x ≠ 87 → x ≠ 88 → σ' x = σ x) → ∀ x, x ≠ 87 → x ≠ 88 → on_st (on_st σ' 88 i v) 87 j u x = σ x := fun σ' i j v u h x h7 h8 => by rw [bst_nc h7, bst_nc h8]; exact h x h7 h8
  have f0 : ∀ x, x ≠ 87 → x ≠ 88 → on_st σ 87 I 0 x = σ x := fun x h7 _ => bst_nc h7
  have f1 := fr _ (4 * I + 0) I (σ 84 0) (on_or 0 (bMk1 (σ 84 0))) f0
  have f2 := fr _ (4 * I + 1) I (σ 84 1) (on_or (on_or 0 (bMk1 (σ 84 0))) (bMk1 (σ 84 1))) f1
  have f3 := fr _ (4 * I + 2) I (σ 84 2) (on_or (on_or (on_or 0 (bMk1 (σ 84 0))) (bMk1 (σ 84 1))) (bMk1 (σ 84 2))) f2
  have f4 := fr _ (4 * I + 3) I (σ 84 3) (bMk (σ 84)) f3
  generalize hT : on_st (on_st (on_st (on_st (on_st (on_st (on_st (on_st (on_st σ 87 I 0) 88 (4 * I + 0) (σ 84 0)) 87 I (on_or 0 (bMk1 (σ 84 0)))) 88 (4 * I + 1) (σ 84 1)) 87 I (on_or (on_or 0 (bMk1 (σ 84 0))) (bMk1 (σ 84 1)))) 88 (4 * I + 2) (σ 84 2)) 87 I (on_or (on_or (on_or 0 (bMk1 (σ 84 0))) (bMk1 (σ 84 1))) (bMk1 (σ 84 2)))) 88 (4 * I + 3) (σ 84 3)) 87 I (bMk (σ 84)) = T at f4
  have t87 : ∀ i, T 87 i = if i = I then bMk (σ 84) else σ 87 i := by
    intro i
    rw [← hT, bst_if]
    by_cases e : i = I
    · rw [if_pos e, if_pos e]
    · rw [if_neg e, if_neg e, bst_nc (by omega), bst_ni e, bst_nc (by omega), bst_ni e, bst_nc (by omega), bst_ni e, bst_nc (by omega), bst_ni e]
  have t88 : ∀ i, T 88 i = if 4 * I ≤ i ∧ i < 4 * I + 4 then σ 84 (i - 4 * I) else σ 88 i := by
    intro i
    rw [← hT, bst_nc (by omega), bst_if]
    by_cases e3 : i = 4 * I + 3
    · rw [if_pos e3, if_pos (by omega), e3]; congr 1; omega
    · rw [if_neg e3, bst_nc (by omega), bst_if]
      by_cases e2 : i = 4 * I + 2
      · rw [if_pos e2, if_pos (by omega), e2]; congr 1; omega
      · rw [if_neg e2, bst_nc (by omega), bst_if]
        by_cases e1 : i = 4 * I + 1
        · rw [if_pos e1, if_pos (by omega), e1]; congr 1; omega
        · rw [if_neg e1, bst_nc (by omega), bst_if]
          by_cases e0 : i = 4 * I + 0
          · rw [if_pos e0, if_pos (by omega), e0]; congr 1; omega
          · rw [if_neg e0, bst_nc (by omega), if_neg (by omega)]
  have tw : T 78 = σ 78 := f4 78 (by omega) (by omega)
  have t84 : T 84 = σ 84 := f4 84 (by omega) (by omega)
  have t90 : T 90 = σ 90 := f4 90 (by omega) (by omega)
  have qp := m_quarrelsOfPosts (σ := T) (by rw [tw]; exact hk) (by rw [tw, t84]; exact hp)
  rw [tw, t84] at qp
  refine ⟨on_st (on_st T 89 I (bQs (σ 78) (σ 84))) 90 k (σ 90 k + 1), ?_, fun c h7 h8 h9 h0 => by rw [bst_nc h0, bst_nc h9]; exact f4 c h7 h8, fun i => by rw [bst_nc (by omega), bst_nc (by omega)]; exact t87 i, fun i => by rw [bst_nc (by omega), bst_nc (by omega)]; exact t88 i, fun i => ?_, fun i => ?_⟩
  · unfold pf_X12_layRow
    rw [bRd k0 (by omega), hI, bWr (by omega) (by omega), show on_N = 99995 + 1 + 1 + 1 + 1 + 1 from rfl, step _ 0 0 _ (by omega) (by omega) f0 bst_eq, show (0 : Int) + 1 = 1 from rfl, step _ 1 _ _ (by omega) (by omega) f1 bst_eq, show (1 : Int) + 1 = 2 from rfl, step _ 2 _ _ (by omega) (by omega) f2 bst_eq, show (2 : Int) + 1 = 3 from rfl, step _ 3 _ _ (by omega) (by omega) f3 bst_eq]
    show pf_X12_layRow_22 (99995 + 1) k I (3 + 1) (on_st (on_st (on_st (on_st (on_st (on_st (on_st (on_st (on_st σ 87 I 0) 88 (4 * I + 0) (σ 84 0)) 87 I (on_or 0 (bMk1 (σ 84 0)))) 88 (4 * I + 1) (σ 84 1)) 87 I (on_or (on_or 0 (bMk1 (σ 84 0))) (bMk1 (σ 84 1)))) 88 (4 * I + 2) (σ 84 2)) 87 I (on_or (on_or (on_or 0 (bMk1 (σ 84 0))) (bMk1 (σ 84 1))) (bMk1 (σ 84 2)))) 88 (4 * I + 3) (σ 84 3)) 87 I (bMk (σ 84))) = _
    rw [hT, pf_X12_layRow_22, bLtF (by omega) (by omega) (by omega), bCl qp, bWr (by omega) (by omega), bRd k0 (by omega), bst_nc (by omega), t90, bWr k0 (by omega)]
  · rw [bst_nc (by omega), bst_if, f4 89 (by omega) (by omega)]
  · rw [bst_if]
    by_cases e : i = k
    · rw [if_pos e, if_pos e]
    · rw [if_neg e, if_neg e, bst_nc (by omega), t90]
end O63
