/-! B: the guard: the men and the quarrels of a row, in the class -/
/-- the men of a row, as bits -/
def bMs4 (r : bQd) : Int := on_or (on_or (on_or (on_shl 1 r.1) (on_shl 1 r.2.1)) (on_shl 1 r.2.2.1)) (on_shl 1 r.2.2.2)
/-- the quarrels round a row -/
def bQr (w : bW) (r : bQd) : Int := bQ w r.1 r.2.1 + bQ w r.2.1 r.2.2.1 + bQ w r.2.2.1 r.2.2.2 + bQ w r.2.2.2 r.1
section O63
variable {σ : on_S} {w : bW}
theorem c_menIn {i : Nat} (hi : i < 378) : pf_X7_menIn (bRow i) σ = some (bMs4 (bDec (on_rowsT.getD i 0)), σ) := by
  have m0 := c_manOf (σ := σ) hi (c := 0) (by omega) (by omega)
  have m1 := c_manOf (σ := σ) hi (c := 1) (by omega) (by omega)
  have m2 := c_manOf (σ := σ) hi (c := 2) (by omega) (by omega)
  have m3 := c_manOf (σ := σ) hi (c := 3) (by omega) (by omega)
  unfold pf_X7_menIn
  rw [bCl m0, bCl m1, bCl m2, bCl m3]
  rfl
theorem c_quarrelsIn (hk : bOk w) (hR : bRp 2 w σ) {i : Nat} (hi : i < 378) (hv : bVr (fun _ => true) (w 3) (bDec (on_rowsT.getD i 0))) : pf_X7_quarrelsIn (bRow i) σ = some (bQr w (bDec (on_rowsT.getD i 0)), σ) := by
  have hm := hk.c.2.2.2.1
  have m0 := c_manOf (σ := σ) hi (c := 0) (by omega) (by omega)
  have m1 := c_manOf (σ := σ) hi (c := 1) (by omega) (by omega)
  have m2 := c_manOf (σ := σ) hi (c := 2) (by omega) (by omega)
  have m3 := c_manOf (σ := σ) hi (c := 3) (by omega) (by omega)
  generalize hr : bDec (on_rowsT.getD i 0) = r at *
  obtain ⟨a, b, c, d⟩ := r
  obtain ⟨⟨h1, -⟩, ⟨h2, -⟩, ⟨h3, -⟩, ⟨h4, -⟩, -⟩ := hv
  simp only at h1 h2 h3 h4
  rw [show bQp (a, b, c, d) 0 = a from rfl] at m0
  rw [show bQp (a, b, c, d) 1 = b from rfl] at m1
  rw [show bQp (a, b, c, d) 2 = c from rfl] at m2
  rw [show bQp (a, b, c, d) 3 = d from rfl] at m3
  unfold pf_X7_quarrelsIn
  rw [show on_N = 99995 + 1 + 1 + 1 + 1 + 1 from rfl, pf_X7_quarrelsIn_4, bLtT (by omega) (by omega) (by omega), bCl m0, bRm (by omega) (by omega) (by omega) (by omega), show ((0 : Int) + 1) % 4 = 1 from rfl, bCl m1, bCl (c_quarrelOf hR h1.1 (by omega) h2.1 (by omega)), show (0 : Int) + 1 = 1 from rfl, pf_X7_quarrelsIn_4, bLtT (by omega) (by omega) (by omega), bCl m1, bRm (by omega) (by omega) (by omega) (by omega), show ((1 : Int) + 1) % 4 = 2 from rfl, bCl m2, bCl (c_quarrelOf hR h2.1 (by omega) h3.1 (by omega)), show (1 : Int) + 1 = 2 from rfl, pf_X7_quarrelsIn_4, bLtT (by omega) (by omega) (by omega), bCl m2, bRm (by omega) (by omega) (by omega) (by omega), show ((2 : Int) + 1) % 4 = 3 from rfl, bCl m3, bCl (c_quarrelOf hR h3.1 (by omega) h4.1 (by omega)), show (2 : Int) + 1 = 3 from rfl, pf_X7_quarrelsIn_4, bLtT (by omega) (by omega) (by omega), bCl m3, bRm (by omega) (by omega) (by omega) (by omega), show ((3 : Int) + 1) % 4 = 0 from rfl, bCl m0, bCl (c_quarrelOf hR h4.1 (by omega) h1.1 (by omega)), pf_X7_quarrelsIn_4, bLtF (by omega) (by omega) (by omega)]
  unfold bQr
  simp only
  congr 2; omega
end O63
