/-! B: a street copied, in the class -/
section O85
variable {w w' : bW} {b p : Nat} {σ σ' : on_S}
theorem c_copy3 (hd : b + 24 < p ∨ p + 24 < b) (hm : 0 ≤ σ (p + 8) 0 ∧ σ (p + 8) 0 ≤ 9) : ∃ σ' : on_S, pf_X3_copyFrom b p σ = some (0, σ') ∧ (∀ c, (c < b + 8 ∨ b + 13 < c) → σ' c = σ c) ∧ σ' (b + 8) 0 = σ (p + 8) 0 ∧ (∀ i : Int, 0 ≤ i → i < σ (p + 8) 0 → σ' (b + 9) i = σ (p + 9) i ∧ σ' (b + 10) i = σ (p + 10) i ∧ σ' (b + 11) i = σ (p + 11) i ∧ σ' (b + 12) i = σ (p + 12) i) ∧ ∀ i : Int, 0 ≤ i → i < 81 → σ' (b + 13) i = σ (p + 13) i := by
  unfold pf_X3_copyFrom
  rw [bGt]
  generalize hv : σ (p + 8) 0 = v at *
  have P : (fun (x : on_S) => True) σ := trivial
  clear P
  have s1 : ∀ c, c ≠ b + 8 → on_st σ (b + 8) 0 v c = σ c := fun c h => bst_nc h
  have e1 : on_st σ (b + 8) 0 v (b + 8) 0 = v := bst_eq
  rw [bPt]
  generalize on_st σ (b + 8) 0 v = S1 at *
  rw [bGt, e1, bCp (by omega) (by omega) (by omega) (by omega) (by omega)]
  have s2 : ∀ c, c ≠ b + 9 → on_cp S1 (p + 9) 0 (b + 9) 0 v c = S1 c := fun c h => bcp_nc h
  have e2 : ∀ i : Int, 0 ≤ i → i < v → on_cp S1 (p + 9) 0 (b + 9) 0 v (b + 9) i = σ (p + 9) i := fun i i0 i1 => by rw [bcp_if, if_pos (by omega), s1 _ (by omega)]; congr 1; omega
  generalize on_cp S1 (p + 9) 0 (b + 9) 0 v = S2 at *
  rw [bGt, s2 _ (by omega), e1, bCp (by omega) (by omega) (by omega) (by omega) (by omega)]
  have s3 : ∀ c, c ≠ b + 10 → on_cp S2 (p + 10) 0 (b + 10) 0 v c = S2 c := fun c h => bcp_nc h
  have e3 : ∀ i : Int, 0 ≤ i → i < v → on_cp S2 (p + 10) 0 (b + 10) 0 v (b + 10) i = σ (p + 10) i := fun i i0 i1 => by rw [bcp_if, if_pos (by omega), s2 _ (by omega), s1 _ (by omega)]; congr 1; omega
  generalize on_cp S2 (p + 10) 0 (b + 10) 0 v = S3 at *
  rw [bGt, s3 _ (by omega), s2 _ (by omega), e1, bCp (by omega) (by omega) (by omega) (by omega) (by omega)]
  have s4 : ∀ c, c ≠ b + 11 → on_cp S3 (p + 11) 0 (b + 11) 0 v c = S3 c := fun c h => bcp_nc h
  have e4 : ∀ i : Int, 0 ≤ i → i < v → on_cp S3 (p + 11) 0 (b + 11) 0 v (b + 11) i = σ (p + 11) i := fun i i0 i1 => by rw [bcp_if, if_pos (by omega), s3 _ (by omega), s2 _ (by omega), s1 _ (by omega)]; congr 1; omega
  generalize on_cp S3 (p + 11) 0 (b + 11) 0 v = S4 at *
  rw [bGt, s4 _ (by omega), s3 _ (by omega), s2 _ (by omega), e1, bCp (by omega) (by omega) (by omega) (by omega) (by omega)]
  have s5 : ∀ c, c ≠ b + 12 → on_cp S4 (p + 12) 0 (b + 12) 0 v c = S4 c := fun c h => bcp_nc h
  have e5 : ∀ i : Int, 0 ≤ i → i < v → on_cp S4 (p + 12) 0 (b + 12) 0 v (b + 12) i = σ (p + 12) i := fun i i0 i1 => by rw [bcp_if, if_pos (by omega), s4 _ (by omega), s3 _ (by omega), s2 _ (by omega), s1 _ (by omega)]; congr 1; omega
  generalize on_cp S4 (p + 12) 0 (b + 12) 0 v = S5 at *
  rw [bCp (by omega) (by omega) (by omega) (by omega) (by omega)]
  have s6 : ∀ c, c ≠ b + 13 → on_cp S5 (p + 13) 0 (b + 13) 0 ((81 : Nat) : Int) c = S5 c := fun c h => bcp_nc h
  have e6 : ∀ i : Int, 0 ≤ i → i < 81 → on_cp S5 (p + 13) 0 (b + 13) 0 ((81 : Nat) : Int) (b + 13) i = σ (p + 13) i := fun i i0 i1 => by rw [bcp_if, if_pos (by omega), s5 _ (by omega), s4 _ (by omega), s3 _ (by omega), s2 _ (by omega), s1 _ (by omega)]; congr 1; omega
  refine ⟨_, rfl, fun c hc => by rw [s6 c (by omega), s5 c (by omega), s4 c (by omega), s3 c (by omega), s2 c (by omega), s1 c (by omega)], by rw [s6 _ (by omega), s5 _ (by omega), s4 _ (by omega), s3 _ (by omega), s2 _ (by omega), e1], fun i i0 i1 => ⟨?_, ?_, ?_, ?_⟩, e6⟩
  · rw [s6 _ (by omega), s5 _ (by omega), s4 _ (by omega), s3 _ (by omega), e2 i i0 i1]
  · rw [s6 _ (by omega), s5 _ (by omega), s4 _ (by omega), e3 i i0 i1]
  · rw [s6 _ (by omega), s5 _ (by omega), e4 i i0 i1]
  · rw [s6 _ (by omega), e5 i i0 i1]
theorem c_copy4 (hd : b + 24 < p ∨ p + 24 < b) (hm : 0 ≤ σ (p + 14) 0 ∧ σ (p + 14) 0 ≤ 2) : ∃ σ' : on_S, pf_X4_copyFrom b p σ = some (0, σ') ∧ (∀ c, (c < b + 14 ∨ b + 19 < c) → σ' c = σ c) ∧ σ' (b + 14) 0 = σ (p + 14) 0 ∧ (∀ i : Int, 0 ≤ i → i < σ (p + 14) 0 → σ' (b + 15) i = σ (p + 15) i ∧ σ' (b + 16) i = σ (p + 16) i ∧ σ' (b + 17) i = σ (p + 17) i) ∧ ∀ i : Int, 0 ≤ i → i < 8 → σ' (b + 18) i = σ (p + 18) i ∧ σ' (b + 19) i = σ (p + 19) i := by
  unfold pf_X4_copyFrom
  rw [bGt]
  generalize hv : σ (p + 14) 0 = v at *
  have s1 : ∀ c, c ≠ b + 14 → on_st σ (b + 14) 0 v c = σ c := fun c h => bst_nc h
  have e1 : on_st σ (b + 14) 0 v (b + 14) 0 = v := bst_eq
  rw [bPt]
  generalize on_st σ (b + 14) 0 v = S1 at *
  rw [bGt, e1, bCp (by omega) (by omega) (by omega) (by omega) (by omega)]
  have s2 : ∀ c, c ≠ b + 15 → on_cp S1 (p + 15) 0 (b + 15) 0 v c = S1 c := fun c h => bcp_nc h
  have e2 : ∀ i : Int, 0 ≤ i → i < v → on_cp S1 (p + 15) 0 (b + 15) 0 v (b + 15) i = σ (p + 15) i := fun i i0 i1 => by rw [bcp_if, if_pos (by omega), s1 _ (by omega)]; congr 1; omega
  generalize on_cp S1 (p + 15) 0 (b + 15) 0 v = S2 at *
  rw [bGt, s2 _ (by omega), e1, bCp (by omega) (by omega) (by omega) (by omega) (by omega)]
  have s3 : ∀ c, c ≠ b + 16 → on_cp S2 (p + 16) 0 (b + 16) 0 v c = S2 c := fun c h => bcp_nc h
  have e3 : ∀ i : Int, 0 ≤ i → i < v → on_cp S2 (p + 16) 0 (b + 16) 0 v (b + 16) i = σ (p + 16) i := fun i i0 i1 => by rw [bcp_if, if_pos (by omega), s2 _ (by omega), s1 _ (by omega)]; congr 1; omega
  generalize on_cp S2 (p + 16) 0 (b + 16) 0 v = S3 at *
  rw [bGt, s3 _ (by omega), s2 _ (by omega), e1, bCp (by omega) (by omega) (by omega) (by omega) (by omega)]
  have s4 : ∀ c, c ≠ b + 17 → on_cp S3 (p + 17) 0 (b + 17) 0 v c = S3 c := fun c h => bcp_nc h
  have e4 : ∀ i : Int, 0 ≤ i → i < v → on_cp S3 (p + 17) 0 (b + 17) 0 v (b + 17) i = σ (p + 17) i := fun i i0 i1 => by rw [bcp_if, if_pos (by omega), s3 _ (by omega), s2 _ (by omega), s1 _ (by omega)]; congr 1; omega
  generalize on_cp S3 (p + 17) 0 (b + 17) 0 v = S4 at *
  rw [bCp (by omega) (by omega) (by omega) (by omega) (by omega)]
  have s5 : ∀ c, c ≠ b + 18 → on_cp S4 (p + 18) 0 (b + 18) 0 ((8 : Nat) : Int) c = S4 c := fun c h => bcp_nc h
  have e5 : ∀ i : Int, 0 ≤ i → i < 8 → on_cp S4 (p + 18) 0 (b + 18) 0 ((8 : Nat) : Int) (b + 18) i = σ (p + 18) i := fun i i0 i1 => by rw [bcp_if, if_pos (by omega), s4 _ (by omega), s3 _ (by omega), s2 _ (by omega), s1 _ (by omega)]; congr 1; omega
  generalize on_cp S4 (p + 18) 0 (b + 18) 0 ((8 : Nat) : Int) = S5 at *
  rw [bCp (by omega) (by omega) (by omega) (by omega) (by omega)]
  have s6 : ∀ c, c ≠ b + 19 → on_cp S5 (p + 19) 0 (b + 19) 0 ((8 : Nat) : Int) c = S5 c := fun c h => bcp_nc h
  have e6 : ∀ i : Int, 0 ≤ i → i < 8 → on_cp S5 (p + 19) 0 (b + 19) 0 ((8 : Nat) : Int) (b + 19) i = σ (p + 19) i := fun i i0 i1 => by rw [bcp_if, if_pos (by omega), s5 _ (by omega), s4 _ (by omega), s3 _ (by omega), s2 _ (by omega), s1 _ (by omega)]; congr 1; omega
  refine ⟨_, rfl, fun c hc => by rw [s6 c (by omega), s5 c (by omega), s4 c (by omega), s3 c (by omega), s2 c (by omega), s1 c (by omega)], by rw [s6 _ (by omega), s5 _ (by omega), s4 _ (by omega), s3 _ (by omega), s2 _ (by omega), e1], fun i i0 i1 => ⟨?_, ?_, ?_⟩, fun i i0 i1 => ⟨by rw [s6 _ (by omega), e5 i i0 i1], e6 i i0 i1⟩⟩
  · rw [s6 _ (by omega), s5 _ (by omega), s4 _ (by omega), s3 _ (by omega), e2 i i0 i1]
  · rw [s6 _ (by omega), s5 _ (by omega), s4 _ (by omega), e3 i i0 i1]
  · rw [s6 _ (by omega), s5 _ (by omega), e4 i i0 i1]
theorem c_copy2 (hd : b + 24 < p ∨ p + 24 < b) (hm : 0 ≤ σ (p + 20) 0 ∧ σ (p + 20) 0 ≤ 60) : ∃ σ' : on_S, pf_X2_copyFrom b p σ = some (0, σ') ∧ (∀ c, (c < b + 20 ∨ b + 23 < c) → σ' c = σ c) ∧ σ' (b + 20) 0 = σ (p + 20) 0 ∧ (∀ i : Int, 0 ≤ i → i < σ (p + 20) 0 → σ' (b + 21) i = σ (p + 21) i ∧ σ' (b + 22) i = σ (p + 22) i) ∧ ∀ i : Int, 0 ≤ i → i < σ (p + 20) 0 * 4 → σ' (b + 23) i = σ (p + 23) i := by
  unfold pf_X2_copyFrom
  rw [bGt]
  generalize hv : σ (p + 20) 0 = v at *
  have s1 : ∀ c, c ≠ b + 20 → on_st σ (b + 20) 0 v c = σ c := fun c h => bst_nc h
  have e1 : on_st σ (b + 20) 0 v (b + 20) 0 = v := bst_eq
  rw [bPt]
  generalize on_st σ (b + 20) 0 v = S1 at *
  rw [bGt, e1, bCp (by omega) (by omega) (by omega) (by omega) (by omega)]
  have s2 : ∀ c, c ≠ b + 21 → on_cp S1 (p + 21) 0 (b + 21) 0 v c = S1 c := fun c h => bcp_nc h
  have e2 : ∀ i : Int, 0 ≤ i → i < v → on_cp S1 (p + 21) 0 (b + 21) 0 v (b + 21) i = σ (p + 21) i := fun i i0 i1 => by rw [bcp_if, if_pos (by omega), s1 _ (by omega)]; congr 1; omega
  generalize on_cp S1 (p + 21) 0 (b + 21) 0 v = S2 at *
  rw [bGt, s2 _ (by omega), e1, bCp (by omega) (by omega) (by omega) (by omega) (by omega)]
  have s3 : ∀ c, c ≠ b + 22 → on_cp S2 (p + 22) 0 (b + 22) 0 v c = S2 c := fun c h => bcp_nc h
  have e3 : ∀ i : Int, 0 ≤ i → i < v → on_cp S2 (p + 22) 0 (b + 22) 0 v (b + 22) i = σ (p + 22) i := fun i i0 i1 => by rw [bcp_if, if_pos (by omega), s2 _ (by omega), s1 _ (by omega)]; congr 1; omega
  generalize on_cp S2 (p + 22) 0 (b + 22) 0 v = S3 at *
  rw [bGt, s3 _ (by omega), s2 _ (by omega), e1, bCp (by omega) (by omega) (by omega) (by omega) (by omega)]
  have s4 : ∀ c, c ≠ b + 23 → on_cp S3 (p + 23) 0 (b + 23) 0 (v * 4) c = S3 c := fun c h => bcp_nc h
  have e4 : ∀ i : Int, 0 ≤ i → i < v * 4 → on_cp S3 (p + 23) 0 (b + 23) 0 (v * 4) (b + 23) i = σ (p + 23) i := fun i i0 i1 => by rw [bcp_if, if_pos (by omega), s3 _ (by omega), s2 _ (by omega), s1 _ (by omega)]; congr 1; omega
  refine ⟨_, rfl, fun c hc => by rw [s4 c (by omega), s3 c (by omega), s2 c (by omega), s1 c (by omega)], by rw [s4 _ (by omega), s3 _ (by omega), s2 _ (by omega), e1], fun i i0 i1 => ⟨?_, ?_⟩, e4⟩
  · rw [s4 _ (by omega), s3 _ (by omega), e2 i i0 i1]
  · rw [s4 _ (by omega), e3 i i0 i1]
end O85
