/-! B: what holds of a new object -/
def on_s0 : on_S := fun c i => if c = 56 then bRow i.toNat else if c = 96 ∨ ((c = 69 ∨ c = 71 ∨ c = 73 ∨ c = 75) ∧ i = 0) ∨ (c = 77 ∧ i = 13) ∨ (c = 52 ∧ i = 9) then -1 else 0
theorem on_s0_z {c : Nat} {i : Int} (h : c ≠ 56 ∧ c ≠ 96 ∧ c ≠ 69 ∧ c ≠ 71 ∧ c ≠ 73 ∧ c ≠ 75 ∧ c ≠ 77 ∧ c ≠ 52) : on_s0 c i = 0 := by
  unfold on_s0
  rw [if_neg (by omega), if_neg (by omega)]
theorem on_s0_m {c : Nat} {i : Int} (h5 : c ≠ 56) (h : c = 96 ∨ ((c = 69 ∨ c = 71 ∨ c = 73 ∨ c = 75) ∧ i = 0) ∨ (c = 77 ∧ i = 13) ∨ (c = 52 ∧ i = 9)) : on_s0 c i = -1 := by
  unfold on_s0
  rw [if_neg h5, if_pos h]
theorem on_s0_n {c : Nat} {i : Int} (h5 : c ≠ 56) (h : ¬ (c = 96 ∨ ((c = 69 ∨ c = 71 ∨ c = 73 ∨ c = 75) ∧ i = 0) ∨ (c = 77 ∧ i = 13) ∨ (c = 52 ∧ i = 9))) : on_s0 c i = 0 := by
  unfold on_s0
  rw [if_neg h5, if_neg h]
theorem on_s0_I : bI 100 on_s0 := by
  have z : ∀ (c : Nat) (i : Int), (c < 52 ∨ c = 53 ∨ (78 ≤ c ∧ c ≤ 82)) → on_s0 c i = 0 := fun c i h => on_s0_z (by omega)
  have z78 : ∀ i, on_s0 78 i = 0 := fun i => z 78 i (by omega)
  refine ⟨bOk_zero fun i _ _ => z78 i, ⟨?_, fun k k0 k1 => ?_, fun k k0 k1 => ?_, fun x y _ _ _ _ => ?_, fun k k0 k1 => ?_, fun x y _ _ _ _ => ?_, fun k k0 k1 => ?_, fun k c k0 k1 => ?_, fun k k0 k1 => ?_⟩, ?_, ?_, ?_, ?_⟩
  · unfold bRpC
    simp only [z78]
    exact ⟨z _ _ (by omega), z _ _ (by omega), z _ _ (by omega), z _ _ (by omega), z _ _ (by omega), z _ _ (by omega), z _ _ (by omega), z _ _ (by omega)⟩
  · rw [z78] at k1; omega
  · rw [z78] at k1; omega
  · exact ⟨(z _ _ (by omega)).trans (z78 _).symm, (z _ _ (by omega)).trans (z78 _).symm⟩
  · rw [z78] at k1; omega
  · exact (z _ _ (by omega)).trans (z78 _).symm
  · rw [z78] at k1; omega
  · rw [z78] at k1; omega
  · rw [z78] at k1; omega
  · unfold bTp
    have a := z 0 1 (by omega)
    have b : on_s0 77 5 = 0 := on_s0_n (by omega) (by omega)
    have c : on_s0 52 8 = 0 := on_s0_n (by omega) (by omega)
    have d : on_s0 77 12 = 0 := on_s0_n (by omega) (by omega)
    have e : on_s0 52 9 = -1 := on_s0_m (by omega) (by omega)
    have f : on_s0 77 13 = -1 := on_s0_m (by omega) (by omega)
    refine ⟨by omega, by omega, fun i _ _ => ?_, by omega, by omega, by omega, by omega⟩
    have g := z 81 i (by omega)
    have h := z 1 i (by omega)
    omega
  · intro s hs
    refine ⟨Or.inl ⟨on_s0_m (by omega) (by omega), on_s0_m (by omega) (by omega)⟩, fun i i0 i1 => ?_⟩
    have g : on_s0 (69 + 2 * s + 1) i = 0 := on_s0_n (by omega) (by omega)
    have h : on_s0 98 ((60 * (s : Int)) + i) = 0 := on_s0_n (by omega) (by omega)
    rw [g, h]
    exact ⟨rfl, by decide⟩
  · refine ⟨0, rfl, fun k hk => Or.inl ⟨z _ _ (by omega), z _ _ (by omega)⟩, fun k k' _ _ h => absurd (z 53 k (by omega)) h⟩
  · intro i hi
    unfold on_s0
    rw [if_pos rfl, Int.toNat_natCast]
