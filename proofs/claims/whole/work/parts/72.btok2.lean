/-! B: street: the reference's tokens; words -/
section O72
variable {σ : on_S} {T : Int → Int} {n : Int}
/-- what the reference sees at a place -/
def bEye (T : Int → Int) (n p : Int) : Int := if p < n then (if T p < 0 then T p + 256 else T p) else -1
def bTx (T : Int → Int) (σ : on_S) : Prop := (∀ i : Int, 0 ≤ i → i < 1400 → σ 81 i = T i ∧ (-128 ≤ T i ∧ T i < 128)) ∧ σ 77 7 ≤ 1400
theorem bTx.to {σ' : on_S} (h : bTx T σ) (h8 : σ' 81 = σ 81) (h7 : σ' 77 7 = σ 77 7) : bTx T σ' := by unfold bTx at h ⊢; rw [h8, h7]; exact h
theorem m_see (hT : bTx T σ) {p : Int} (p0 : 0 ≤ p) (p1 : p ≤ σ 77 7) : pf_X12_see p σ = some (bEye T (σ 77 7) p, σ) ∧ (-1 ≤ bEye T (σ 77 7) p ∧ bEye T (σ 77 7) p < 256) := by
  obtain ⟨h1, h2⟩ := hT
  unfold pf_X12_see bEye
  rw [bGt]
  by_cases h : p < σ 77 7
  · have t := h1 p p0 (by omega)
    rw [bLtT (by omega) (by omega) h, bRd p0 (by omega), t.1, bAnd255 t.2.1 t.2.2, if_pos h]
    refine ⟨rfl, ?_⟩
    split <;> omega
  · rw [bLtF (by omega) (by omega) (by omega), if_neg h]; exact ⟨rfl, by omega⟩
theorem m_blank : ∀ (r nf : Nat) (σ : on_S), bTx T σ → 0 ≤ σ 77 8 → σ 77 8 + (r : Int) = σ 77 7 → r < nf → ∃ (σ' : on_S) (nf' : Nat), pf_X12_advance_0 nf σ = pf_X12_advance_0 (nf' + 1) σ' ∧ (∀ c, c ≠ 77 → σ' c = σ c) ∧ (∀ i, i ≠ 8 → σ' 77 i = σ 77 i) ∧ σ' 77 8 = bSkp T r (σ 77 8) ∧ bEye T (σ' 77 7) (σ' 77 8) ≠ 32 ∧ bEye T (σ' 77 7) (σ' 77 8) ≠ 10 := by
  intro r
  induction r with
  | zero =>
    intro nf σ hT h0 hr hnf
    cases nf with
    | zero => omega
    | succ nf =>
      have e : bEye T (σ 77 7) (σ 77 8) = -1 := by unfold bEye; rw [if_neg (by omega)]
      exact ⟨σ, nf, rfl, fun _ _ => rfl, fun _ _ => rfl, rfl, by omega, by omega⟩
  | succ r ih =>
    intro nf σ hT h0 hr hnf
    cases nf with
    | zero => omega
    | succ nf =>
      obtain ⟨s1, s2⟩ := m_see hT h0 (by omega)
      have t := (hT.1 (σ 77 8) h0 (by have := hT.2; omega)).2
      have ee : bEye T (σ 77 7) (σ 77 8) = if T (σ 77 8) < 0 then T (σ 77 8) + 256 else T (σ 77 8) := by unfold bEye; rw [if_pos (by omega)]
      have e32 : bEye T (σ 77 7) (σ 77 8) = 32 ↔ T (σ 77 8) = 32 := by rw [ee]; split <;> omega
      have e10 : bEye T (σ 77 7) (σ 77 8) = 10 ↔ T (σ 77 8) = 10 := by rw [ee]; split <;> omega
      have go : ∃ (σ' : on_S) (nf' : Nat), pf_X12_advance_26 (pf_X12_advance_0 nf) σ = pf_X12_advance_0 (nf' + 1) σ' ∧ (∀ c, c ≠ 77 → σ' c = σ c) ∧ (∀ i, i ≠ 8 → σ' 77 i = σ 77 i) ∧ σ' 77 8 = bSkp T r (σ 77 8 + 1) ∧ bEye T (σ' 77 7) (σ' 77 8) ≠ 32 ∧ bEye T (σ' 77 7) (σ' 77 8) ≠ 10 := by
        obtain ⟨σ', nf', a, b, c, d, e, f⟩ := ih nf (on_st σ 77 8 (σ 77 8 + 1)) (hT.to (bst_nc (by omega)) (bst_ni (by omega))) (by rw [bst_eq]; omega) (by rw [bst_eq, bst_ni (by omega)]; omega) (by omega)
        refine ⟨σ', nf', ?_, fun c hc => by rw [b c hc, bst_nc hc], fun i hi => by rw [c i hi, bst_ni hi], by rw [d, bst_eq], e, f⟩
        unfold pf_X12_advance_26
        rw [bGt, bPt, a]
      rw [bSkp]
      by_cases z : T (σ 77 8) = 32
      · rw [if_pos (Or.inl z), pf_X12_advance_0, bGt, bCl s1, bEqT (by omega) (e32.mpr z)]; exact go
      · by_cases z' : T (σ 77 8) = 10
        · rw [if_pos (Or.inr z'), pf_X12_advance_0, bGt, bCl s1, bEqF (by omega) (by omega) (fun t => z (e32.mp t)), bGt, bCl s1, bEqT (by omega) (e10.mpr z')]; exact go
        · rw [if_neg (by omega)]
          exact ⟨σ, nf, rfl, fun _ _ => rfl, fun _ _ => rfl, rfl, fun t => z (e32.mp t), fun t => z' (e10.mp t)⟩
theorem m_word : ∀ (r nf : Nat) (σ : on_S), bTx T σ → 0 ≤ σ 77 8 → σ 77 8 + (r : Int) = σ 77 7 → r < nf → ∃ σ' : on_S, pf_X12_advance_83 nf σ = some (0, σ') ∧ (∀ c, c ≠ 77 → σ' c = σ c) ∧ (∀ i, i ≠ 8 → i ≠ 10 → σ' 77 i = σ 77 i) ∧ σ' 77 8 = bEnd T 97 122 r (σ 77 8) ∧ σ' 77 10 = 1 := by
  intro r
  induction r with
  | zero =>
    intro nf σ hT h0 hr hnf
    cases nf with
    | zero => omega
    | succ nf =>
      obtain ⟨s1, s2⟩ := m_see hT h0 (by omega)
      have e : bEye T (σ 77 7) (σ 77 8) = -1 := by unfold bEye; rw [if_neg (by omega)]
      refine ⟨on_st σ 77 10 1, ?_, fun c hc => bst_nc hc, fun i _ h => bst_ni h, bst_ni (by omega), bst_eq⟩
      rw [pf_X12_advance_83, bGt, bCl s1, bCk (by omega), bCl (m_in' (by omega) (by omega) (by omega)), if_neg (by omega), bEqT (by omega) rfl, bPt]
  | succ r ih =>
    intro nf σ hT h0 hr hnf
    cases nf with
    | zero => omega
    | succ nf =>
      obtain ⟨s1, s2⟩ := m_see hT h0 (by omega)
      have t := (hT.1 (σ 77 8) h0 (by have := hT.2; omega)).2
      have ee : bEye T (σ 77 7) (σ 77 8) = if T (σ 77 8) < 0 then T (σ 77 8) + 256 else T (σ 77 8) := by unfold bEye; rw [if_pos (by omega)]
      have ew : (97 ≤ bEye T (σ 77 7) (σ 77 8) ∧ bEye T (σ 77 7) (σ 77 8) ≤ 122) ↔ (97 ≤ T (σ 77 8) ∧ T (σ 77 8) ≤ 122) := by rw [ee]; split <;> omega
      rw [pf_X12_advance_83, bGt, bCl s1, bCk (by omega), bCl (m_in' (by omega) (by omega) (by omega)), bEnd, bE01]
      by_cases z : 97 ≤ T (σ 77 8) ∧ T (σ 77 8) ≤ 122
      · obtain ⟨σ', a, b, c, d, e⟩ := ih nf (on_st σ 77 8 (σ 77 8 + 1)) (hT.to (bst_nc (by omega)) (bst_ni (by omega))) (by rw [bst_eq]; omega) (by rw [bst_eq, bst_ni (by omega)]; omega) (by omega)
        rw [if_pos (ew.mpr z), if_pos z, bGt, bPt]
        exact ⟨σ', a, fun c hc => by rw [b c hc, bst_nc hc], fun i h8 h10 => by rw [c i h8 h10, bst_ni h8], by rw [d, bst_eq], e⟩
      · rw [if_neg (fun t => z (ew.mp t)), if_neg z, bPt]
        exact ⟨_, rfl, fun c hc => bst_nc hc, fun i _ h => bst_ni h, bst_ni (by omega), bst_eq⟩
theorem m_digits : ∀ (r nf : Nat) (σ : on_S), bTx T σ → 0 ≤ σ 77 8 → σ 77 8 + (r : Int) = σ 77 7 → (0 ≤ σ 77 11 ∧ σ 77 11 ≤ 99999) → r < nf → ∃ σ' : on_S, pf_X12_advance_144 nf σ = some (0, σ') ∧ (∀ c, c ≠ 77 → σ' c = σ c) ∧ (∀ i, i ≠ 8 → i ≠ 10 → i ≠ 11 → σ' 77 i = σ 77 i) ∧ σ' 77 8 = bEnd T 48 57 r (σ 77 8) ∧ σ' 77 10 = 2 ∧ σ' 77 11 = bVl 99999 T r (σ 77 8) (σ 77 11) := by
  intro r
  induction r with
  | zero =>
    intro nf σ hT h0 hr hv hnf
    cases nf with
    | zero => omega
    | succ nf =>
      obtain ⟨s1, s2⟩ := m_see hT h0 (by omega)
      have e : bEye T (σ 77 7) (σ 77 8) = -1 := by unfold bEye; rw [if_neg (by omega)]
      refine ⟨on_st σ 77 10 2, ?_, fun c hc => bst_nc hc, fun i _ h _ => bst_ni h, bst_ni (by omega), bst_eq, bst_ni (by omega)⟩
      rw [pf_X12_advance_144, bGt, bCl s1, bCk (by omega), bCl (m_in' (by omega) (by omega) (by omega)), if_neg (by omega), bEqT (by omega) rfl, bPt]
  | succ r ih =>
    intro nf σ hT h0 hr hv hnf
    cases nf with
    | zero => omega
    | succ nf =>
      obtain ⟨s1, s2⟩ := m_see hT h0 (by omega)
      have t := (hT.1 (σ 77 8) h0 (by have := hT.2; omega)).2
      have ee : bEye T (σ 77 7) (σ 77 8) = if T (σ 77 8) < 0 then T (σ 77 8) + 256 else T (σ 77 8) := by unfold bEye; rw [if_pos (by omega)]
      have ew : (48 ≤ bEye T (σ 77 7) (σ 77 8) ∧ bEye T (σ 77 7) (σ 77 8) ≤ 57) ↔ (48 ≤ T (σ 77 8) ∧ T (σ 77 8) ≤ 57) := by rw [ee]; split <;> omega
      rw [pf_X12_advance_144, bGt, bCl s1, bCk (by omega), bCl (m_in' (by omega) (by omega) (by omega)), bEnd, bVl, bE01]
      by_cases z : 48 ≤ T (σ 77 8) ∧ T (σ 77 8) ≤ 57
      · rw [if_neg (by omega)] at ee
        rw [if_pos (ew.mpr z), if_pos z, if_pos z, bGt, bGt, bCl s1, ee, bMn (by omega) (by omega), bPt, bGt, bst_ni (by omega), bPt]
        obtain ⟨σ', a, b, c, d, e, f⟩ := ih nf (on_st (on_st σ 77 11 (min 99999 (((10 * σ 77 11) + T (σ 77 8)) - 48))) 77 8 (σ 77 8 + 1)) (hT.to (by rw [bst_nc (by omega), bst_nc (by omega)]) (by rw [bst_ni (by omega), bst_ni (by omega)])) (by rw [bst_eq]; omega) (by rw [bst_eq, bst_ni (by omega), bst_ni (by omega)]; omega) (by rw [bst_ni (by omega), bst_eq]; omega) (by omega)
        exact ⟨σ', a, fun c hc => by rw [b c hc, bst_nc hc, bst_nc hc], fun i h8 h10 h11 => by rw [c i h8 h10 h11, bst_ni h8, bst_ni h11], by rw [d, bst_eq], e, by rw [f, bst_eq, bst_ni (by omega), bst_eq]⟩
      · rw [if_neg (fun t => z (ew.mp t)), if_neg z, if_neg z, bPt]
        exact ⟨_, rfl, fun c hc => bst_nc hc, fun i _ h _ => bst_ni h, bst_ni (by omega), bst_eq, bst_ni (by omega)⟩
theorem m_advance (hT : bTx T σ) (h0 : 0 ≤ σ 77 8) (h1 : σ 77 8 ≤ σ 77 7) : ∃ σ' : on_S, pf_X12_advance σ = some (0, σ') ∧ (∀ c, c ≠ 77 → σ' c = σ c) ∧ (∀ i, i ≠ 8 → i ≠ 9 → i ≠ 10 → i ≠ 11 → σ' 77 i = σ 77 i) ∧ σ' 77 9 = bJt T (σ 77 7) (σ 77 8) ∧ σ' 77 10 = bKd T (σ 77 7) (bJt T (σ 77 7) (σ 77 8)) ∧ σ' 77 8 = bAf T (σ 77 7) (bJt T (σ 77 7) (σ 77 8)) ∧ (σ' 77 10 = 2 → σ' 77 11 = bVl 99999 T (σ 77 7 - bJt T (σ 77 7) (σ 77 8)).toNat (bJt T (σ 77 7) (σ 77 8)) 0) := by
  have n14 := hT.2
  obtain ⟨σ1, nf, a1, a2, a3, a4, a5, a6⟩ := m_blank (σ 77 7 - σ 77 8).toNat on_N σ hT h0 (by omega) (by unfold on_N; omega)
  have jb := bJt_b (T := T) h1
  have ej : bSkp T (σ 77 7 - σ 77 8).toNat (σ 77 8) = bJt T (σ 77 7) (σ 77 8) := rfl
  rw [ej] at a4
  have e7 := a3 7 (by omega)
  rw [a4, e7] at a5 a6
  generalize hJ : bJt T (σ 77 7) (σ 77 8) = j at *
  have T1 : bTx T σ1 := hT.to (a2 81 (by omega)) e7
  obtain ⟨s1, s2⟩ := m_see T1 (p := j) (by omega) (by omega)
  have T2 : bTx T (on_st σ1 77 9 j) := T1.to (bst_nc (by omega)) (bst_ni (by omega))
  obtain ⟨s3, -⟩ := m_see T2 (p := j) (by omega) (by rw [bst_ni (by omega)]; omega)
  rw [bst_ni (by omega)] at s3
  rw [e7] at s1 s2 s3
  unfold pf_X12_advance
  rw [a1, pf_X12_advance_0, bGt, a4, bCl s1, bEqF (by omega) (by omega) a5, bGt, a4, bCl s1, bEqF (by omega) (by omega) a6, bGt, a4, bPt, bGt, bst_ni (by omega), a4, bCl s3]
  have f1 : ∀ c, c ≠ 77 → on_st σ1 77 9 j c = σ c := fun c hc => by rw [bst_nc hc, a2 c hc]
  have f2 : ∀ i, i ≠ 8 → i ≠ 9 → on_st σ1 77 9 j 77 i = σ 77 i := fun i h8 h9 => by rw [bst_ni h9, a3 i h8]
  have f8 : on_st σ1 77 9 j 77 8 = j := by rw [bst_ni (by omega)]; exact a4
  have f9 : on_st σ1 77 9 j 77 9 = j := bst_eq
  generalize hS : on_st σ1 77 9 j = S at *
  by_cases ge : σ 77 7 ≤ j
  · have ev : bEye T (σ 77 7) j = -1 := by unfold bEye; rw [if_neg (by omega)]
    have k0 : bKd T (σ 77 7) j = 0 := by unfold bKd; rw [if_pos ge]
    have af : bAf T (σ 77 7) j = j := by unfold bAf; rw [if_pos ge]
    rw [ev, bEqT (by omega) rfl, bPt]
    exact ⟨_, rfl, fun c hc => by rw [bst_nc hc, f1 c hc], fun i h8 h9 h10 h11 => by rw [bst_ni h10, f2 i h8 h9], by rw [bst_ni (by omega)]; exact f9, by rw [bst_eq, k0], by rw [bst_ni (by omega), af]; exact f8, fun t => by rw [bst_eq] at t; omega⟩
  · have t := (hT.1 j (by omega) (by omega)).2
    have ee : bEye T (σ 77 7) j = if T j < 0 then T j + 256 else T j := by unfold bEye; rw [if_pos (by omega)]
    have ew : (97 ≤ bEye T (σ 77 7) j ∧ bEye T (σ 77 7) j ≤ 122) ↔ (97 ≤ T j ∧ T j ≤ 122) := by rw [ee]; split <;> omega
    have ed : (48 ≤ bEye T (σ 77 7) j ∧ bEye T (σ 77 7) j ≤ 57) ↔ (48 ≤ T j ∧ T j ≤ 57) := by rw [ee]; split <;> omega
    have es : bEye T (σ 77 7) j = 59 ↔ T j = 59 := by rw [ee]; split <;> omega
    have en : bEye T (σ 77 7) j ≠ -1 := by rw [ee]; split <;> omega
    have k7 : S 77 7 = σ 77 7 := f2 7 (by omega) (by omega)
    rw [bEqF (by omega) (by omega) en, bCk (by omega), bCl (m_in' (by omega) (by omega) (by omega)), bE01]
    by_cases z1 : 97 ≤ T j ∧ T j ≤ 122
    · have k1 : bKd T (σ 77 7) j = 1 := by unfold bKd; rw [if_neg ge, if_pos z1]
      have af : bAf T (σ 77 7) j = bEnd T 97 122 (σ 77 7 - j).toNat j := by
        unfold bAf
        rw [if_neg ge, if_pos z1, show (σ 77 7 - j).toNat = (σ 77 7 - (j + 1)).toNat + 1 by omega, bEnd, if_pos z1]
      obtain ⟨σ', b1, b2, b3, b4, b5⟩ := m_word (σ 77 7 - j).toNat on_N S T2 (by omega) (by omega) (by unfold on_N; omega)
      rw [if_pos (ew.mpr z1)]
      exact ⟨σ', b1, fun c hc => by rw [b2 c hc, f1 c hc], fun i h8 h9 h10 h11 => by rw [b3 i h8 h10, f2 i h8 h9], by rw [b3 9 (by omega) (by omega)]; exact f9, by rw [b5, k1], by rw [b4, f8, af], fun t => by omega⟩
    · rw [if_neg (fun t => z1 (ew.mp t)), bCk (by omega), bCl (m_in' (by omega) (by omega) (by omega)), bE01]
      by_cases z2 : 48 ≤ T j ∧ T j ≤ 57
      · have k2 : bKd T (σ 77 7) j = 2 := by unfold bKd; rw [if_neg ge, if_neg z1, if_pos z2]
        have af : bAf T (σ 77 7) j = bEnd T 48 57 (σ 77 7 - j).toNat j := by
          unfold bAf
          rw [if_neg ge, if_neg z1, if_pos z2, show (σ 77 7 - j).toNat = (σ 77 7 - (j + 1)).toNat + 1 by omega, bEnd, if_pos z2]
        obtain ⟨σ', b1, b2, b3, b4, b5, b6⟩ := m_digits (σ 77 7 - j).toNat on_N (on_st S 77 11 0) (T2.to (bst_nc (by omega)) (bst_ni (by omega))) (by rw [bst_ni (by omega)]; omega) (by rw [bst_ni (by omega), bst_ni (by omega)]; omega) (by rw [bst_eq]; omega) (by unfold on_N; omega)
        rw [bst_ni (by omega), f8] at b4 b6
        rw [bst_eq] at b6
        rw [if_pos (ed.mpr z2), bPt]
        exact ⟨σ', b1, fun c hc => by rw [b2 c hc, bst_nc hc, f1 c hc], fun i h8 h9 h10 h11 => by rw [b3 i h8 h10 h11, bst_ni h11, f2 i h8 h9], by rw [b3 9 (by omega) (by omega) (by omega), bst_ni (by omega)]; exact f9, by rw [b5, k2], by rw [b4, af], fun _ => b6⟩
      · have af : bAf T (σ 77 7) j = j + 1 := by unfold bAf; rw [if_neg ge, if_neg z1, if_neg z2]
        have sg : ∀ K : Int, (K ≠ 2) → bKd T (σ 77 7) j = K → ∃ σ' : on_S, pf_X12_advance_226 K S = some (0, σ') ∧ (∀ c, c ≠ 77 → σ' c = σ c) ∧ (∀ i, i ≠ 8 → i ≠ 9 → i ≠ 10 → i ≠ 11 → σ' 77 i = σ 77 i) ∧ σ' 77 9 = j ∧ σ' 77 10 = bKd T (σ 77 7) j ∧ σ' 77 8 = bAf T (σ 77 7) j ∧ (σ' 77 10 = 2 → σ' 77 11 = bVl 99999 T (σ 77 7 - j).toNat j 0) := by
          intro K kn kk
          refine ⟨on_st (on_st S 77 10 K) 77 8 (j + 1), ?_, fun c hc => by rw [bst_nc hc, bst_nc hc, f1 c hc], fun i h8 h9 h10 h11 => by rw [bst_ni h8, bst_ni h10, f2 i h8 h9], by rw [bst_ni (by omega), bst_ni (by omega)]; exact f9, by rw [bst_ni (by omega), bst_eq, kk], by rw [bst_eq, af], fun t => by rw [bst_ni (by omega), bst_eq] at t; exact absurd t kn⟩
          unfold pf_X12_advance_226
          rw [bPt, bGt, bst_ni (by omega), f8, bPt]
        rw [if_neg (fun t => z2 (ed.mp t))]
        by_cases z3 : T j = 59
        · rw [bEqT (by omega) (es.mpr z3)]
          exact sg 3 (by omega) (by unfold bKd; rw [if_neg ge, if_neg z1, if_neg z2, if_pos z3])
        · rw [bEqF (by omega) (by omega) (fun t => z3 (es.mp t))]
          exact sg 4 (by omega) (by unfold bKd; rw [if_neg ge, if_neg z1, if_neg z2, if_neg z3])
end O72
