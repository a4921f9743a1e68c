/-! B: street: both readers come upon the same tokens -/
def bSkp (T : Int → Int) : Nat → Int → Int
  | 0, i => i
  | r + 1, i => if T i = 32 ∨ T i = 10 then bSkp T r (i + 1) else i
def bEnd (T : Int → Int) (lo hi : Int) : Nat → Int → Int
  | 0, i => i
  | r + 1, i => if lo ≤ T i ∧ T i ≤ hi then bEnd T lo hi r (i + 1) else i
def bVl (cap : Int) (T : Int → Int) : Nat → Int → Int → Int
  | 0, _, v => v
  | r + 1, i, v => if 48 ≤ T i ∧ T i ≤ 57 then bVl cap T r (i + 1) (min cap (10 * v + T i - 48)) else v
/-- what kind of token begins at a place -/
def bKd (T : Int → Int) (n j : Int) : Int := if n ≤ j then 0 else if 97 ≤ T j ∧ T j ≤ 122 then 1 else if 48 ≤ T j ∧ T j ≤ 57 then 2 else if T j = 59 then 3 else 4
def bJt (T : Int → Int) (n a : Int) : Int := bSkp T (n - a).toNat a
/-- where it ends -/
def bAf (T : Int → Int) (n j : Int) : Int := if n ≤ j then j else if 97 ≤ T j ∧ T j ≤ 122 then bEnd T 97 122 (n - (j + 1)).toNat (j + 1) else if 48 ≤ T j ∧ T j ≤ 57 then bEnd T 48 57 (n - (j + 1)).toNat (j + 1) else j + 1
theorem bSkp_b (T : Int → Int) : ∀ (r : Nat) (i : Int), i ≤ bSkp T r i ∧ bSkp T r i ≤ i + (r : Int) := by
  intro r
  induction r with
  | zero => intro i; unfold bSkp; omega
  | succ r ih =>
    intro i
    unfold bSkp
    have := ih (i + 1)
    split <;> omega
theorem bEnd_b (T : Int → Int) (lo hi : Int) : ∀ (r : Nat) (i : Int), i ≤ bEnd T lo hi r i ∧ bEnd T lo hi r i ≤ i + (r : Int) := by
  intro r
  induction r with
  | zero => intro i; unfold bEnd; omega
  | succ r ih =>
    intro i
    unfold bEnd
    have := ih (i + 1)
    split <;> omega
theorem bVl_b {cap : Int} (hc : 0 ≤ cap) (T : Int → Int) : ∀ (r : Nat) (i v : Int), 0 ≤ v → v ≤ cap → 0 ≤ bVl cap T r i v ∧ bVl cap T r i v ≤ cap := by
  intro r
  induction r with
  | zero => intro i v h0 h1; exact ⟨h0, h1⟩
  | succ r ih =>
    intro i v h0 h1
    unfold bVl
    split
    · exact ih (i + 1) _ (by omega) (by omega)
    · exact ⟨h0, h1⟩
theorem bVl_two (T : Int → Int) : ∀ (r : Nat) (i u v : Int), 0 ≤ v → u = min 1000 v → bVl 1000 T r i u = min 1000 (bVl 99999 T r i v) := by
  intro r
  induction r with
  | zero => intro i u v h0 h; exact h
  | succ r ih =>
    intro i u v h0 h
    unfold bVl
    split
    · exact ih (i + 1) _ _ (by omega) (by omega)
    · exact h
theorem bJt_b {T : Int → Int} {n a : Int} (h : a ≤ n) : a ≤ bJt T n a ∧ bJt T n a ≤ n := by
  have := bSkp_b T (n - a).toNat a
  unfold bJt; omega
theorem bAf_b {T : Int → Int} {n j : Int} (h : j ≤ n) : (j ≤ bAf T n j ∧ bAf T n j ≤ n) ∧ (j < n → j < bAf T n j) := by
  have a := bEnd_b T 97 122 (n - (j + 1)).toNat (j + 1)
  have b := bEnd_b T 48 57 (n - (j + 1)).toNat (j + 1)
  unfold bAf
  split
  · omega
  · split
    · omega
    · split <;> omega
theorem bKd_b (T : Int → Int) (n j : Int) : 0 ≤ bKd T n j ∧ bKd T n j ≤ 4 := by
  unfold bKd
  split
  · omega
  · split
    · omega
    · split
      · omega
      · split <;> omega
theorem bAnd255 {x : Int} (h0 : -128 ≤ x) (h1 : x < 128) : on_and x 255 = if x < 0 then x + 256 else x := by
  have t : ∀ k : Nat, k < 256 → on_and ((k : Int) - 128) 255 = if (k : Int) - 128 < 0 then (k : Int) - 128 + 256 else (k : Int) - 128 := by decide +kernel
  have := t (x + 128).toNat (by omega)
  rw [show (((x + 128).toNat : Nat) : Int) - 128 = x by omega] at this
  exact this
section O71
variable {σ : on_S} {T : Int → Int} {n : Int}
theorem c_kindAt (hT : ∀ i : Int, 0 ≤ i → i < 1400 → -128 ≤ σ 1 i ∧ σ 1 i < 128) (hn : σ 52 2 ≤ 1400) {p : Int} (p0 : 0 ≤ p) (p1 : p ≤ σ 52 2) : pf_X6_kindAt p σ = some (bKd (σ 1) (σ 52 2) p, σ) := by
  unfold pf_X6_kindAt bKd
  rw [bGt]
  by_cases h : p < σ 52 2
  · have t := hT p p0 (by omega)
    have e45 : pf_X6_kindAt_45 (σ 1 p) σ = some (if σ 1 p = 59 then 3 else 4, σ) := by
      unfold pf_X6_kindAt_45
      by_cases z : σ 1 p = 59
      · rw [bEqT (by omega) z, if_pos z]
      · rw [bEqF (by omega) (by omega) z, if_neg z]
    have e31 : pf_X6_kindAt_31 (σ 1 p) σ = some (if 48 ≤ σ 1 p ∧ σ 1 p ≤ 57 then 2 else if σ 1 p = 59 then 3 else 4, σ) := by
      unfold pf_X6_kindAt_31
      by_cases z : σ 1 p < 48
      · rw [bLtT (by omega) (by omega) z, e45, if_neg (show ¬ (48 ≤ σ 1 p ∧ σ 1 p ≤ 57) by omega)]
      · rw [bLtF (by omega) (by omega) (by omega)]
        by_cases z' : σ 1 p ≤ 57
        · rw [bLeT (by omega) (by omega) z', if_pos (show 48 ≤ σ 1 p ∧ σ 1 p ≤ 57 by omega)]
        · rw [bLeF (by omega) (by omega) (by omega), e45, if_neg (show ¬ (48 ≤ σ 1 p ∧ σ 1 p ≤ 57) by omega)]
    rw [bLtT (by omega) (by omega) h, bRd p0 (by omega), if_neg (by omega)]
    by_cases z : σ 1 p < 97
    · rw [bLtT (by omega) (by omega) z, e31, if_neg (show ¬ (97 ≤ σ 1 p ∧ σ 1 p ≤ 122) by omega)]
    · rw [bLtF (by omega) (by omega) (by omega)]
      by_cases z' : σ 1 p ≤ 122
      · rw [bLeT (by omega) (by omega) z', if_pos (show 97 ≤ σ 1 p ∧ σ 1 p ≤ 122 by omega)]
      · rw [bLeF (by omega) (by omega) (by omega), e31, if_neg (show ¬ (97 ≤ σ 1 p ∧ σ 1 p ≤ 122) by omega)]
  · rw [bLtF (by omega) (by omega) (by omega), if_pos (by omega)]
/-- the class passes over what is blank -/
theorem c_skip : ∀ (r nf : Nat) (σ : on_S), (∀ i : Int, 0 ≤ i → i < 1400 → -128 ≤ σ 1 i ∧ σ 1 i < 128) → σ 52 2 ≤ 1400 → 0 ≤ σ 52 3 → σ 52 3 + (r : Int) = σ 52 2 → r < nf → ∃ σ' : on_S, pf_X6_readToken_0 nf σ = pf_X6_readToken_52 σ' ∧ (∀ c, c ≠ 52 → σ' c = σ c) ∧ (∀ i, i ≠ 3 → σ' 52 i = σ 52 i) ∧ σ' 52 3 = bSkp (σ 1) r (σ 52 3) := by
  intro r
  induction r with
  | zero =>
    intro nf σ hT hn h0 hr hnf
    cases nf with
    | zero => omega
    | succ nf => exact ⟨σ, by rw [pf_X6_readToken_0, bGt, bGt, bLtF (by omega) (by omega) (by omega)], fun _ _ => rfl, fun _ _ => rfl, rfl⟩
  | succ r ih =>
    intro nf σ hT hn h0 hr hnf
    cases nf with
    | zero => omega
    | succ nf =>
      have t := hT (σ 52 3) h0 (by omega)
      have go : ∃ σ' : on_S, pf_X6_readToken_39 (pf_X6_readToken_0 nf) σ = pf_X6_readToken_52 σ' ∧ (∀ c, c ≠ 52 → σ' c = σ c) ∧ (∀ i, i ≠ 3 → σ' 52 i = σ 52 i) ∧ σ' 52 3 = bSkp (σ 1) r (σ 52 3 + 1) := by
        obtain ⟨σ', a, b, c, d⟩ := ih nf (on_st σ 52 3 (σ 52 3 + 1)) (by rw [bst_nc (by omega)]; exact hT) (by rw [bst_ni (by omega)]; exact hn) (by rw [bst_eq]; omega) (by rw [bst_eq, bst_ni (by omega)]; omega) (by omega)
        refine ⟨σ', ?_, fun c hc => by rw [b c hc, bst_nc hc], fun i hi => by rw [c i hi, bst_ni hi], by rw [d, bst_eq, bst_nc (by omega)]⟩
        unfold pf_X6_readToken_39
        rw [bGt, bPt, a]
      rw [pf_X6_readToken_0, bGt, bGt, bLtT (by omega) (by omega) (by omega), bGt, bRd h0 (by omega), bSkp]
      by_cases z : σ 1 (σ 52 3) = 32
      · rw [bEqT (by omega) z, if_pos (Or.inl z)]; exact go
      · rw [bEqF (by omega) (by omega) z, bGt, bRd h0 (by omega)]
        by_cases z' : σ 1 (σ 52 3) = 10
        · rw [bEqT (by omega) z', if_pos (Or.inr z')]; exact go
        · rw [bEqF (by omega) (by omega) z', if_neg (by omega)]
          exact ⟨σ, rfl, fun _ _ => rfl, fun _ _ => rfl, rfl⟩
theorem c_word : ∀ (r nf : Nat) (σ : on_S), (∀ i : Int, 0 ≤ i → i < 1400 → -128 ≤ σ 1 i ∧ σ 1 i < 128) → σ 52 2 ≤ 1400 → 0 ≤ σ 52 3 → σ 52 3 + 1 + (r : Int) = σ 52 2 → σ 52 4 = 1 → r < nf → ∃ σ' : on_S, pf_X6_readToken_107 nf 1 σ = some (0, σ') ∧ (∀ c, c ≠ 52 → σ' c = σ c) ∧ (∀ i, i ≠ 3 → σ' 52 i = σ 52 i) ∧ σ' 52 3 = bEnd (σ 1) 97 122 r (σ 52 3 + 1) := by
  intro r
  induction r with
  | zero =>
    intro nf σ hT hn h0 hr hk hnf
    cases nf with
    | zero => omega
    | succ nf =>
      refine ⟨on_st σ 52 3 (σ 52 3 + 1), ?_, fun c hc => bst_nc hc, fun i hi => bst_ni hi, bst_eq⟩
      rw [pf_X6_readToken_107, bGt, hk, bEqF (by omega) (by omega) (by omega)]
      unfold pf_X6_readToken_145
      rw [bGt, bPt, bEqF (by omega) (by omega) (by omega), bGt, bst_eq, bGt, bst_ni (by omega), bLtF (by omega) (by omega) (by omega)]
  | succ r ih =>
    intro nf σ hT hn h0 hr hk hnf
    cases nf with
    | zero => omega
    | succ nf =>
      have kb := bKd_b (σ 1) (σ 52 2) (σ 52 3 + 1)
      have ke : bKd (σ 1) (σ 52 2) (σ 52 3 + 1) = 1 ↔ (97 ≤ σ 1 (σ 52 3 + 1) ∧ σ 1 (σ 52 3 + 1) ≤ 122) := by
        unfold bKd
        rw [if_neg (show ¬ σ 52 2 ≤ σ 52 3 + 1 by omega)]
        split
        · omega
        · split
          · omega
          · split <;> omega
      have ka := c_kindAt (σ := on_st σ 52 3 (σ 52 3 + 1)) (p := σ 52 3 + 1) (by rw [bst_nc (by omega)]; exact hT) (by rw [bst_ni (by omega)]; exact hn) (by omega) (by rw [bst_ni (by omega)]; omega)
      rw [bst_nc (by omega), bst_ni (by omega)] at ka
      rw [pf_X6_readToken_107, bGt, hk, bEqF (by omega) (by omega) (by omega)]
      unfold pf_X6_readToken_145
      rw [bGt, bPt, bEqF (by omega) (by omega) (by omega), bGt, bst_eq, bGt, bst_ni (by omega), bLtT (by omega) (by omega) (by omega), bGt, bst_eq, bCl ka, bGt, bst_ni (by omega), hk, bEnd]
      by_cases z : bKd (σ 1) (σ 52 2) (σ 52 3 + 1) = 1
      · rw [bEqT (by omega) z, if_pos (ke.mp z)]
        obtain ⟨σ', a, b, c, d⟩ := ih nf (on_st σ 52 3 (σ 52 3 + 1)) (by rw [bst_nc (by omega)]; exact hT) (by rw [bst_ni (by omega)]; exact hn) (by rw [bst_eq]; omega) (by rw [bst_eq, bst_ni (by omega)]; omega) (by rw [bst_ni (by omega)]; exact hk) (by omega)
        exact ⟨σ', a, fun c hc => by rw [b c hc, bst_nc hc], fun i hi => by rw [c i hi, bst_ni hi], by rw [d, bst_eq, bst_nc (by omega)]⟩
      · rw [bEqF (by omega) (by omega) z, if_neg (fun t => z (ke.mpr t))]
        exact ⟨_, rfl, fun c hc => bst_nc hc, fun i hi => bst_ni hi, bst_eq⟩
theorem c_digits : ∀ (r nf : Nat) (σ : on_S), (∀ i : Int, 0 ≤ i → i < 1400 → -128 ≤ σ 1 i ∧ σ 1 i < 128) → σ 52 2 ≤ 1400 → 0 ≤ σ 52 3 → σ 52 3 + 1 + (r : Int) = σ 52 2 → σ 52 4 = 2 → (0 ≤ σ 52 6 ∧ σ 52 6 ≤ 1000) → (48 ≤ σ 1 (σ 52 3) ∧ σ 1 (σ 52 3) ≤ 57) → r < nf → ∃ σ' : on_S, pf_X6_readToken_107 nf 1 σ = some (0, σ') ∧ (∀ c, c ≠ 52 → σ' c = σ c) ∧ (∀ i, i ≠ 3 → i ≠ 6 → σ' 52 i = σ 52 i) ∧ σ' 52 3 = bEnd (σ 1) 48 57 r (σ 52 3 + 1) ∧ σ' 52 6 = bVl 1000 (σ 1) (r + 1) (σ 52 3) (σ 52 6) := by
  intro r
  induction r with
  | zero =>
    intro nf σ hT hn h0 hr hk hv hd hnf
    cases nf with
    | zero => omega
    | succ nf =>
      refine ⟨on_st (on_st σ 52 6 (min 1000 (((σ 52 6 * 10) + σ 1 (σ 52 3)) - 48))) 52 3 (σ 52 3 + 1), ?_, fun c hc => by rw [bst_nc hc, bst_nc hc], fun i hi h6 => by rw [bst_ni hi, bst_ni h6], bst_eq, ?_⟩
      · rw [pf_X6_readToken_107, bGt, hk, bEqT (by omega) rfl, bGt, bGt, bRd h0 (by omega), bMn (by omega) (by omega), bPt]
        unfold pf_X6_readToken_145
        rw [bGt, bst_ni (by omega), bPt, bEqF (by omega) (by omega) (by omega), bGt, bst_eq, bGt, bst_ni (by omega), bst_ni (by omega), bLtF (by omega) (by omega) (by omega)]
      · rw [bst_ni (by omega), bst_eq, bVl, if_pos hd, bVl]; omega
  | succ r ih =>
    intro nf σ hT hn h0 hr hk hv hd hnf
    cases nf with
    | zero => omega
    | succ nf =>
      have kb := bKd_b (σ 1) (σ 52 2) (σ 52 3 + 1)
      have ke : bKd (σ 1) (σ 52 2) (σ 52 3 + 1) = 2 ↔ (48 ≤ σ 1 (σ 52 3 + 1) ∧ σ 1 (σ 52 3 + 1) ≤ 57) := by
        unfold bKd
        rw [if_neg (show ¬ σ 52 2 ≤ σ 52 3 + 1 by omega)]
        split
        · omega
        · split
          · omega
          · split <;> omega
      have e1 : on_st (on_st σ 52 6 (min 1000 (((σ 52 6 * 10) + σ 1 (σ 52 3)) - 48))) 52 3 (σ 52 3 + 1) 1 = σ 1 := by rw [bst_nc (by omega), bst_nc (by omega)]
      have e2 : on_st (on_st σ 52 6 (min 1000 (((σ 52 6 * 10) + σ 1 (σ 52 3)) - 48))) 52 3 (σ 52 3 + 1) 52 2 = σ 52 2 := by rw [bst_ni (by omega), bst_ni (by omega)]
      have e3 : on_st (on_st σ 52 6 (min 1000 (((σ 52 6 * 10) + σ 1 (σ 52 3)) - 48))) 52 3 (σ 52 3 + 1) 52 3 = σ 52 3 + 1 := bst_eq
      have e4 : on_st (on_st σ 52 6 (min 1000 (((σ 52 6 * 10) + σ 1 (σ 52 3)) - 48))) 52 3 (σ 52 3 + 1) 52 4 = 2 := by rw [bst_ni (by omega), bst_ni (by omega)]; exact hk
      have e6 : on_st (on_st σ 52 6 (min 1000 (((σ 52 6 * 10) + σ 1 (σ 52 3)) - 48))) 52 3 (σ 52 3 + 1) 52 6 = min 1000 (10 * σ 52 6 + σ 1 (σ 52 3) - 48) := by rw [bst_ni (by omega), bst_eq]; omega
      have fr : (∀ c, c ≠ 52 → on_st (on_st σ 52 6 (min 1000 (((σ 52 6 * 10) + σ 1 (σ 52 3)) - 48))) 52 3 (σ 52 3 + 1) c = σ c) ∧ ∀ i, i ≠ 3 → i ≠ 6 → on_st (on_st σ 52 6 (min 1000 (((σ 52 6 * 10) + σ 1 (σ 52 3)) - 48))) 52 3 (σ 52 3 + 1) 52 i = σ 52 i := ⟨fun c hc => by rw [bst_nc hc, bst_nc hc], fun i h3 h6 => by rw [bst_ni h3, bst_ni h6]⟩
      rw [pf_X6_readToken_107, bGt, hk, bEqT (by omega) rfl, bGt, bGt, bRd h0 (by omega), bMn (by omega) (by omega), bPt]
      unfold pf_X6_readToken_145
      rw [bGt, bst_ni (by omega), bPt]
      generalize hS : on_st (on_st σ 52 6 (min 1000 (((σ 52 6 * 10) + σ 1 (σ 52 3)) - 48))) 52 3 (σ 52 3 + 1) = S at *
      have ka := c_kindAt (σ := S) (p := σ 52 3 + 1) (by rw [e1]; exact hT) (by rw [e2]; exact hn) (by omega) (by rw [e2]; omega)
      rw [e1, e2] at ka
      rw [bEqF (by omega) (by omega) (by omega), bGt, e3, bGt, e2, bLtT (by omega) (by omega) (by omega), bGt, e3, bCl ka, bGt, e4, bEnd, bVl, if_pos hd]
      by_cases z : bKd (σ 1) (σ 52 2) (σ 52 3 + 1) = 2
      · rw [bEqT (by omega) z, if_pos (ke.mp z)]
        obtain ⟨σ', a, b, c, d, e⟩ := ih nf S (by rw [e1]; exact hT) (by rw [e2]; exact hn) (by omega) (by omega) e4 (by omega) (by rw [e1, e3]; exact ke.mp z) (by omega)
        rw [e1, e3] at d e
        rw [e6] at e
        exact ⟨σ', a, fun c hc => by rw [b c hc, fr.1 c hc], fun i h3 h6 => by rw [c i h3 h6, fr.2 i h3 h6], d, e⟩
      · rw [bEqF (by omega) (by omega) z, if_neg (fun t => z (ke.mpr t)), bVl, if_neg (fun t => z (ke.mpr t))]
        exact ⟨S, rfl, fr.1, fr.2, e3, e6⟩
theorem c_readToken (hT : ∀ i : Int, 0 ≤ i → i < 1400 → -128 ≤ σ 1 i ∧ σ 1 i < 128) (hn : σ 52 2 ≤ 1400) (h0 : 0 ≤ σ 52 3) (h1 : σ 52 3 ≤ σ 52 2) : ∃ σ' : on_S, pf_X6_readToken σ = some (0, σ') ∧ (∀ c, c ≠ 52 → σ' c = σ c) ∧ (∀ i, i ≠ 3 → i ≠ 4 → i ≠ 5 → i ≠ 6 → σ' 52 i = σ 52 i) ∧ σ' 52 5 = bJt (σ 1) (σ 52 2) (σ 52 3) ∧ σ' 52 4 = bKd (σ 1) (σ 52 2) (bJt (σ 1) (σ 52 2) (σ 52 3)) ∧ σ' 52 3 = bAf (σ 1) (σ 52 2) (bJt (σ 1) (σ 52 2) (σ 52 3)) ∧ (0 ≤ σ' 52 6 ∧ σ' 52 6 ≤ 1000) ∧ (σ' 52 4 = 2 → σ' 52 6 = bVl 1000 (σ 1) (σ 52 2 - bJt (σ 1) (σ 52 2) (σ 52 3)).toNat (bJt (σ 1) (σ 52 2) (σ 52 3)) 0) := by
  obtain ⟨σ1, a1, a2, a3, a4⟩ := c_skip (σ 52 2 - σ 52 3).toNat on_N σ hT hn h0 (by omega) (by unfold on_N; omega)
  have jb := bJt_b (T := σ 1) h1
  have ej : bSkp (σ 1) (σ 52 2 - σ 52 3).toNat (σ 52 3) = bJt (σ 1) (σ 52 2) (σ 52 3) := rfl
  rw [ej] at a4
  generalize hJ : bJt (σ 1) (σ 52 2) (σ 52 3) = j at *
  have kb := bKd_b (σ 1) (σ 52 2) j
  have e1 : on_st (on_st σ1 52 5 j) 52 6 0 1 = σ 1 := by rw [bst_nc (by omega), bst_nc (by omega)]; exact a2 1 (by omega)
  have e2 : on_st (on_st σ1 52 5 j) 52 6 0 52 2 = σ 52 2 := by rw [bst_ni (by omega), bst_ni (by omega)]; exact a3 2 (by omega)
  have ka := c_kindAt (σ := on_st (on_st σ1 52 5 j) 52 6 0) (p := j) (by rw [e1]; exact hT) (by rw [e2]; exact hn) (by omega) (by rw [e2]; omega)
  rw [e1, e2] at ka
  have f1 : ∀ c, c ≠ 52 → on_st (on_st (on_st σ1 52 5 j) 52 6 0) 52 4 (bKd (σ 1) (σ 52 2) j) c = σ c := fun c hc => by rw [bst_nc hc, bst_nc hc, bst_nc hc, a2 c hc]
  have f2 : ∀ i, i ≠ 3 → i ≠ 4 → i ≠ 5 → i ≠ 6 → on_st (on_st (on_st σ1 52 5 j) 52 6 0) 52 4 (bKd (σ 1) (σ 52 2) j) 52 i = σ 52 i := fun i h3 h4 h5 h6 => by rw [bst_ni h4, bst_ni h6, bst_ni h5, a3 i h3]
  have f3 : on_st (on_st (on_st σ1 52 5 j) 52 6 0) 52 4 (bKd (σ 1) (σ 52 2) j) 52 3 = j := by rw [bst_ni (by omega), bst_ni (by omega), bst_ni (by omega)]; exact a4
  have f4 : on_st (on_st (on_st σ1 52 5 j) 52 6 0) 52 4 (bKd (σ 1) (σ 52 2) j) 52 4 = bKd (σ 1) (σ 52 2) j := bst_eq
  have f5 : on_st (on_st (on_st σ1 52 5 j) 52 6 0) 52 4 (bKd (σ 1) (σ 52 2) j) 52 5 = j := by rw [bst_ni (by omega), bst_ni (by omega), bst_eq]
  have f6 : on_st (on_st (on_st σ1 52 5 j) 52 6 0) 52 4 (bKd (σ 1) (σ 52 2) j) 52 6 = 0 := by rw [bst_ni (by omega), bst_eq]
  unfold pf_X6_readToken
  rw [a1]
  unfold pf_X6_readToken_52
  rw [bGt, a4, bPt, bPt, bGt, show on_st (on_st σ1 52 5 j) 52 6 0 52 3 = j by rw [bst_ni (by omega), bst_ni (by omega)]; exact a4, bCl ka, bPt]
  generalize hS : on_st (on_st (on_st σ1 52 5 j) 52 6 0) 52 4 (bKd (σ 1) (σ 52 2) j) = S at *
  have S1 := f1 1 (by omega)
  have S2 := f2 2 (by omega) (by omega) (by omega) (by omega)
  rw [bGt, f4]
  by_cases k0 : bKd (σ 1) (σ 52 2) j = 0
  · have ge : σ 52 2 ≤ j := by
      unfold bKd at k0
      split at k0
      · assumption
      · split at k0
        · omega
        · split at k0
          · omega
          · split at k0 <;> omega
    rw [bEqT (by omega) k0]
    refine ⟨S, rfl, f1, f2, f5, f4, ?_, by omega, fun t => by omega⟩
    rw [f3]; unfold bAf; rw [if_pos ge]
  · have lt : j < σ 52 2 := by
      by_cases h : j < σ 52 2
      · exact h
      · exact absurd (by unfold bKd; rw [if_pos (by omega)]) k0
    rw [bEqF (by omega) (by omega) k0, bGt, f4]
    by_cases k1 : bKd (σ 1) (σ 52 2) j = 1
    · have le : 97 ≤ σ 1 j ∧ σ 1 j ≤ 122 := by
        unfold bKd at k1
        rw [if_neg (by omega)] at k1
        split at k1
        · assumption
        · split at k1
          · omega
          · split at k1 <;> omega
      obtain ⟨σ', b1, b2, b3, b4⟩ := c_word (σ 52 2 - (j + 1)).toNat on_N S (by rw [S1]; exact hT) (by omega) (by omega) (by omega) (by omega) (by unfold on_N; omega)
      rw [S1, f3] at b4
      rw [bEqT (by omega) k1]
      refine ⟨σ', b1, fun c hc => by rw [b2 c hc, f1 c hc], fun i h3 h4 h5 h6 => by rw [b3 i h3, f2 i h3 h4 h5 h6], by rw [b3 5 (by omega)]; exact f5, by rw [b3 4 (by omega)]; exact f4, ?_, by rw [b3 6 (by omega)]; omega, fun t => by rw [b3 4 (by omega)] at t; omega⟩
      rw [b4]; unfold bAf; rw [if_neg (by omega), if_pos le]
    · have nl : ¬ (97 ≤ σ 1 j ∧ σ 1 j ≤ 122) := fun t => k1 (by unfold bKd; rw [if_neg (by omega), if_pos t])
      rw [bEqF (by omega) (by omega) k1, bGt, f4]
      by_cases k2 : bKd (σ 1) (σ 52 2) j = 2
      · have le : 48 ≤ σ 1 j ∧ σ 1 j ≤ 57 := by
          unfold bKd at k2
          rw [if_neg (by omega), if_neg nl] at k2
          split at k2
          · assumption
          · split at k2 <;> omega
        obtain ⟨σ', b1, b2, b3, b4, b5⟩ := c_digits (σ 52 2 - (j + 1)).toNat on_N S (by rw [S1]; exact hT) (by omega) (by omega) (by omega) (by omega) (by omega) (by rw [S1, f3]; exact le) (by unfold on_N; omega)
        rw [S1, f3] at b4 b5
        rw [f6, show (σ 52 2 - (j + 1)).toNat + 1 = (σ 52 2 - j).toNat by omega] at b5
        have vb := bVl_b (cap := 1000) (by omega) (σ 1) (σ 52 2 - j).toNat j 0 (by omega) (by omega)
        rw [bEqT (by omega) k2]
        refine ⟨σ', b1, fun c hc => by rw [b2 c hc, f1 c hc], fun i h3 h4 h5 h6 => by rw [b3 i h3 h6, f2 i h3 h4 h5 h6], by rw [b3 5 (by omega) (by omega)]; exact f5, by rw [b3 4 (by omega) (by omega)]; exact f4, ?_, by rw [b5]; exact vb, fun _ => b5⟩
        rw [b4]; unfold bAf; rw [if_neg (by omega), if_neg nl, if_pos le]
      · have nd : ¬ (48 ≤ σ 1 j ∧ σ 1 j ≤ 57) := fun t => k2 (by unfold bKd; rw [if_neg (by omega), if_neg nl, if_pos t])
        rw [bEqF (by omega) (by omega) k2]
        unfold pf_X6_readToken_106
        rw [show on_N = 99999 + 1 from rfl, pf_X6_readToken_107, bGt, f4, bEqF (by omega) (by omega) k2]
        unfold pf_X6_readToken_145
        rw [bGt, f3, bPt, bEqT (by omega) rfl]
        refine ⟨_, rfl, fun c hc => by rw [bst_nc hc, f1 c hc], fun i h3 h4 h5 h6 => by rw [bst_ni h3, f2 i h3 h4 h5 h6], by rw [bst_ni (by omega)]; exact f5, by rw [bst_ni (by omega)]; exact f4, ?_, by rw [bst_ni (by omega)]; omega, fun t => by rw [bst_ni (by omega)] at t; omega⟩
        rw [bst_eq]; unfold bAf; rw [if_neg (by omega), if_neg nl, if_neg nd]
end O71
