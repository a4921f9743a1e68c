/-! B: the reference goes through the rows -/
/-- those from k on that may stand -/
def bCs (P : Int → Bool) : Nat → Int → List Int
  | 0, _ => []
  | r + 1, k => if P k then k :: bCs P r (k + 1) else bCs P r (k + 1)
def bCf (P : Int → Bool) (m k : Int) : List Int := bCs P (m - k).toNat k
theorem bCf_no {P : Int → Bool} {m k : Int} (h : m ≤ k) : bCf P m k = [] := by
  unfold bCf; rw [show (m - k).toNat = 0 by omega]; rfl
theorem bCf_go {P : Int → Bool} {m k : Int} (h : k < m) : bCf P m k = if P k then k :: bCf P m (k + 1) else bCf P m (k + 1) := by
  unfold bCf; rw [show (m - k).toNat = (m - (k + 1)).toNat + 1 by omega]; rfl
abbrev bQd := Int × Int × Int × Int
section R52
variable (ok : Int → Bool) (m : Int)
def bL3 (a b c k : Int) : List bQd := (bCf (fun d => ok d && (d != a) && (d != b) && (d != c)) m k).map fun d => (a, b, c, d)
def bL2 (a b k : Int) : List bQd := (bCf (fun d => ok d && (d != a) && (d != b)) m k).flatMap fun c => bL3 ok m a b c 0
def bL1 (a k : Int) : List bQd := (bCf (fun d => ok d && (d != a)) m k).flatMap fun b => bL2 ok m a b 0
def bL0 (k : Int) : List bQd := (bCf (fun d => ok d) m k).flatMap fun a => bL1 ok m a 0
/-- the rows still to come, at a corner -/
def bRm0 (p : Int → Int) : List bQd := bL0 ok m (p 0 + 1)
def bRm1 (p : Int → Int) : List bQd := bL1 ok m (p 0) (p 1 + 1) ++ bRm0 ok m p
def bRm2 (p : Int → Int) : List bQd := bL2 ok m (p 0) (p 1) (p 2 + 1) ++ bRm1 ok m p
def bRm3 (p : Int → Int) : List bQd := bL3 ok m (p 0) (p 1) (p 2) (p 3 + 1) ++ bRm2 ok m p
def bRmn (l : Int) (p : Int → Int) : List bQd := if l = 0 then bRm0 ok m p else if l = 1 then bRm1 ok m p else if l = 2 then bRm2 ok m p else if l = 3 then bRm3 ok m p else []
/-- who may stand at a corner, after those before -/
def bFq (l : Int) (p : Int → Int) (d : Int) : Bool := ok d && (decide (l ≤ 0) || (d != p 0)) && (decide (l ≤ 1) || (d != p 1)) && (decide (l ≤ 2) || (d != p 2))
theorem bRmn_none {l : Int} {p : Int → Int} (l0 : 0 ≤ l) (l4 : l < 4) (h : bCf (bFq ok l p) m (p l + 1) = []) : bRmn ok m l p = bRmn ok m (l - 1) p := by
  have c : l = 0 ∨ l = 1 ∨ l = 2 ∨ l = 3 := by omega
  rcases c with c | c | c | c <;> subst c
  · have e : bFq ok 0 p = fun d => ok d := by funext d; simp [bFq]
    rw [e] at h
    show bL0 ok m (p 0 + 1) = []
    unfold bL0; rw [h]; rfl
  · have e : bFq ok 1 p = fun d => ok d && (d != p 0) := by funext d; simp [bFq]
    rw [e] at h
    show bL1 ok m (p 0) (p 1 + 1) ++ bRm0 ok m p = bRm0 ok m p
    unfold bL1; rw [h]; rfl
  · have e : bFq ok 2 p = fun d => ok d && (d != p 0) && (d != p 1) := by funext d; simp [bFq]
    rw [e] at h
    show bL2 ok m (p 0) (p 1) (p 2 + 1) ++ bRm1 ok m p = bRm1 ok m p
    unfold bL2; rw [h]; rfl
  · have e : bFq ok 3 p = fun d => ok d && (d != p 0) && (d != p 1) && (d != p 2) := by funext d; simp [bFq]
    rw [e] at h
    show bL3 ok m (p 0) (p 1) (p 2) (p 3 + 1) ++ bRm2 ok m p = bRm2 ok m p
    unfold bL3; rw [h]; rfl
/-- a row made otherwise at one corner -/
def bPw (p : Int → Int) (l v : Int) : Int → Int := fun i => if i = l then v else p i
theorem bRmn_some {l x : Int} {t : List Int} {p p' : Int → Int} (l0 : 0 ≤ l) (l3 : l < 3) (h : bCf (bFq ok l p) m (p l + 1) = x :: t) (ht : t = bCf (bFq ok l p) m (x + 1)) (hp : ∀ i, i < l → p' i = p i) (hl : p' l = x) (hn : p' (l + 1) = -1) : bRmn ok m l p = bRmn ok m (l + 1) p' := by
  have c : l = 0 ∨ l = 1 ∨ l = 2 := by omega
  rcases c with c | c | c <;> subst c
  · have e : bFq ok 0 p = fun d => ok d := by funext d; simp [bFq]
    rw [e] at h ht
    rw [show (0 : Int) + 1 = 1 from rfl] at hn
    show bL0 ok m (p 0 + 1) = bL1 ok m (p' 0) (p' 1 + 1) ++ bL0 ok m (p' 0 + 1)
    rw [hl, hn, show (-1 : Int) + 1 = 0 from rfl]
    unfold bL0; rw [h, ht]; rfl
  · have e : bFq ok 1 p = fun d => ok d && (d != p 0) := by funext d; simp [bFq]
    rw [e] at h ht
    rw [show (1 : Int) + 1 = 2 from rfl] at hn
    show bL1 ok m (p 0) (p 1 + 1) ++ bL0 ok m (p 0 + 1) = bL2 ok m (p' 0) (p' 1) (p' 2 + 1) ++ (bL1 ok m (p' 0) (p' 1 + 1) ++ bL0 ok m (p' 0 + 1))
    rw [hl, hn, hp 0 (by omega), show (-1 : Int) + 1 = 0 from rfl, ← List.append_assoc]
    congr 1
    unfold bL1; rw [h, ht]; rfl
  · have e : bFq ok 2 p = fun d => ok d && (d != p 0) && (d != p 1) := by funext d; simp [bFq]
    rw [e] at h ht
    rw [show (2 : Int) + 1 = 3 from rfl] at hn
    show bL2 ok m (p 0) (p 1) (p 2 + 1) ++ (bL1 ok m (p 0) (p 1 + 1) ++ bL0 ok m (p 0 + 1)) = bL3 ok m (p' 0) (p' 1) (p' 2) (p' 3 + 1) ++ (bL2 ok m (p' 0) (p' 1) (p' 2 + 1) ++ (bL1 ok m (p' 0) (p' 1 + 1) ++ bL0 ok m (p' 0 + 1)))
    rw [hl, hn, hp 0 (by omega), hp 1 (by omega), show (-1 : Int) + 1 = 0 from rfl, ← List.append_assoc (bL3 ok m (p 0) (p 1) x 0)]
    congr 1
    unfold bL2; rw [h, ht]; rfl
theorem bRmn_last {x : Int} {t : List Int} {p p' : Int → Int} (h : bCf (bFq ok 3 p) m (p 3 + 1) = x :: t) (ht : t = bCf (bFq ok 3 p) m (x + 1)) (hp : ∀ i, i < 3 → p' i = p i) (hl : p' 3 = x) : bRmn ok m 3 p = (p' 0, p' 1, p' 2, p' 3) :: bRmn ok m 3 p' := by
  have e : bFq ok 3 p = fun d => ok d && (d != p 0) && (d != p 1) && (d != p 2) := by funext d; simp [bFq]
  rw [e] at h ht
  show bL3 ok m (p 0) (p 1) (p 2) (p 3 + 1) ++ (bL2 ok m (p 0) (p 1) (p 2 + 1) ++ (bL1 ok m (p 0) (p 1 + 1) ++ bL0 ok m (p 0 + 1))) = (p' 0, p' 1, p' 2, p' 3) :: (bL3 ok m (p' 0) (p' 1) (p' 2) (p' 3 + 1) ++ (bL2 ok m (p' 0) (p' 1) (p' 2 + 1) ++ (bL1 ok m (p' 0) (p' 1 + 1) ++ bL0 ok m (p' 0 + 1))))
  rw [hl, hp 0 (by omega), hp 1 (by omega), hp 2 (by omega)]
  unfold bL3; rw [h, ht]; rfl
end R52
/-- the steps that may still be made -/
def bFu (l : Int) (p : Int → Int) : Int := ((8 - p 0) * 912 + 1) + (if 1 ≤ l then (8 - p 1) * 101 + 1 else 0) + (if 2 ≤ l then (8 - p 2) * 11 + 1 else 0) + (if 3 ≤ l then (8 - p 3) + 1 else 0)
section N52
variable {σ : on_S} {ok : Int → Bool}
theorem m_isFreeTo (hm : 0 ≤ σ 78 3 ∧ σ 78 3 ≤ 9) (hok : ∀ d : Int, 0 ≤ d → d < σ 78 3 → pf_X12_isThere d σ = some (if ok d then 1 else 0, σ)) (hp : ∀ i : Int, 0 ≤ i → i < 4 → -1 ≤ σ 84 i ∧ σ 84 i < 9) {d l : Int} (d0 : 0 ≤ d) (d1 : d < σ 78 3) (l0 : 0 ≤ l) (l4 : l < 4) : pf_X12_isFreeTo d l σ = some (if bFq ok l (σ 84) d then 1 else 0, σ) := by
  have fin : on_Cl (pf_X12_isThere d σ) (fun v2 σ3 => on_Bz v2 σ3) = some (if ok d then 1 else 0, σ) := by
    rw [bCl (hok d d0 d1)]
    unfold on_Bz
    cases ok d <;> rfl
  have b0 := hp 0 (by omega) (by omega)
  have b1 := hp 1 (by omega) (by omega)
  have b2 := hp 2 (by omega) (by omega)
  unfold pf_X12_isFreeTo
  rw [show on_N = 99996 + 1 + 1 + 1 + 1 from rfl, pf_X12_isFreeTo_2]
  by_cases h0 : l = 0
  · subst h0
    rw [bLtF (by omega) (by omega) (by omega), fin]
    simp [bFq]
  · rw [bLtT (by omega) (by omega) (by omega), bRd (by omega) (by omega)]
    by_cases e0 : σ 84 0 = d
    · rw [bEqT (by omega) e0]
      rw [if_neg]
      simp [bFq, e0]; omega
    · rw [bEqF (by omega) (by omega) e0, show (0 : Int) + 1 = 1 from rfl, pf_X12_isFreeTo_2]
      by_cases h1 : l = 1
      · subst h1
        rw [bLtF (by omega) (by omega) (by omega), fin]
        have : d ≠ σ 84 0 := fun t => e0 t.symm
        simp [bFq, this]
      · rw [bLtT (by omega) (by omega) (by omega), bRd (by omega) (by omega)]
        by_cases e1 : σ 84 1 = d
        · rw [bEqT (by omega) e1]
          rw [if_neg]
          simp [bFq, e1]; omega
        · rw [bEqF (by omega) (by omega) e1, show (1 : Int) + 1 = 2 from rfl, pf_X12_isFreeTo_2]
          have n0 : d ≠ σ 84 0 := fun t => e0 t.symm
          have n1 : d ≠ σ 84 1 := fun t => e1 t.symm
          by_cases h2 : l = 2
          · subst h2
            rw [bLtF (by omega) (by omega) (by omega), fin]
            simp [bFq, n0, n1]
          · have l3 : l = 3 := by omega
            subst l3
            rw [bLtT (by omega) (by omega) (by omega), bRd (by omega) (by omega)]
            by_cases e2 : σ 84 2 = d
            · rw [bEqT (by omega) e2]
              rw [if_neg]
              simp [bFq, e2]
            · rw [bEqF (by omega) (by omega) e2, show (2 : Int) + 1 = 3 from rfl, pf_X12_isFreeTo_2, bLtF (by omega) (by omega) (by omega), fin]
              have n2 : d ≠ σ 84 2 := fun t => e2 t.symm
              simp [bFq, n0, n1, n2]
theorem bCs_head {P : Int → Bool} {m : Int} : ∀ (r : Nat) (k : Int), r = (m - k).toNat → (bCf P m k = [] ∨ ∃ x : Int, k ≤ x ∧ x < m ∧ P x = true ∧ bCf P m k = x :: bCf P m (x + 1)) := by
  intro r
  induction r with
  | zero => intro k h; exact Or.inl (bCf_no (by omega))
  | succ r ih =>
    intro k h
    rw [bCf_go (by omega)]
    by_cases e : P k = true
    · rw [if_pos e]; exact Or.inr ⟨k, by omega, by omega, e, rfl⟩
    · rw [if_neg e]
      rcases ih (k + 1) (by omega) with a | ⟨x, x0, x1, x2, x3⟩
      · exact Or.inl a
      · exact Or.inr ⟨x, by omega, x1, x2, x3⟩
def bHd (m : Int) : List Int → Int
  | [] => m
  | x :: _ => x
theorem m_scan (hm : 0 ≤ σ 78 3 ∧ σ 78 3 ≤ 9) (hok : ∀ d : Int, 0 ≤ d → d < σ 78 3 → pf_X12_isThere d σ = some (if ok d then 1 else 0, σ)) (hp : ∀ i : Int, 0 ≤ i → i < 4 → -1 ≤ σ 84 i ∧ σ 84 i < σ 78 3) {l : Int} (l0 : 0 ≤ l) (l4 : l < 4) (k2 : Int → on_S → Option on_O) : ∀ (r nf : Nat) (k : Int), 0 ≤ k → k + (r : Int) = σ 78 3 → r < nf → pf_X12_nextRow_15 k2 nf l k σ = pf_X12_nextRow_40 k2 l (bHd (σ 78 3) (bCf (bFq ok l (σ 84)) (σ 78 3) k)) σ := by
  intro r
  induction r with
  | zero =>
    intro nf k k0 hk hnf
    cases nf with
    | zero => omega
    | succ nf => rw [pf_X12_nextRow_15, bRd (by omega) (by omega), bLtF (by omega) (by omega) (by omega), bCf_no (by omega)]; rw [show k = σ 78 3 by omega]; rfl
  | succ r ih =>
    intro nf k k0 hk hnf
    cases nf with
    | zero => omega
    | succ nf =>
      rw [pf_X12_nextRow_15, bRd (by omega) (by omega), bLtT (by omega) (by omega) (by omega), bCl (m_isFreeTo hm hok (fun i i0 i4 => by have := hp i i0 i4; omega) k0 (by omega) l0 l4), bE01, bCf_go (by omega)]
      by_cases e : bFq ok l (σ 84) k = true
      · rw [if_pos e, if_pos e]; rfl
      · rw [if_neg e, if_neg e]
        exact ih nf (k + 1) (by omega) (by omega) (by omega)
theorem m_nextRow2 {w : bW} {S : Int} (hm : 0 ≤ w 3 ∧ w 3 ≤ 9) (hok : ∀ σ' : on_S, σ' 78 = w → σ' 77 18 = S → ∀ d : Int, 0 ≤ d → d < w 3 → pf_X12_isThere d σ' = some (if ok d then 1 else 0, σ')) : ∀ (nf : Nat) (l : Int) (σ : on_S), σ 78 = w → σ 77 18 = S → -1 ≤ l → l < 4 → (∀ i : Int, 0 ≤ i → i < 4 → -1 ≤ σ 84 i ∧ σ 84 i < w 3) → (if l < 0 then 0 else bFu l (σ 84)) < (nf : Int) → ∃ (v : Int) (σ' : on_S), pf_X12_nextRow_2 nf l σ = some (v, σ') ∧ (∀ c, c ≠ 84 → σ' c = σ c) ∧ (∀ i : Int, 0 ≤ i → i < 4 → -1 ≤ σ' 84 i ∧ σ' 84 i < w 3) ∧ ((v = 0 ∧ bRmn ok (w 3) l (σ 84) = []) ∨ (v = 1 ∧ bRmn ok (w 3) l (σ 84) = (σ' 84 0, σ' 84 1, σ' 84 2, σ' 84 3) :: bRmn ok (w 3) 3 (σ' 84))) := by
  intro nf
  induction nf with
  | zero =>
    intro l σ _ _ _ _ hp h
    exfalso
    split at h
    · omega
    · have a0 := hp 0 (by omega) (by omega)
      have a1 := hp 1 (by omega) (by omega)
      have a2 := hp 2 (by omega) (by omega)
      have a3 := hp 3 (by omega) (by omega)
      unfold bFu at h
      split at h <;> split at h <;> split at h <;> omega
  | succ nf ih =>
    intro l σ hw hS l0 l4 hp h
    by_cases hl : l < 0
    · refine ⟨0, σ, by rw [pf_X12_nextRow_2, bLtT (by omega) (by omega) hl], fun _ _ => rfl, hp, Or.inl ⟨rfl, ?_⟩⟩
      unfold bRmn
      rw [if_neg (by omega), if_neg (by omega), if_neg (by omega), if_neg (by omega)]
    · rw [if_neg hl] at h
      have pl := hp l (by omega) l4
      have a0 := hp 0 (by omega) (by omega)
      have a1 := hp 1 (by omega) (by omega)
      have a2 := hp 2 (by omega) (by omega)
      have a3 := hp 3 (by omega) (by omega)
      have ok1 := hok σ hw hS
      rw [pf_X12_nextRow_2, bLtF (by omega) (by omega) (by omega), bRd (by omega) (by omega), m_scan (ok := ok) (by rw [hw]; exact hm) (by rw [hw]; exact ok1) (by rw [hw]; exact hp) (by omega) l4 (pf_X12_nextRow_2 nf) (w 3 - (σ 84 l + 1)).toNat on_N (σ 84 l + 1) (by omega) (by rw [hw]; omega) (by unfold on_N; omega), hw]
      rcases bCs_head (P := bFq ok l (σ 84)) (m := w 3) _ (σ 84 l + 1) rfl with e | ⟨x, x0, x1, -, e⟩
      · -- none is left at this corner
        rw [e]
        unfold pf_X12_nextRow_40
        rw [bRd (by omega) (by omega), hw, show bHd (w 3) [] = w 3 from rfl, bEqT (by omega) rfl, bWr (by omega) (by omega)]
        have fu : (if l + -1 < 0 then 0 else bFu (l + -1) (on_st σ 84 l (-1) 84)) < (nf : Int) := by
          have c : l = 0 ∨ l = 1 ∨ l = 2 ∨ l = 3 := by omega
          rcases c with c | c | c | c <;> subst c
          · unfold bFu at h
            rw [if_neg (by omega), if_neg (by omega), if_neg (by omega)] at h
            rw [if_pos (by omega)]; omega
          · unfold bFu at h ⊢
            rw [if_pos (by omega), if_neg (by omega), if_neg (by omega)] at h
            rw [if_neg (by omega), if_neg (by omega), if_neg (by omega), if_neg (by omega), bst_ni (by omega)]; omega
          · unfold bFu at h ⊢
            rw [if_pos (by omega), if_pos (by omega), if_neg (by omega)] at h
            rw [if_neg (by omega), if_pos (by omega), if_neg (by omega), if_neg (by omega), bst_ni (by omega), bst_ni (by omega)]; omega
          · unfold bFu at h ⊢
            rw [if_pos (by omega), if_pos (by omega), if_pos (by omega)] at h
            rw [if_neg (by omega), if_pos (by omega), if_pos (by omega), if_neg (by omega), bst_ni (by omega), bst_ni (by omega), bst_ni (by omega)]; omega
        obtain ⟨v, σ', r1, r2, r3, r4⟩ := ih (l + -1) (on_st σ 84 l (-1)) (by rw [bst_nc (by omega)]; exact hw) (by rw [bst_nc (by omega)]; exact hS) (by omega) (by omega) (fun i i0 i4 => by
          rw [bst_if]; split
          · omega
          · exact hp i i0 i4) fu
        refine ⟨v, σ', r1, fun c hc => by rw [r2 c hc, bst_nc hc], r3, ?_⟩
        have rem : bRmn ok (w 3) l (σ 84) = bRmn ok (w 3) (l + -1) (on_st σ 84 l (-1) 84) := by
          rw [bRmn_none ok (w 3) (by omega) l4 e, show l - 1 = l + -1 by omega]
          have c : l = 0 ∨ l = 1 ∨ l = 2 ∨ l = 3 := by omega
          rcases c with c | c | c | c <;> subst c
          · rfl
          · show bRm0 ok (w 3) (σ 84) = bRm0 ok (w 3) (on_st σ 84 1 (-1) 84)
            unfold bRm0; rw [bst_ni (by omega)]
          · show bRm1 ok (w 3) (σ 84) = bRm1 ok (w 3) (on_st σ 84 2 (-1) 84)
            unfold bRm1 bRm0; rw [bst_ni (by omega), bst_ni (by omega)]
          · show bRm2 ok (w 3) (σ 84) = bRm2 ok (w 3) (on_st σ 84 3 (-1) 84)
            unfold bRm2 bRm1 bRm0; rw [bst_ni (by omega), bst_ni (by omega), bst_ni (by omega)]
        rw [rem]
        exact r4
      · rw [e]
        unfold pf_X12_nextRow_40
        rw [bRd (by omega) (by omega), hw, show bHd (w 3) (x :: bCf (bFq ok l (σ 84)) (w 3) (x + 1)) = x from rfl, bEqF (by omega) (by omega) (by omega), bWr (by omega) (by omega)]
        by_cases h3 : l = 3
        · subst h3
          rw [bEqT (by omega) rfl]
          refine ⟨1, on_st σ 84 3 x, rfl, fun c hc => bst_nc hc, fun i i0 i4 => ?_, Or.inr ⟨rfl, ?_⟩⟩
          · rw [bst_if]; split
            · omega
            · exact hp i i0 i4
          · exact bRmn_last ok (w 3) e rfl (fun i hi => bst_ni (by omega)) bst_eq
        · rw [bEqF (by omega) (by omega) h3, bWr (by omega) (by omega)]
          have g : ∀ i, i < l → on_st (on_st σ 84 l x) 84 (l + 1) (-1) 84 i = σ 84 i := fun i hi => by rw [bst_ni (by omega), bst_ni (by omega)]
          have gl : on_st (on_st σ 84 l x) 84 (l + 1) (-1) 84 l = x := by rw [bst_ni (by omega), bst_eq]
          have gn : on_st (on_st σ 84 l x) 84 (l + 1) (-1) 84 (l + 1) = -1 := bst_eq
          have fu : (if l + 1 < 0 then 0 else bFu (l + 1) (on_st (on_st σ 84 l x) 84 (l + 1) (-1) 84)) < (nf : Int) := by
            rw [if_neg (by omega)]
            have c : l = 0 ∨ l = 1 ∨ l = 2 := by omega
            rcases c with c | c | c <;> subst c
            · unfold bFu at h ⊢
              rw [if_neg (by omega), if_neg (by omega), if_neg (by omega)] at h
              have gn1 : on_st (on_st σ 84 0 x) 84 (0 + 1) (-1) 84 1 = -1 := gn
              rw [if_pos (by omega), if_neg (by omega), if_neg (by omega), gl, gn1]; omega
            · unfold bFu at h ⊢
              rw [if_pos (by omega), if_neg (by omega), if_neg (by omega)] at h
              rw [if_pos (by omega), if_pos (by omega), if_neg (by omega), g 0 (by omega), gl, show (2 : Int) = 1 + 1 from rfl, gn]; omega
            · unfold bFu at h ⊢
              rw [if_pos (by omega), if_pos (by omega), if_neg (by omega)] at h
              rw [if_pos (by omega), if_pos (by omega), if_pos (by omega), g 0 (by omega), g 1 (by omega), gl, show (3 : Int) = 2 + 1 from rfl, gn]; omega
          obtain ⟨v, σ', r1, r2, r3, r4⟩ := ih (l + 1) (on_st (on_st σ 84 l x) 84 (l + 1) (-1)) (by rw [bst_nc (by omega), bst_nc (by omega)]; exact hw) (by rw [bst_nc (by omega), bst_nc (by omega)]; exact hS) (by omega) (by omega) (fun i i0 i4 => by
            rw [bst_if]; split
            · omega
            · rw [bst_if]; split
              · omega
              · exact hp i i0 i4) fu
          refine ⟨v, σ', r1, fun c hc => by rw [r2 c hc, bst_nc hc, bst_nc hc], r3, ?_⟩
          rw [bRmn_some ok (w 3) (by omega) (by omega) e rfl g gl gn]
          exact r4
end N52
