/-! B: the alarm runs along the roads -/
def bEd (w : bW) (a b : Int) : Int := if a = b then 0 else if bRoad w a b = 0 then 1000000 else bRoad w a b
def bFw (k : Int) (d : Int → Int → Int) : Int → Int → Int := fun i j => min (d i j) (d i k + d k j)
def bDs (w : bW) : Int → Int → Int := bFw 3 (bFw 2 (bFw 1 (bFw 0 (bEd w))))
/-- a table of ways that may lead over those below K -/
def bWay (K : Int) (d : Int → Int → Int) : Prop := (∀ i j : Int, 0 ≤ i → i < 4 → 0 ≤ j → j < 4 → 0 ≤ d i j ∧ d i j ≤ 1000000) ∧ (∀ i : Int, 0 ≤ i → i < 4 → d i i = 0) ∧ ∀ m i j : Int, 0 ≤ m → m < K → 0 ≤ i → i < 4 → 0 ≤ j → j < 4 → d i j ≤ d i m + d m j
theorem bWay.step {k : Int} {d : Int → Int → Int} (k0 : 0 ≤ k) (k4 : k < 4) (h : bWay k d) : bWay (k + 1) (bFw k d) := by
  obtain ⟨h1, h2, h3⟩ := h
  have kk := h2 k k0 k4
  refine ⟨fun i j i0 i4 j0 j4 => ?_, fun i i0 i4 => ?_, fun m i j m0 mK i0 i4 j0 j4 => ?_⟩
  · have a := h1 i j i0 i4 j0 j4
    have b := h1 i k i0 i4 k0 k4
    have c := h1 k j k0 k4 j0 j4
    unfold bFw; omega
  · have a := h2 i i0 i4
    have b := h1 i k i0 i4 k0 k4
    have c := h1 k i k0 k4 i0 i4
    unfold bFw; omega
  · have ik := h1 i k i0 i4 k0 k4
    have kj := h1 k j k0 k4 j0 j4
    by_cases e : m = k
    · subst e
      unfold bFw; omega
    · have mk := h1 m k m0 (by omega) k0 k4
      have km := h1 k m k0 k4 m0 (by omega)
      have a := h3 m i j m0 (by omega) i0 i4 j0 j4
      have b := h3 m k j m0 (by omega) k0 k4 j0 j4
      have c := h3 m i k m0 (by omega) i0 i4 k0 k4
      unfold bFw; omega
theorem bFw_pot {k : Int} {d : Int → Int → Int} {g : Int → Int} (k0 : 0 ≤ k) (k4 : k < 4) (h : ∀ i j : Int, 0 ≤ i → i < 4 → 0 ≤ j → j < 4 → g i - g j ≤ d i j) : ∀ i j : Int, 0 ≤ i → i < 4 → 0 ≤ j → j < 4 → g i - g j ≤ bFw k d i j := by
  intro i j i0 i4 j0 j4
  have a := h i j i0 i4 j0 j4
  have b := h i k i0 i4 k0 k4
  have c := h k j k0 k4 j0 j4
  unfold bFw; omega
section D49
variable {w : bW}
theorem bEd_way (hk : bOk w) : bWay 0 (bEd w) := by
  refine ⟨fun i j i0 i4 j0 j4 => ?_, fun i i0 i4 => ?_, fun m i j m0 mK => by omega⟩
  · have := (hk.r i j i0 i4 j0 j4).1
    unfold bEd; split
    · omega
    · split <;> omega
  · unfold bEd; rw [if_pos rfl]
theorem bDs_way (hk : bOk w) : bWay 4 (bDs w) := ((((bEd_way hk).step (by omega) (by omega)).step (by omega) (by omega)).step (by omega) (by omega)).step (by omega) (by omega)
theorem bDs_pot {g : Int → Int} (h : ∀ i j : Int, 0 ≤ i → i < 4 → 0 ≤ j → j < 4 → g i - g j ≤ bEd w i j) : ∀ i j : Int, 0 ≤ i → i < 4 → 0 ≤ j → j < 4 → g i - g j ≤ bDs w i j :=
  bFw_pot (by omega) (by omega) (bFw_pot (by omega) (by omega) (bFw_pot (by omega) (by omega) (bFw_pot (by omega) (by omega) h)))
theorem bDs_le {i j : Int} : bDs w i j ≤ bEd w i j := by
  have f : ∀ (k : Int) (d : Int → Int → Int), bFw k d i j ≤ d i j := fun k d => by unfold bFw; omega
  exact Int.le_trans (f _ _) (Int.le_trans (f _ _) (Int.le_trans (f _ _) (f _ _)))
theorem bDs_tri (hk : bOk w) {a b c : Int} (a0 : 0 ≤ a) (a4 : a < 4) (b0 : 0 ≤ b) (b4 : b < 4) (c0 : 0 ≤ c) (c4 : c < 4) : bDs w a b ≤ bEd w a c + bDs w c b := by
  have x := (bDs_way hk).2.2 c a b c0 c4 a0 a4 b0 b4
  have y := bDs_le (w := w) (i := a) (j := c)
  omega
/-- who hears, hears from one that heard before -/
theorem bDs_pred (hk : bOk w) {a b : Int} (a0 : 0 ≤ a) (a4 : a < 4) (b0 : 0 ≤ b) (b4 : b < 4) (hn : a ≠ b) (hl : bDs w a b < 1000000) : ∃ c : Int, 0 ≤ c ∧ c < 4 ∧ 0 < bRoad w a c ∧ a ≠ c ∧ bDs w a b = bRoad w a c + bDs w c b := by
  apply Classical.byContradiction
  intro hno
  obtain ⟨g1, g2, g3⟩ := bDs_way hk
  have pot := bDs_pot (w := w) (g := fun x => if x = a then bDs w a b + 1 else bDs w x b) (fun i j i0 i4 j0 j4 => by
    show (if i = a then bDs w a b + 1 else bDs w i b) - (if j = a then bDs w a b + 1 else bDs w j b) ≤ bEd w i j
    have gj := g1 j b j0 j4 b0 b4
    have ab := g1 a b a0 a4 b0 b4
    have tri := bDs_tri hk i0 i4 b0 b4 j0 j4
    by_cases e : i = a
    · subst e
      rw [if_pos rfl]
      by_cases f : j = i
      · subst f; rw [if_pos rfl]; have := (bEd_way hk).1 j j j0 j4 j0 j4; omega
      · rw [if_neg f]
        have rd := (hk.r i j i0 i4 j0 j4).1
        by_cases z : bRoad w i j = 0
        · have : bEd w i j = 1000000 := by unfold bEd; rw [if_neg (fun t => f t.symm), if_pos z]
          omega
        · have ed : bEd w i j = bRoad w i j := by unfold bEd; rw [if_neg (fun t => f t.symm), if_neg z]
          have : ¬ (bDs w i b = bRoad w i j + bDs w j b) := fun t => hno ⟨j, j0, j4, by omega, fun t' => f t'.symm, t⟩
          omega
    · rw [if_neg e]
      by_cases f : j = a
      · subst f; rw [if_pos rfl]; omega
      · rw [if_neg f]; omega) a b a0 a4 b0 b4
  have bb := g2 b b0 b4
  have pot2 : (if a = a then bDs w a b + 1 else bDs w a b) - (if b = a then bDs w a b + 1 else bDs w b b) ≤ bDs w a b := pot
  rw [if_pos rfl, if_neg (fun t : b = a => hn t.symm)] at pot2
  omega
end D49
section O49
variable {n : Nat} {σ : on_S} {p q r : Int} {w : bW}
theorem bSame4 {x y : Int} : x = y ∨ x ≠ y := by omega
def bTab (d : Int → Int → Int) (s : Int → Int) : Prop := ∀ i j : Int, 0 ≤ i → i < 4 → 0 ≤ j → j < 4 → s ((i * 4) + j) = d i j
theorem c_stage {k : Int} {d : Int → Int → Int} (k0 : 0 ≤ k) (k4 : k < 4) (hd : bWay k d) (k68 : Int → on_S → Option on_O) : ∀ σ : on_S, bTab d (σ 64) → ∃ σ' : on_S, pf_X0_measure_75 k68 on_N k 0 σ = k68 (k + 1) σ' ∧ (∀ c, c ≠ 64 → σ' c = σ c) ∧ bTab (bFw k d) (σ' 64) := by
  intro σ hσ
  obtain ⟨h1, h2, h3⟩ := hd
  have kk := h2 k k0 k4
  have eik : ∀ i : Int, 0 ≤ i → i < 4 → bFw k d i k = d i k := fun i i0 i4 => by unfold bFw; omega
  have ekj : ∀ j : Int, 0 ≤ j → j < 4 → bFw k d k j = d k j := fun j j0 j4 => by unfold bFw; omega
  have L2 : ∀ (r nf : Nat) (i j : Int) (k75 : Int → Int → on_S → Option on_O) (σ' : on_S), 0 ≤ i → i < 4 → 0 ≤ j → j + (r : Int) = 4 → r < nf → (∀ c, c ≠ 64 → σ' c = σ c) → (∀ x y : Int, 0 ≤ x → x < 4 → 0 ≤ y → y < 4 → σ' 64 ((x * 4) + y) = if x < i ∨ (x = i ∧ y < j) then bFw k d x y else d x y) → ∃ σ'' : on_S, pf_X0_measure_82 k68 k75 nf k i j σ' = k75 k (i + 1) σ'' ∧ (∀ c, c ≠ 64 → σ'' c = σ c) ∧ (∀ x y : Int, 0 ≤ x → x < 4 → 0 ≤ y → y < 4 → σ'' 64 ((x * 4) + y) = if x < i + 1 then bFw k d x y else d x y) := by
    intro r
    induction r with
    | zero =>
      intro nf i j k75 σ' i0 i4 j0 hj hnf g1 g2
      cases nf with
      | zero => omega
      | succ nf =>
        refine ⟨σ', by rw [pf_X0_measure_82, bLtF (by omega) (by omega) (by omega)], g1, fun x y x0 x4 y0 y4 => ?_⟩
        rw [g2 x y x0 x4 y0 y4]
        by_cases e : x < i + 1
        · rw [if_pos (by omega), if_pos e]
        · rw [if_neg (by omega), if_neg e]
    | succ r ih =>
      intro nf i j k75 σ' i0 i4 j0 hj hnf g1 g2
      cases nf with
      | zero => omega
      | succ nf =>
        have r1 : σ' 64 ((i * 4) + k) = d i k := by
          rw [g2 i k i0 i4 k0 k4]
          split
          · exact eik i i0 i4
          · rfl
        have r2 : σ' 64 ((k * 4) + j) = d k j := by
          rw [g2 k j k0 k4 j0 (by omega)]
          split
          · exact ekj j j0 (by omega)
          · rfl
        have r3 : σ' 64 ((i * 4) + j) = d i j := by
          rw [g2 i j i0 i4 j0 (by omega), if_neg (by omega)]
        have b1 := h1 i k i0 i4 k0 k4
        have b2 := h1 k j k0 k4 j0 (by omega)
        have b3 := h1 i j i0 i4 j0 (by omega)
        rw [pf_X0_measure_82, bLtT (by omega) (by omega) (by omega), bRd (by omega) (by omega), bRd (by omega) (by omega), bRd (by omega) (by omega), r1, r2, r3, bMn (by omega) (by omega), bWr (by omega) (by omega)]
        refine ih nf i (j + 1) k75 _ i0 i4 (by omega) (by omega) (by omega) (fun c hc => by rw [bst_nc hc]; exact g1 c hc) (fun x y x0 x4 y0 y4 => ?_)
        rw [bst_if]
        by_cases e : x = i ∧ y = j
        · obtain ⟨e1, e2⟩ := e
          subst e1; subst e2
          rw [if_pos rfl, if_pos (by omega)]; rfl
        · rw [if_neg (by omega), g2 x y x0 x4 y0 y4]
          by_cases f : x < i ∨ (x = i ∧ y < j)
          · rw [if_pos f, if_pos (by omega)]
          · rw [if_neg f, if_neg (by omega)]
  have L1 : ∀ (r nf : Nat) (i : Int) (σ' : on_S), 0 ≤ i → i + (r : Int) = 4 → r < nf → (∀ c, c ≠ 64 → σ' c = σ c) → (∀ x y : Int, 0 ≤ x → x < 4 → 0 ≤ y → y < 4 → σ' 64 ((x * 4) + y) = if x < i then bFw k d x y else d x y) → ∃ σ'' : on_S, pf_X0_measure_75 k68 nf k i σ' = k68 (k + 1) σ'' ∧ (∀ c, c ≠ 64 → σ'' c = σ c) ∧ bTab (bFw k d) (σ'' 64) := by
    intro r
    induction r with
    | zero =>
      intro nf i σ' i0 hi hnf g1 g2
      cases nf with
      | zero => omega
      | succ nf =>
        refine ⟨σ', by rw [pf_X0_measure_75, bLtF (by omega) (by omega) (by omega)], g1, fun x y x0 x4 y0 y4 => ?_⟩
        rw [g2 x y x0 x4 y0 y4, if_pos (by omega)]
    | succ r ih =>
      intro nf i σ' i0 hi hnf g1 g2
      cases nf with
      | zero => omega
      | succ nf =>
        obtain ⟨σ2, a1, a2, a3⟩ := L2 4 on_N i 0 (pf_X0_measure_75 k68 nf) σ' i0 (by omega) (by omega) (by omega) (by unfold on_N; omega) g1 (fun x y x0 x4 y0 y4 => by
          rw [g2 x y x0 x4 y0 y4]
          by_cases e : x < i
          · rw [if_pos e, if_pos (by omega)]
          · rw [if_neg e, if_neg (by omega)])
        rw [pf_X0_measure_75, bLtT (by omega) (by omega) (by omega), a1]
        exact ih nf (i + 1) σ2 (by omega) (by omega) (by omega) a2 a3
  exact L1 4 on_N 0 σ (by omega) (by omega) (by unfold on_N; omega) (fun _ _ => rfl) (fun x y x0 x4 y0 y4 => by rw [hσ x y x0 x4 y0 y4, if_neg (by omega)])
theorem c_roads (hk : bOk w) (hR : bRp 2 w σ) : ∃ σ' : on_S, pf_X0_measure σ = some (0, σ') ∧ (∀ c, c ≠ 64 → σ' c = σ c) ∧ bTab (bDs w) (σ' 64) := by
  have L : ∀ (r nf : Nat) (k : Int) (σ' : on_S), 0 ≤ k → k + (r : Int) = 16 → r < nf → (∀ c, c ≠ 64 → σ' c = σ c) → (∀ i : Int, 0 ≤ i → i < k → σ' 64 i = bEd w (i / 4) (i % 4)) → ∃ σ'' : on_S, pf_X0_measure_2 nf k σ' = pf_X0_measure_68 on_N 0 σ'' ∧ (∀ c, c ≠ 64 → σ'' c = σ c) ∧ bTab (bEd w) (σ'' 64) := by
    intro r
    induction r with
    | zero =>
      intro nf k σ' k0 hk' hnf h1 h2
      cases nf with
      | zero => omega
      | succ nf =>
        refine ⟨σ', by rw [pf_X0_measure_2, bLtF (by omega) (by omega) (by omega)], h1, fun i j i0 i4 j0 j4 => ?_⟩
        rw [h2 _ (by omega) (by omega), show (i * 4 + j) / 4 = i by omega, show (i * 4 + j) % 4 = j by omega]
    | succ r ih =>
      intro nf k σ' k0 hk' hnf h1 h2
      cases nf with
      | zero => omega
      | succ nf =>
        have rd : σ' (2 + 7) k = bRoad w (k / 4) (k % 4) := by
          rw [h1 (2 + 7) (by omega)]
          have := (hR.f (k / 4) (k % 4) (by omega) (by omega) (by omega) (by omega)).2
          rw [show k / 4 * 4 + k % 4 = k by omega] at this
          exact this
        have rb := (hk.r (k / 4) (k % 4) (by omega) (by omega) (by omega) (by omega)).1
        have go : ∀ v : Int, v = bEd w (k / 4) (k % 4) → ∃ σ'' : on_S, pf_X0_measure_59 (pf_X0_measure_2 nf) k k v σ' = pf_X0_measure_68 on_N 0 σ'' ∧ (∀ c, c ≠ 64 → σ'' c = σ c) ∧ bTab (bEd w) (σ'' 64) := by
          intro v hv
          unfold pf_X0_measure_59
          rw [bWr (by omega) (by omega)]
          refine ih nf (k + 1) _ (by omega) (by omega) (by omega) (fun c hc => by rw [bst_nc hc]; exact h1 c hc) (fun i i0 i1 => ?_)
          rw [bst_if]
          by_cases e : i = k
          · rw [if_pos e, e, hv]
          · rw [if_neg e]; exact h2 i i0 (by omega)
        rw [pf_X0_measure_2, bLtT (by omega) (by omega) (by omega), bDv k0 (by omega) (by omega) (by omega), bRm k0 (by omega) (by omega) (by omega)]
        by_cases e : k / 4 = k % 4
        · rw [bEqT (by omega) e]
          unfold pf_X0_measure_25
          rw [bRd (by omega) (by omega), bEqF (by omega) (by omega) (by omega)]
          exact go 0 (by unfold bEd; rw [if_pos e])
        · rw [bEqF (by omega) (by omega) e]
          unfold pf_X0_measure_25
          rw [bRd (by omega) (by omega), bEqT (by omega) rfl, rd]
          by_cases z : bRoad w (k / 4) (k % 4) = 0
          · rw [bEqT (by omega) z]
            exact go 1000000 (by unfold bEd; rw [if_neg e, if_pos z])
          · rw [bEqF (by omega) (by omega) z]
            exact go _ (by unfold bEd; rw [if_neg e, if_neg z])
  obtain ⟨σ0, a1, a2, a3⟩ := L 16 on_N 0 σ (by omega) (by omega) (by unfold on_N; omega) (fun _ _ => rfl) (fun i i0 i1 => by omega)
  have w0 := bEd_way hk
  have w1 := w0.step (by omega) (by omega)
  have w2 := w1.step (by omega) (by omega)
  have w3 := w2.step (by omega) (by omega)
  obtain ⟨σ1, b1, b2, b3⟩ := c_stage (by omega) (by omega) w0 (pf_X0_measure_68 (99995 + 1 + 1 + 1 + 1)) σ0 a3
  obtain ⟨σ2, c1, c2, c3⟩ := c_stage (by omega) (by omega) w1 (pf_X0_measure_68 (99995 + 1 + 1 + 1)) σ1 b3
  obtain ⟨σ3, d1, d2, d3⟩ := c_stage (by omega) (by omega) w2 (pf_X0_measure_68 (99995 + 1 + 1)) σ2 c3
  obtain ⟨σ4, e1, e2, e3⟩ := c_stage (by omega) (by omega) w3 (pf_X0_measure_68 (99995 + 1)) σ3 d3
  refine ⟨σ4, ?_, fun c hc => by rw [e2 c hc, d2 c hc, c2 c hc, b2 c hc, a2 c hc], e3⟩
  show pf_X0_measure_2 on_N 0 σ = _
  rw [a1, show pf_X0_measure_68 on_N 0 σ0 = pf_X0_measure_68 (99995 + 1 + 1 + 1 + 1 + 1) 0 σ0 from rfl, pf_X0_measure_68, bLtT (by omega) (by omega) (by omega), b1, pf_X0_measure_68, bLtT (by omega) (by omega) (by omega), c1, pf_X0_measure_68, bLtT (by omega) (by omega) (by omega), d1, pf_X0_measure_68, bLtT (by omega) (by omega) (by omega), e1, pf_X0_measure_68, bLtF (by omega) (by omega) (by omega)]
end O49
