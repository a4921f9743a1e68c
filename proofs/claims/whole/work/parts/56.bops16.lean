/-! B: best, post -/
section O56
variable {n : Nat} {σ : on_S} {p q : Int} {w : bW}
/-- the class has made ready a net at a window -/
def bRdy (w : bW) (n x : Int) (σ : on_S) : Prop := σ 55 4 = bKl w n ∧ ∀ m : Int, 0 ≤ m → m < w 3 → σ 57 m = bGv w x m
theorem c_prepare (hk : bOk w) (hR : bRp 2 w σ) {n x : Int} (n0 : 0 ≤ n) (n1 : n < w 4) (x0 : 0 ≤ x) (x1 : x < w 2) : ∃ σ' : on_S, pf_X7_prepare n x σ = some (0, σ') ∧ (∀ c, c ≠ 55 → c ≠ 57 → σ' c = σ c) ∧ bRdy w n x σ' := by
  obtain ⟨q0, q1, q2, q3, q4, q5, q6, q7⟩ := hk.c
  have hn := (hk.n n n0 n1).2.2.1
  have e3 : σ (2 + 8) 0 = w 3 := hR.c.2.2.2.2.2.1
  have k0 := bKn_b hk (wet := bNet w n 2) n0 n1 (show (0 : Int) ≤ 0 by omega) (by omega)
  have k1 := bKn_b hk (wet := bNet w n 2) n0 n1 (show (0 : Int) ≤ 1 by omega) (by omega)
  have k2 := bKn_b hk (wet := bNet w n 2) n0 n1 (show (0 : Int) ≤ 2 by omega) (by omega)
  have k3 := bKn_b hk (wet := bNet w n 2) n0 n1 (show (0 : Int) ≤ 3 by omega) (by omega)
  have knot : ∀ (σ' : on_S) (nf : Nat) (c v : Int), bRp 2 w σ' → 0 ≤ c → c < 4 → σ' 55 4 = v → (0 ≤ v ∧ v ≤ 99) → pf_X7_prepare_64 (nf + 1) n c σ' = pf_X7_prepare_64 nf n (c + 1) (on_st σ' 55 4 (min v (bKn w n (bNet w n 2) c))) := by
    intro σ' nf c v hR' c0 c1 hv hvb
    have kc := bKn_b hk (wet := bNet w n 2) n0 n1 c0 c1
    rw [pf_X7_prepare_64, bLtT (by omega) (by omega) c1, bGt, bRd n0 (by omega), (hR'.n n n0 n1).2.2.1, bCl (c_knotIf hk hR' n0 n1 c0 c1 (by omega)), hv, bMn (by omega) (by omega), bPt]
  have L : ∀ (r nf : Nat) (k : Int) (σ' : on_S), 0 ≤ k → k + (r : Int) = w 3 → r < nf → (∀ c, c ≠ 57 → σ' c = σ c) → (∀ m : Int, 0 ≤ m → m < k → σ' 57 m = bGv w x m) → ∃ σ'' : on_S, pf_X7_prepare_2 nf n x k σ' = pf_X7_prepare_64 on_N n 0 (on_st σ'' 55 4 99) ∧ (∀ c, c ≠ 57 → σ'' c = σ c) ∧ (∀ m : Int, 0 ≤ m → m < w 3 → σ'' 57 m = bGv w x m) := by
    intro r
    induction r with
    | zero =>
      intro nf k σ' k0 hk' hnf h1 h2
      cases nf with
      | zero => omega
      | succ nf => exact ⟨σ', by rw [pf_X7_prepare_2, bGt, h1 (2 + 8) (by omega), e3, bLtF (by omega) (by omega) (by omega), bPt], h1, fun m m0 m1 => h2 m m0 (by omega)⟩
    | succ r ih =>
      intro nf k σ' k0 hk' hnf h1 h2
      cases nf with
      | zero => omega
      | succ nf =>
        have R1 : bRp 2 w σ' := hR.to fun j hj => h1 _ (by omega)
        have go : ∀ v : Int, v = bGv w x k → ∃ σ'' : on_S, pf_X7_prepare_49 (pf_X7_prepare_2 nf) n x k k v σ' = pf_X7_prepare_64 on_N n 0 (on_st σ'' 55 4 99) ∧ (∀ c, c ≠ 57 → σ'' c = σ c) ∧ (∀ m : Int, 0 ≤ m → m < w 3 → σ'' 57 m = bGv w x m) := by
          intro v hv
          unfold pf_X7_prepare_49
          rw [bWr k0 (by omega)]
          refine ih nf (k + 1) _ (by omega) (by omega) (by omega) (fun c hc => by rw [bst_nc hc]; exact h1 c hc) (fun m m0 m1 => ?_)
          rw [bst_if]
          by_cases e : m = k
          · rw [if_pos e, hv, e]
          · rw [if_neg e]; exact h2 m m0 (by omega)
        rw [pf_X7_prepare_2, bGt, h1 (2 + 8) (by omega), e3, bLtT (by omega) (by omega) (by omega), bCl (c_willHold hk R1 k0 (by omega) x0 x1), bE01]
        by_cases h : bWill w k x
        · rw [if_pos h, bRd k0 (by omega), (R1.m k k0 (by omega)).2.1]
          exact go _ (by unfold bGv; rw [if_pos h])
        · rw [if_neg h]
          exact go 0 (by unfold bGv; rw [if_neg h])
  obtain ⟨σ1, a1, a2, a3⟩ := L (w 3).toNat on_N 0 σ (by omega) (by omega) (by unfold on_N; omega) (fun _ _ => rfl) (fun m m0 m1 => by omega)
  have R1 : bRp 2 w σ1 := hR.to fun j hj => a2 _ (by omega)
  have rp : ∀ (σ' : on_S) (v : Int), bRp 2 w σ' → bRp 2 w (on_st σ' 55 4 v) := fun σ' v h => h.to fun j hj => bst_nc (by omega)
  refine ⟨on_st (on_st (on_st (on_st (on_st σ1 55 4 99) 55 4 (min 99 (bKn w n (bNet w n 2) 0))) 55 4 (min (min 99 (bKn w n (bNet w n 2) 0)) (bKn w n (bNet w n 2) 1))) 55 4 (min (min (min 99 (bKn w n (bNet w n 2) 0)) (bKn w n (bNet w n 2) 1)) (bKn w n (bNet w n 2) 2))) 55 4 (min (min (min (min 99 (bKn w n (bNet w n 2) 0)) (bKn w n (bNet w n 2) 1)) (bKn w n (bNet w n 2) 2)) (bKn w n (bNet w n 2) 3)), ?_, fun c c5 c7 => by rw [bst_nc c5, bst_nc c5, bst_nc c5, bst_nc c5, bst_nc c5, a2 c c7], bst_eq, fun m m0 m1 => ?_⟩
  · unfold pf_X7_prepare
    rw [a1, show on_N = 99995 + 1 + 1 + 1 + 1 + 1 from rfl, knot _ _ 0 99 (rp _ _ R1) (by omega) (by omega) bst_eq (by omega), show (0 : Int) + 1 = 1 from rfl, knot _ _ 1 _ (rp _ _ (rp _ _ R1)) (by omega) (by omega) bst_eq (by omega), show (1 : Int) + 1 = 2 from rfl, knot _ _ 2 _ (rp _ _ (rp _ _ (rp _ _ R1))) (by omega) (by omega) bst_eq (by omega), show (2 : Int) + 1 = 3 from rfl, knot _ _ 3 _ (rp _ _ (rp _ _ (rp _ _ (rp _ _ R1)))) (by omega) (by omega) bst_eq (by omega), pf_X7_prepare_64, bLtF (by omega) (by omega) (by omega)]
  · rw [bst_nc (by omega), bst_nc (by omega), bst_nc (by omega), bst_nc (by omega), bst_nc (by omega)]
    exact a3 m m0 m1
theorem bKl_b (hk : bOk w) {n : Int} (n0 : 0 ≤ n) (n1 : n < w 4) : 0 ≤ bKl w n ∧ bKl w n ≤ 99 := by
  have k0 := bKn_b hk (wet := bNet w n 2) n0 n1 (show (0 : Int) ≤ 0 by omega) (by omega)
  have k1 := bKn_b hk (wet := bNet w n 2) n0 n1 (show (0 : Int) ≤ 1 by omega) (by omega)
  have k2 := bKn_b hk (wet := bNet w n 2) n0 n1 (show (0 : Int) ≤ 2 by omega) (by omega)
  have k3 := bKn_b hk (wet := bNet w n 2) n0 n1 (show (0 : Int) ≤ 3 by omega) (by omega)
  unfold bKl; omega
theorem c_manOf {i : Nat} (hi : i < 378) {c : Int} (c0 : 0 ≤ c) (c4 : c < 4) : pf_X7_manOf (bRow i) c σ = some (bQp (bDec (on_rowsT.getD i 0)) c, σ) := by
  have h := bRows_dec i hi
  unfold pf_X7_manOf
  rw [h]
  have d : c = 0 ∨ c = 1 ∨ c = 2 ∨ c = 3 := by omega
  rcases d with d | d | d | d <;> subst d <;> rfl
theorem c_isThereR (hR : bRp 2 w σ) (hk : bOk w) {i : Nat} (hi : i < 378) : pf_X7_isThere (bRow i) σ = some (if bPre (w 3) (bDec (on_rowsT.getD i 0)) then 1 else 0, σ) := by
  have hm := hk.c.2.2.2.1
  have e3 : σ (2 + 8) 0 = w 3 := hR.c.2.2.2.2.2.1
  have h := bRows_dec i hi
  unfold pf_X7_isThere pf_X7_isThere_40 bPre
  rw [h, bRows_low i hi, bGt, e3]
  simp only
  have r2 := on_and_R (on_shr (bRow i) 4) 15
  have r3 := on_and_R (on_shr (bRow i) 0) 15
  by_cases a : on_and (on_shr (bRow i) 4) 15 < w 3
  · rw [bLtT r2 (by omega) a, bGt, e3]
    by_cases b : on_and (on_shr (bRow i) 0) 15 < w 3
    · rw [bLtT r3 (by omega) b, if_pos (by simp [a, b])]
    · rw [bLtF r3 (by omega) (by omega), if_neg (by simp [a, b])]
  · rw [bLtF r2 (by omega) (by omega), if_neg (by simp [a])]
theorem c_carriedBy (hk : bOk w) (hR : bRp 2 w σ) {n x : Int} (n0 : 0 ≤ n) (n1 : n < w 4) (hY : bRdy w n x σ) {i : Nat} (hi : i < 378) (hv : bVr (fun _ => true) (w 3) (bDec (on_rowsT.getD i 0))) : pf_X7_carriedBy (bRow i) σ = some (bCv w n x (bDec (on_rowsT.getD i 0)), σ) := by
  have hm := hk.c.2.2.2.1
  have kb := bKl_b hk n0 n1
  have m0 := c_manOf (σ := σ) hi (c := 0) (by omega) (by omega)
  have m1 := c_manOf (σ := σ) hi (c := 1) (by omega) (by omega)
  have m2 := c_manOf (σ := σ) hi (c := 2) (by omega) (by omega)
  have m3 := c_manOf (σ := σ) hi (c := 3) (by omega) (by omega)
  generalize hr : bDec (on_rowsT.getD i 0) = r at *
  obtain ⟨a, b, c, d⟩ := r
  obtain ⟨⟨h1, -⟩, ⟨h2, -⟩, ⟨h3, -⟩, ⟨h4, -⟩, -⟩ := hv
  simp only at h1 h2 h3 h4
  rw [show bQp (a, b, c, d) 0 = a from rfl] at m0
  rw [show bQp (a, b, c, d) 1 = b from rfl] at m1
  rw [show bQp (a, b, c, d) 2 = c from rfl] at m2
  rw [show bQp (a, b, c, d) 3 = d from rfl] at m3
  have s1 := (hk.q a b (by omega) (by omega) (by omega) (by omega)).1
  have s2 := (hk.q b c (by omega) (by omega) (by omega) (by omega)).1
  have s3 := (hk.q c d (by omega) (by omega) (by omega) (by omega)).1
  have s4 := (hk.q d a (by omega) (by omega) (by omega) (by omega)).1
  have ga := bGv_b hk (x := x) h1.1 h1.2
  have gb := bGv_b hk (x := x) h2.1 h2.2
  have gc := bGv_b hk (x := x) h3.1 h3.2
  have gd := bGv_b hk (x := x) h4.1 h4.2
  unfold pf_X7_carriedBy
  rw [bCl m0, bCl m1, bCl m2, bCl m3, bCl (c_quarrelOf hR h1.1 (by omega) h2.1 (by omega)), bCl (c_quarrelOf hR h2.1 (by omega) h3.1 (by omega)), bCl (c_quarrelOf hR h3.1 (by omega) h4.1 (by omega)), bCl (c_quarrelOf hR h4.1 (by omega) h1.1 (by omega)), bRd h1.1 (by omega), bRd h2.1 (by omega), hY.2 a h1.1 h1.2, hY.2 b h2.1 h2.2, bMn (by omega) (by omega), bRd h3.1 (by omega), bRd h4.1 (by omega), hY.2 c h3.1 h3.2, hY.2 d h4.1 h4.2, bMn (by omega) (by omega), bGt, hY.1, bMn (by omega) (by omega), bMn (by omega) (by omega), bMx (by omega) (by omega)]
  rfl
theorem bBest_ge {f : bQd → Int} : ∀ (L : List bQd) (b : Int), b ≤ bBest f L b ∧ ∀ r ∈ L, f r ≤ bBest f L b := by
  intro L
  induction L with
  | nil => intro b; exact ⟨Int.le_refl _, fun r h => by cases h⟩
  | cons a L ih =>
    intro b
    rw [bBest]
    obtain ⟨h1, h2⟩ := ih (max b (f a))
    refine ⟨by omega, fun r h => ?_⟩
    rcases List.mem_cons.mp h with h | h
    · subst h; omega
    · exact h2 r h
theorem bBest_congr {f g : bQd → Int} : ∀ (L : List bQd) (b : Int) (q : bQd), (∀ r ∈ L, f r = g r) → bBest f L b = bBest g L b ∧ bArg f L b q = bArg g L b q := by
  intro L
  induction L with
  | nil => intro b q _; exact ⟨rfl, rfl⟩
  | cons a L ih =>
    intro b q h
    rw [bBest, bBest, bArg, bArg, h a (List.mem_cons_self ..)]
    exact ih _ _ fun r hr => h r (List.mem_cons_of_mem _ hr)
theorem bTabl_vr {m : Int} (h4 : 4 ≤ m) (h9 : m ≤ 9) {r : bQd} (h : r ∈ bTabl m) : bVr (fun _ => true) m r := by
  rw [← bTabl_all h4 h9] at h
  exact bL0_mem.mp (List.mem_filter.mp h).1
theorem bTabl_0123 {m : Int} (h4 : 4 ≤ m) (h9 : m ≤ 9) : ((0, 1, 2, 3) : bQd) ∈ bTabl m := by
  rw [← bTabl_all h4 h9]
  refine List.mem_filter.mpr ⟨bL0_mem.mpr ?_, by decide⟩
  refine ⟨⟨⟨by decide, by show (0 : Int) < m; omega⟩, rfl⟩, ⟨⟨by decide, by show (1 : Int) < m; omega⟩, rfl⟩, ⟨⟨by decide, by show (2 : Int) < m; omega⟩, rfl⟩, ⟨⟨by decide, by show (3 : Int) < m; omega⟩, rfl⟩, by decide, by decide, by decide, by decide, by decide, by decide⟩
/-- the rows of the table from one on -/
def bTRw (m : Int) (k : Nat) : List bQd := ((on_rowsT.drop k).map bDec).filter (bPre m)
theorem bTRw_go {m : Int} {k : Nat} (hk : k < 378) : bTRw m k = if bPre m (bDec (on_rowsT.getD k 0)) then bDec (on_rowsT.getD k 0) :: bTRw m (k + 1) else bTRw m (k + 1) := by
  have hl : k < on_rowsT.length := by rw [bRows_len]; exact hk
  unfold bTRw
  rw [List.drop_eq_getElem_cons hl, List.map_cons, List.filter_cons, show on_rowsT.getD k 0 = on_rowsT[k] by simp [List.getD, hl]]
theorem bTRw_mem {m : Int} {k : Nat} {r : bQd} (h : r ∈ bTRw m k) : r ∈ bTabl m := by
  unfold bTRw at h
  unfold bTabl
  obtain ⟨h1, h2⟩ := List.mem_filter.mp h
  obtain ⟨v, h3, h4⟩ := List.mem_map.mp h1
  exact List.mem_filter.mpr ⟨List.mem_map.mpr ⟨v, List.mem_of_mem_drop h3, h4⟩, h2⟩
/-- the best till now, in the class -/
def bStB (l b : Int) (q : bQd) (σ : on_S) : Prop := (l = -1 ∧ b = -1) ∨ (∃ i : Nat, i < 378 ∧ l = bRow i ∧ q = bDec (on_rowsT.getD i 0) ∧ σ 55 5 = b ∧ 0 ≤ b ∧ b ≤ 396)
theorem bCv_b (hk : bOk w) {n x : Int} (n0 : 0 ≤ n) (n1 : n < w 4) (r : bQd) : 0 ≤ bCv w n x r ∧ bCv w n x r ≤ 396 := by
  have := bKl_b hk n0 n1
  unfold bCv; omega
theorem c_firstBest (hk : bOk w) (hR : bRp 2 w σ) {n x : Int} (n0 : 0 ≤ n) (n1 : n < w 4) (hY : bRdy w n x σ) (hO : bRo σ) (h4 : 4 ≤ w 3) (q0 : bQd) : ∃ (i : Nat) (σ' : on_S), pf_X7_firstBest σ = some (bRow i, σ') ∧ i < 378 ∧ (∀ c, c ≠ 55 → σ' c = σ c) ∧ bArg (bCv w n x) (bTabl (w 3)) (-1) q0 = bDec (on_rowsT.getD i 0) ∧ σ' 55 5 = bBest (bCv w n x) (bTabl (w 3)) (-1) := by
  have hm := hk.c.2.2.2.1
  have L : ∀ (r nf : Nat) (k : Nat) (l b : Int) (q : bQd) (σ' : on_S), k + r = 378 → r < nf → (∀ c, c ≠ 55 → σ' c = σ c) → σ' 55 4 = σ 55 4 → bStB l b q σ' → ∃ (l' : Int) (σ'' : on_S), pf_X7_firstBest_9 nf l (k : Int) σ' = some (l', σ'') ∧ (∀ c, c ≠ 55 → σ'' c = σ c) ∧ bStB l' (bBest (bCv w n x) (bTRw (w 3) k) b) (bArg (bCv w n x) (bTRw (w 3) k) b q) σ'' := by
    intro r
    induction r with
    | zero =>
      intro nf k l b q σ' hkr hnf h1 h2 h3
      cases nf with
      | zero => omega
      | succ nf =>
        have e : bTRw (w 3) k = [] := by
          unfold bTRw; rw [List.drop_eq_nil_of_le (by rw [bRows_len]; omega)]; rfl
        refine ⟨l, σ', by rw [pf_X7_firstBest_9, bLtF (by omega) (by omega) (by omega)], h1, ?_⟩
        rw [e]; exact h3
    | succ r ih =>
      intro nf k l b q σ' hkr hnf h1 h2 h3
      cases nf with
      | zero => omega
      | succ nf =>
        have k378 : k < 378 := by omega
        have R1 : bRp 2 w σ' := hR.to fun j hj => h1 _ (by omega)
        have Y1 : bRdy w n x σ' := ⟨by rw [h2]; exact hY.1, fun m m0 m1 => by rw [h1 57 (by omega)]; exact hY.2 m m0 m1⟩
        have o1 : σ' 56 (k : Int) = bRow k := by rw [h1 56 (by omega)]; exact hO k k378
        have rb := bRows_b k k378
        rw [pf_X7_firstBest_9, bLtT (by omega) (by omega) (by omega), bRd (by omega) (by omega), o1, bCl (c_isThereR R1 hk k378), bE01, bTRw_go k378]
        by_cases hp : bPre (w 3) (bDec (on_rowsT.getD k 0)) = true
        · have vr : bVr (fun _ => true) (w 3) (bDec (on_rowsT.getD k 0)) := bTabl_vr h4 hm.2 (bTRw_mem (k := k) (by rw [bTRw_go k378, if_pos hp]; exact List.mem_cons_self ..))
          have cb := bCv_b hk (x := x) n0 n1 (bDec (on_rowsT.getD k 0))
          rw [if_pos hp, if_pos hp, bRd (by omega) (by omega), o1, bCl (c_carriedBy hk R1 n0 n1 Y1 k378 vr), bBest, bArg]
          have take : b < bCv w n x (bDec (on_rowsT.getD k 0)) → ∃ (l' : Int) (σ'' : on_S), pf_X7_firstBest_53 (pf_X7_firstBest_9 nf) (k : Int) (bCv w n x (bDec (on_rowsT.getD k 0))) σ' = some (l', σ'') ∧ (∀ c, c ≠ 55 → σ'' c = σ c) ∧ bStB l' (bBest (bCv w n x) (bTRw (w 3) (k + 1)) (max b (bCv w n x (bDec (on_rowsT.getD k 0))))) (bArg (bCv w n x) (bTRw (w 3) (k + 1)) (max b (bCv w n x (bDec (on_rowsT.getD k 0)))) (if bCv w n x (bDec (on_rowsT.getD k 0)) ≤ b then q else bDec (on_rowsT.getD k 0))) σ'' := by
            intro lt
            unfold pf_X7_firstBest_53
            rw [bRd (by omega) (by omega), o1, bPt, show (k : Int) + 1 = ((k + 1 : Nat) : Int) by omega, if_neg (by omega), show max b (bCv w n x (bDec (on_rowsT.getD k 0))) = bCv w n x (bDec (on_rowsT.getD k 0)) by omega]
            exact ih nf (k + 1) _ _ _ _ (by omega) (by omega) (fun c hc => by rw [bst_nc hc]; exact h1 c hc) (by rw [bst_ni (by omega)]; exact h2) (Or.inr ⟨k, k378, rfl, rfl, bst_eq, by omega, by omega⟩)
          rcases h3 with ⟨l1, b1⟩ | ⟨i, i1, i2, i3, i4, i5, i6⟩
          · rw [bEqT (by omega) l1]
            exact take (by omega)
          · have ib := bRows_b i i1
            rw [bEqF (by omega) (by omega) (by omega), bGt, i4]
            by_cases le : bCv w n x (bDec (on_rowsT.getD k 0)) ≤ b
            · rw [bLeT (by omega) (by omega) le, if_pos le, show max b (bCv w n x (bDec (on_rowsT.getD k 0))) = b by omega, show (k : Int) + 1 = ((k + 1 : Nat) : Int) by omega]
              exact ih nf (k + 1) l b q σ' (by omega) (by omega) h1 h2 (Or.inr ⟨i, i1, i2, i3, i4, i5, i6⟩)
            · rw [bLeF (by omega) (by omega) (by omega)]
              exact take (by omega)
        · rw [if_neg hp, if_neg hp, show (k : Int) + 1 = ((k + 1 : Nat) : Int) by omega]
          exact ih nf (k + 1) l b q σ' (by omega) (by omega) h1 h2 h3
  obtain ⟨l', σ', a1, a2, a3⟩ := L 378 on_N 0 (-1) (-1) q0 (on_st σ 55 5 0) (by omega) (by unfold on_N; omega) (fun c hc => bst_nc hc) (bst_ni (by omega)) (Or.inl ⟨rfl, rfl⟩)
  have e0 : bTRw (w 3) 0 = bTabl (w 3) := rfl
  rw [e0] at a3
  rcases a3 with ⟨-, b1⟩ | ⟨i, i1, i2, i3, i4, -⟩
  · exfalso
    have x1 := (bBest_ge (f := bCv w n x) (bTabl (w 3)) (-1)).2 _ (bTabl_0123 h4 hm.2)
    have x2 := bCv_b hk (x := x) n0 n1 (0, 1, 2, 3)
    omega
  · refine ⟨i, σ', ?_, i1, a2, i3, i4⟩
    unfold pf_X7_firstBest
    rw [bPt, ← i2]
    exact a1
theorem bOkS15 (hk : bOk w) {d : Int} (d0 : 0 ≤ d) (d1 : d < w 3) : bOkS w 15 d = true := by
  have h0 := hk.c.1
  have h := (hk.m d d0 d1).1
  unfold bOkS
  have c : bMan w d 0 = 0 ∨ bMan w d 0 = 1 ∨ bMan w d 0 = 2 ∨ bMan w d 0 = 3 := by omega
  rcases c with c | c | c | c <;> rw [c] <;> decide
/-- the first best row of all is the first best ring -/
theorem bBoth (hk : bOk w) {n x : Int} (n0 : 0 ≤ n) (n1 : n < w 4) (h4 : 4 ≤ w 3) (q0 : bQd) : bBest (bVal w n x (bNet w n 2)) (bL0 (bOkS w 15) (w 3) 0) (-1) = bBest (bCv w n x) (bTabl (w 3)) (-1) ∧ bArg (bVal w n x (bNet w n 2)) (bL0 (bOkS w 15) (w 3) 0) (-1) q0 = bArg (bCv w n x) (bTabl (w 3)) (-1) q0 := by
  have hm := hk.c.2.2.2.1
  rw [bL0_congr (ok := bOkS w 15) (ok' := fun _ => true) (fun x x0 x1 => bOkS15 hk x0 x1)]
  obtain ⟨e1, e2⟩ := bBest_congr (f := bVal w n x (bNet w n 2)) (g := bCv w n x) (bL0 (fun _ => true) (w 3) 0) (-1) q0 (fun r hr => bVal_cv hk n0 n1 (bL0_mem.mp hr))
  obtain ⟨f1, f2⟩ := bRing (bCv_sy hk (n := n) (x := x) (ok := fun _ => true)) (bL0 (fun _ => true) (w 3) 0) [] (-1) q0 rfl (fun t ht => by cases ht)
  rw [e1, e2, f1, f2, bTabl_all h4 hm.2]
  exact ⟨rfl, rfl⟩
end O56
