/-! B: men who stand otherwise -/
def bPut (w : bW) (m n c : Int) : bW := bUp (bUp w ((26 + (4 * m)) + 2) n) ((26 + (4 * m)) + 3) c
theorem bPut_rg {w : bW} {m n c l h : Int} (m0 : 0 ≤ m) (m1 : m < 9) (hl : h ≤ 26 ∨ 62 ≤ l) : bRg w (bPut w m n c) l h := (bRg.up (by omega)).tr (bRg.up (by omega))
theorem bPut_man {w : bW} {m n c m' q : Int} (q0 : 0 ≤ q) (q1 : q < 4) : bMan (bPut w m n c) m' q = if m' = m ∧ q = 2 then n else if m' = m ∧ q = 3 then c else bMan w m' q := by
  unfold bMan bPut
  by_cases a : m' = m ∧ q = 2
  · rw [if_pos a, bUp_ne (by omega)]
    rw [show ((26 + (4 * m')) + q) = ((26 + (4 * m)) + 2) by omega, bUp_eq]
  · rw [if_neg a]
    by_cases b : m' = m ∧ q = 3
    · rw [if_pos b, show ((26 + (4 * m')) + q) = ((26 + (4 * m)) + 3) by omega, bUp_eq]
    · rw [if_neg b, bUp_ne (by omega), bUp_ne (by omega)]
theorem bPut_put {w : bW} {m n c n' c' : Int} : bPut (bPut w m n c) m n' c' = bPut w m n' c' := by
  funext i; unfold bPut bUp
  by_cases a : i = (26 + 4 * m) + 3
  · simp [a]
  · by_cases b : i = (26 + 4 * m) + 2
    · simp [b]
    · simp [a, b]
theorem bPut_comm {w : bW} {m n c m' n' c' : Int} (h : m ≠ m') : bPut (bPut w m n c) m' n' c' = bPut (bPut w m' n' c') m n c := by
  funext i; unfold bPut bUp
  by_cases a : i = (26 + 4 * m) + 3
  · rw [if_neg (by omega), if_neg (by omega), if_pos a, if_pos a]
  · by_cases b : i = (26 + 4 * m) + 2
    · rw [if_neg (by omega), if_neg (by omega), if_neg a, if_pos b, if_neg a, if_pos b]
    · rw [if_neg a, if_neg b, if_neg a, if_neg b]
theorem bPut_self {w : bW} {m : Int} : bPut w m (bMan w m 2) (bMan w m 3) = w := by
  funext i; unfold bPut bUp bMan
  by_cases a : i = (26 + 4 * m) + 3
  · rw [if_pos a, a]
  · rw [if_neg a]
    by_cases b : i = (26 + 4 * m) + 2
    · rw [if_pos b, b]
    · rw [if_neg b]
/-- free for m: nobody else stands there -/
def bFree (w : bW) (m n c : Int) : Prop := (n = -1 ∧ c = -1) ∨ ((0 ≤ n ∧ n < w 4) ∧ (0 ≤ c ∧ c < 4) ∧ ∀ m', 0 ≤ m' → m' < w 3 → m' ≠ m → ¬ (bMan w m' 2 = n ∧ bMan w m' 3 = c))
section M38
variable {w : bW} {b : Nat} {σ : on_S} {m n c : Int}
theorem bPut_ok (hk : bOk w) (m0 : 0 ≤ m) (m1 : m < w 3) (hf : bFree w m n c) : bOk (bPut w m n c) := by
  obtain ⟨k1, k2, k3, k4, k5, k6, k7, k8, k9, k10, k11⟩ := hk
  obtain ⟨q0, q1, q2, q3, q4, q5, q6, q7⟩ := id k1
  have rg : ∀ l h : Int, h ≤ 26 ∨ 62 ≤ l → bRg w (bPut w m n c) l h := fun l h hl => bPut_rg m0 (by omega) hl
  have a0 := rg 0 8 (by omega)
  have aN := rg 62 76 (by omega)
  have aJ := rg 173 191 (by omega)
  have h3 : bPut w m n c 3 = w 3 := a0 3 (by omega) (by omega)
  have h4 : bPut w m n c 4 = w 4 := a0 4 (by omega) (by omega)
  have h0 : bPut w m n c 0 = w 0 := a0 0 (by omega) (by omega)
  refine ⟨k1.rg a0, bOkW.rg k1 k2 a0 (rg _ _ (by omega)), ?_, ?_, bOkN.rg k1 k5 a0 aN, bOkE.rg k1 k6 a0 aN, k7.rg (rg _ _ (by omega)), k8.rg (rg _ _ (by omega)), bOkJ.rg k1 k9 a0 aJ, k10.rg a0 (rg _ _ (by omega)), bOkP.rg k1 k11 a0 (fun x => bRg.netAt k1 a0 aN x) aJ (rg _ _ (by omega))⟩
  · intro i i0 i1
    rw [h3] at i1
    have hi := k3 i i0 i1
    rw [h0, h4, bPut_man (by omega) (by omega), bPut_man (by omega) (by omega), bPut_man (by omega) (by omega), bPut_man (by omega) (by omega)]
    by_cases e : i = m
    · rw [if_neg (by omega), if_neg (by omega), if_neg (by omega), if_neg (by omega), if_pos ⟨e, rfl⟩, if_neg (by omega), if_pos ⟨e, rfl⟩]
      refine ⟨hi.1, hi.2.1, ?_⟩
      rcases hf with ⟨f1, f2⟩ | ⟨f1, f2, f3⟩
      · exact Or.inl ⟨f1, f2⟩
      · exact Or.inr ⟨f1, f2⟩
    · rw [if_neg (by omega), if_neg (by omega), if_neg (by omega), if_neg (by omega), if_neg (by omega), if_neg (by omega), if_neg (by omega), if_neg (by omega)]
      exact hi
  · intro i j i0 i1 j0 j1
    rw [h3] at i1 j1
    rw [bPut_man (by omega) (by omega), bPut_man (by omega) (by omega), bPut_man (by omega) (by omega), bPut_man (by omega) (by omega)]
    by_cases e : i = m
    · by_cases f : j = m
      · intro _ _ _; omega
      · rw [if_pos ⟨e, rfl⟩, if_neg (by omega), if_neg (by omega), if_neg (by omega), if_pos ⟨e, rfl⟩, if_neg (by omega), if_neg (by omega)]
        intro g1 g2 g3
        rcases hf with ⟨f1, f2⟩ | ⟨f1, f2, f3⟩
        · exact absurd f1 g1
        · exact absurd ⟨g2.symm, g3.symm⟩ (f3 j j0 j1 f)
    · by_cases f : j = m
      · rw [if_neg (by omega), if_neg (by omega), if_pos ⟨f, rfl⟩, if_neg (by omega), if_neg (by omega), if_neg (by omega), if_pos ⟨f, rfl⟩]
        intro g1 g2 g3
        rcases hf with ⟨f1, f2⟩ | ⟨f1, f2, f3⟩
        · exact absurd (g2.trans f1) g1
        · exact absurd ⟨g2, g3⟩ (f3 i i0 i1 e)
      · rw [if_neg (by omega), if_neg (by omega), if_neg (by omega), if_neg (by omega), if_neg (by omega), if_neg (by omega), if_neg (by omega), if_neg (by omega)]
        exact k4 i j i0 i1 j0 j1
/-- who stands where, when m stands nowhere -/
theorem bPut_away_at (hk : bOk w) (m0 : 0 ≤ m) (m1 : m < w 3) {n' c' : Int} (hn : n' ≠ -1) : bManAt (bPut w m (-1) (-1)) n' c' = if bManAt w n' c' = m then -1 else bManAt w n' c' := by
  have hk2 := bPut_ok hk m0 m1 (n := -1) (c := -1) (Or.inl ⟨rfl, rfl⟩)
  have hq := hk.c.2.2.2.1
  have h3 : bPut w m (-1) (-1) 3 = w 3 := bPut_rg (l := 0) (h := 8) m0 (by omega) (by omega) 3 (by omega) (by omega)
  rcases bManAt_spec hk.c n' c' with ⟨a, d⟩ | ⟨a, d, e, f⟩
  · rw [if_neg (by omega), a]
    refine bManAt_none hk2.c (fun i i0 i1 => ?_)
    rw [h3] at i1
    rw [bPut_man (by omega) (by omega), bPut_man (by omega) (by omega)]
    by_cases g : i = m
    · rw [if_pos ⟨g, rfl⟩]; omega
    · rw [if_neg (by omega), if_neg (by omega), if_neg (by omega), if_neg (by omega)]; exact d i i0 i1
  · by_cases g : bManAt w n' c' = m
    · rw [if_pos g]
      refine bManAt_none hk2.c (fun i i0 i1 => ?_)
      rw [h3] at i1
      rw [bPut_man (by omega) (by omega), bPut_man (by omega) (by omega)]
      by_cases g2 : i = m
      · rw [if_pos ⟨g2, rfl⟩]; omega
      · rw [if_neg (by omega), if_neg (by omega), if_neg (by omega), if_neg (by omega)]
        intro z
        exact g2 (hk.d i m i0 i1 m0 m1 (by rw [z.1]; exact hn) (by rw [z.1, ← g, e]) (by rw [z.2, ← g, f]))
    · rw [if_neg g]
      refine bManAt_of hk2.c hk2.d hn a (by rw [h3]; exact d) ?_ ?_
      · rw [bPut_man (by omega) (by omega), if_neg (by omega), if_neg (by omega)]; exact e
      · rw [bPut_man (by omega) (by omega), if_neg (by omega), if_neg (by omega)]; exact f
theorem bPut_put_at (hk : bOk w) (m0 : 0 ≤ m) (m1 : m < w 3) (h2 : bMan w m 2 = -1) (hn : n ≠ -1) (hf : bFree w m n c) {n' c' : Int} (hn' : n' ≠ -1) : bManAt (bPut w m n c) n' c' = if n' = n ∧ c' = c then m else bManAt w n' c' := by
  have hk2 := bPut_ok hk m0 m1 hf
  have hq := hk.c.2.2.2.1
  have h3 : bPut w m n c 3 = w 3 := bPut_rg (l := 0) (h := 8) m0 (by omega) (by omega) 3 (by omega) (by omega)
  by_cases g : n' = n ∧ c' = c
  · rw [if_pos g]
    refine bManAt_of hk2.c hk2.d hn' m0 (by rw [h3]; exact m1) ?_ ?_
    · rw [bPut_man (by omega) (by omega), if_pos ⟨rfl, rfl⟩, g.1]
    · rw [bPut_man (by omega) (by omega), if_neg (by omega), if_pos ⟨rfl, rfl⟩, g.2]
  · rw [if_neg g]
    rcases bManAt_spec hk.c n' c' with ⟨a, d⟩ | ⟨a, d, e, f⟩
    · rw [a]
      refine bManAt_none hk2.c (fun i i0 i1 => ?_)
      rw [h3] at i1
      rw [bPut_man (by omega) (by omega), bPut_man (by omega) (by omega)]
      by_cases g2 : i = m
      · rw [if_pos ⟨g2, rfl⟩, if_neg (by omega), if_pos ⟨g2, rfl⟩]
        intro z; exact g ⟨z.1.symm, z.2.symm⟩
      · rw [if_neg (by omega), if_neg (by omega), if_neg (by omega), if_neg (by omega)]; exact d i i0 i1
    · have g2 : bManAt w n' c' ≠ m := fun z => hn' (by rw [← e, z, h2])
      refine bManAt_of hk2.c hk2.d hn' a (by rw [h3]; exact d) ?_ ?_
      · rw [bPut_man (by omega) (by omega), if_neg (by omega), if_neg (by omega)]; exact e
      · rw [bPut_man (by omega) (by omega), if_neg (by omega), if_neg (by omega)]; exact f
/-- the class's three rows made otherwise -/
theorem bRp.put (hk : bOk w) (hR : bRp b w σ) (m0 : 0 ≤ m) (m1 : m < w 3) {σ' : on_S} (hC : ∀ k : Nat, k < 24 → k ≠ 11 → k ≠ 12 → k ≠ 19 → σ' (b + k) = σ (b + k)) (h11 : ∀ i, 0 ≤ i → i < w 3 → σ' (b + 11) i = if i = m then n else σ (b + 11) i) (h12 : ∀ i, 0 ≤ i → i < w 3 → σ' (b + 12) i = if i = m then c else σ (b + 12) i)
    (h19 : bRpH b (bPut w m n c) σ') : bRp b (bPut w m n c) σ' := by
  obtain ⟨k1, k2, k3, k4, k5, k6, k7, k8, k9, k10, k11⟩ := hk
  obtain ⟨q0, q1, q2, q3, q4, q5, q6, q7⟩ := id k1
  obtain ⟨r1, r2, r3, r4, r5, r6, r7, r8, r9⟩ := hR
  have rg : ∀ l h : Int, h ≤ 26 ∨ 62 ≤ l → bRg w (bPut w m n c) l h := fun l h hl => bPut_rg m0 (by omega) hl
  have a0 := rg 0 8 (by omega)
  have aN := rg 62 76 (by omega)
  have hC' : ∀ k : Nat, k < 24 → k ≠ 11 → k ≠ 12 → k ≠ 19 → σ' (b + k) = σ (b + k) := hC
  have hb : σ' b = σ b := hC 0 (by omega) (by omega) (by omega) (by omega)
  refine ⟨r1.rg a0 hb (hC 8 (by omega) (by omega) (by omega) (by omega)) (hC 14 (by omega) (by omega) (by omega) (by omega)) (hC 20 (by omega) (by omega) (by omega) (by omega)), bRpW.rg k1 r2 a0 (rg _ _ (by omega)) (fun x => bRg.netAt k1 a0 aN x) (hC 1 (by omega) (by omega) (by omega) (by omega)) (hC 2 (by omega) (by omega) (by omega) (by omega)) (hC 3 (by omega) (by omega) (by omega) (by omega)), bRpJ.rg k1 r3 a0 (rg _ _ (by omega)) (hC 4 (by omega) (by omega) (by omega) (by omega)) (hC 5 (by omega) (by omega) (by omega) (by omega)), r4.rg (rg _ _ (by omega)) (rg _ _ (by omega)) (hC 6 (by omega) (by omega) (by omega) (by omega)) (hC 7 (by omega) (by omega) (by omega) (by omega)), ?_, r6.rg (rg _ _ (by omega)) (hC 13 (by omega) (by omega) (by omega) (by omega)), bRpN.rg k1 r7 a0 aN (hC 15 (by omega) (by omega) (by omega) (by omega)) (hC 16 (by omega) (by omega) (by omega) (by omega)) (hC 17 (by omega) (by omega) (by omega) (by omega)) (hC 18 (by omega) (by omega) (by omega) (by omega)), h19, bRpP.rg k1 r9 a0 (rg _ _ (by omega)) (hC 21 (by omega) (by omega) (by omega) (by omega)) (hC 22 (by omega) (by omega) (by omega) (by omega)) (hC 23 (by omega) (by omega) (by omega) (by omega))⟩
  intro i i0 i1
  rw [a0 3 (by omega) (by omega)] at i1
  obtain ⟨e1, e2, e3, e4⟩ := r5 i i0 i1
  rw [hC 9 (by omega) (by omega) (by omega) (by omega), hC 10 (by omega) (by omega) (by omega) (by omega), h11 i i0 i1, h12 i i0 i1, e1, e2, e3, e4, bPut_man (by omega) (by omega), bPut_man (by omega) (by omega), bPut_man (by omega) (by omega), bPut_man (by omega) (by omega), if_neg (by omega), if_neg (by omega), if_neg (by omega), if_neg (by omega)]
  refine ⟨rfl, rfl, ?_, ?_⟩
  · by_cases g : i = m
    · rw [if_pos g, if_pos ⟨g, rfl⟩]
    · rw [if_neg g, if_neg (by omega), if_neg (by omega)]
  · by_cases g : i = m
    · rw [if_pos g, if_neg (by omega), if_pos ⟨g, rfl⟩]
    · rw [if_neg g, if_neg (by omega), if_neg (by omega)]
def bTk (b : Nat) (m : Int) (σ : on_S) : on_S := on_st (on_st (if σ (b + 11) m = -1 then σ else on_st σ (b + 19) ((σ (b + 11) m * 4) + σ (b + 12) m) (-1)) (b + 11) m (-1)) (b + 12) m (-1)
def bPa (b : Nat) (m n c : Int) (σ : on_S) : on_S := on_st (on_st (on_st σ (b + 19) ((n * 4) + c) m) (b + 11) m n) (b + 12) m c
theorem c_takeAway (hk : bOk w) (hR : bRp b w σ) (m0 : 0 ≤ m) (m1 : m < w 3) : pf_X9_takeAway b m σ = some (0, bTk b m σ) := by
  obtain ⟨q0, q1, q2, q3, q4, q5, q6, q7⟩ := hk.c
  obtain ⟨e1, e2, e3, e4⟩ := hR.m m m0 m1
  have hm := (hk.m m m0 m1).2.2
  unfold pf_X9_takeAway pf_X9_takeAway_43 bTk
  rw [bRd m0 (by omega)]
  by_cases g : σ (b + 11) m = -1
  · rw [bEqT (by omega) g, if_pos g, bWr m0 (by omega), bWr m0 (by omega)]
  · rw [bEqF (by omega) (by omega) g, if_neg g, bRd m0 (by omega), bRd m0 (by omega), bWr (by omega) (by omega), bWr m0 (by omega), bWr m0 (by omega)]
theorem bTk_rp (hk : bOk w) (hR : bRp b w σ) (m0 : 0 ≤ m) (m1 : m < w 3) : bRp b (bPut w m (-1) (-1)) (bTk b m σ) := by
  obtain ⟨q0, q1, q2, q3, q4, q5, q6, q7⟩ := hk.c
  obtain ⟨e1, e2, e3, e4⟩ := hR.m m m0 m1
  have hm := (hk.m m m0 m1).2.2
  refine hR.put hk m0 m1 ?_ ?_ ?_ ?_
  · intro k k0 a1 a2 a3
    unfold bTk
    rw [bst_nc (by omega), bst_nc (by omega)]
    split
    · rfl
    · rw [bst_nc (by omega)]
  · intro i i0 i1
    unfold bTk
    rw [bst_nc (by omega), bst_if]
    split
    · rfl
    · split
      · rfl
      · rw [bst_nc (by omega)]
  · intro i i0 i1
    unfold bTk
    rw [bst_if]
    split
    · rfl
    · rw [bst_nc (by omega)]
      split
      · rfl
      · rw [bst_nc (by omega)]
  · intro n' c' a0 a1 c0 c1
    have q9 := hk.c.2.2.2.1
    rw [bPut_rg (l := 0) (h := 8) m0 (by omega) (by omega) 4 (by omega) (by omega)] at a1
    have hh := hR.h n' c' a0 a1 c0 c1
    rw [bPut_away_at hk m0 m1 (by omega)]
    unfold bTk
    rw [bst_nc (by omega), bst_nc (by omega)]
    by_cases g : σ (b + 11) m = -1
    · rw [if_pos g, hh]
      have : bManAt w n' c' ≠ m := by
        intro z
        rcases bManAt_spec hk.c n' c' with ⟨a, d⟩ | ⟨a, d, e, f⟩
        · omega
        · rw [z] at e; omega
      rw [if_neg this]
    · rw [if_neg g, bst_if]
      have hmm : bManAt w (bMan w m 2) (bMan w m 3) = m := bManAt_of hk.c hk.d (by omega) m0 m1 rfl rfl
      by_cases z : (n' * 4) + c' = (σ (b + 11) m * 4) + σ (b + 12) m
      · have z1 : n' = bMan w m 2 := by omega
        have z2 : c' = bMan w m 3 := by omega
        rw [if_pos z, z1, z2, hmm, if_pos rfl]
      · rw [if_neg z, hh, if_neg]
        intro y
        rcases bManAt_spec hk.c n' c' with ⟨a, d⟩ | ⟨a, d, e, f⟩
        · omega
        · rw [y] at e f; omega
theorem c_putAt (hR : bRp b w σ) (hk : bOk w) (m0 : 0 ≤ m) (m1 : m < w 3) (n0 : 0 ≤ n) (n1 : n < 2) (c0 : 0 ≤ c) (c1 : c < 4) : pf_X9_putAt b m n c σ = some (0, bPa b m n c σ) := by
  obtain ⟨q0, q1, q2, q3, q4, q5, q6, q7⟩ := hk.c
  unfold pf_X9_putAt bPa
  rw [bWr (by omega) (by omega), bWr m0 (by omega), bWr m0 (by omega)]
theorem bPa_rp (hk : bOk w) (hR : bRp b w σ) (m0 : 0 ≤ m) (m1 : m < w 3) (h2 : bMan w m 2 = -1) (hf : bFree w m n c) (hn : n ≠ -1) : bRp b (bPut w m n c) (bPa b m n c σ) := by
  have hfc : (0 ≤ n ∧ n < w 4) ∧ (0 ≤ c ∧ c < 4) := by
    rcases hf with ⟨f1, f2⟩ | ⟨f1, f2, f3⟩
    · exact absurd f1 hn
    · exact ⟨f1, f2⟩
  refine hR.put hk m0 m1 ?_ ?_ ?_ ?_
  · intro k k0 a1 a2 a3
    unfold bPa
    rw [bst_nc (by omega), bst_nc (by omega), bst_nc (by omega)]
  · intro i i0 i1
    unfold bPa
    rw [bst_nc (by omega), bst_if]
    split
    · rfl
    · rw [bst_nc (by omega)]
  · intro i i0 i1
    unfold bPa
    rw [bst_if]
    split
    · rfl
    · rw [bst_nc (by omega), bst_nc (by omega)]
  · intro n' c' a0 a1 c0 c1
    have q9 := hk.c.2.2.2.1
    rw [bPut_rg (l := 0) (h := 8) m0 (by omega) (by omega) 4 (by omega) (by omega)] at a1
    rw [bPut_put_at hk m0 m1 h2 hn hf (by omega)]
    unfold bPa
    rw [bst_nc (by omega), bst_nc (by omega), bst_if]
    by_cases z : (n' * 4) + c' = (n * 4) + c
    · rw [if_pos z, if_pos ⟨by omega, by omega⟩]
    · rw [if_neg z, if_neg (fun y => z (by rw [y.1, y.2])), hR.h n' c' a0 a1 c0 c1]
/-- taken away and put back: as it was -/
theorem bPa_Tk (hk : bOk w) (hR : bRp b w σ) (m0 : 0 ≤ m) (m1 : m < w 3) (h2 : bMan w m 2 ≠ -1) : bPa b m (bMan w m 2) (bMan w m 3) (bTk b m σ) = σ := by
  obtain ⟨q0, q1, q2, q3, q4, q5, q6, q7⟩ := hk.c
  obtain ⟨e1, e2, e3, e4⟩ := hR.m m m0 m1
  have hm := (hk.m m m0 m1).2.2
  have hmm : bManAt w (bMan w m 2) (bMan w m 3) = m := bManAt_of hk.c hk.d h2 m0 m1 rfl rfl
  have hh := hR.h (bMan w m 2) (bMan w m 3) (by omega) (by omega) (by omega) (by omega)
  rw [hmm] at hh
  funext x j
  unfold bPa bTk
  rw [if_neg (by omega), e3, e4]
  unfold on_st
  by_cases a : x = b + 12 ∧ j = m
  · rw [if_pos a, a.1, a.2, e4]
  · rw [if_neg a]
    by_cases d : x = b + 11 ∧ j = m
    · rw [if_pos d, d.1, d.2, e3]
    · rw [if_neg d]
      by_cases f : x = b + 19 ∧ j = (bMan w m 2 * 4) + bMan w m 3
      · rw [if_pos f, f.1, f.2, hh]
      · rw [if_neg f, if_neg a, if_neg d, if_neg f]
/-- put and taken away again: as it was -/
theorem bTk_Pa (hk : bOk w) (hR : bRp b w σ) (m0 : 0 ≤ m) (m1 : m < w 3) (h2 : bMan w m 2 = -1) (n0 : 0 ≤ n) (n1 : n < w 4) (c0 : 0 ≤ c) (c1 : c < 4) (hf : bManAt w n c = -1) : bTk b m (bPa b m n c σ) = σ := by
  obtain ⟨q0, q1, q2, q3, q4, q5, q6, q7⟩ := hk.c
  obtain ⟨e1, e2, e3, e4⟩ := hR.m m m0 m1
  have hm := (hk.m m m0 m1).2.2
  have hh := hR.h n c n0 (by omega) c0 c1
  rw [hf] at hh
  have g11 : bPa b m n c σ (b + 11) m = n := by unfold bPa; rw [bst_nc (by omega), bst_eq]
  have g12 : bPa b m n c σ (b + 12) m = c := by unfold bPa; rw [bst_eq]
  funext x j
  unfold bTk
  rw [g11, g12, if_neg (by omega)]
  unfold bPa on_st
  by_cases a : x = b + 12 ∧ j = m
  · rw [if_pos a, a.1, a.2, e4]; omega
  · rw [if_neg a]
    by_cases d : x = b + 11 ∧ j = m
    · rw [if_pos d, d.1, d.2, e3]; omega
    · rw [if_neg d]
      by_cases f : x = b + 19 ∧ j = (n * 4) + c
      · rw [if_pos f, f.1, f.2, hh]
      · rw [if_neg f, if_neg a, if_neg d, if_neg f]
end M38
