/-! B: street: the draft grows in both: nets, posts, jumpers, quarrels, feuds, roads, lines -/
section O76
variable {w w' : bW} {b : Nat} {σ σ' : on_S}
/-- what stays when only some cells and regions of the draft change -/
theorem bDr_net (h : bDr w σ) {x we wt : Int} {K : Int → Int} (k2 : w 4 < 2) (x0 : 0 ≤ x) (x1 : x < w 2) (we0 : 0 ≤ we ∧ we ≤ 9) (wt0 : wt = 0 ∨ wt = 1) (hK : ∀ c : Int, 0 ≤ c → c < 4 → 0 ≤ K c ∧ K c ≤ 99) (hx : bNetAt w x = -1) (hw : ∀ i, w' i = if i = 4 then w 4 + 1 else if i = 62 + (7 * w 4) then x else if i = (62 + (7 * w 4)) + 1 then we else if i = (62 + (7 * w 4)) + 2 then wt else if (62 + (7 * w 4)) + 3 ≤ i ∧ i < (62 + (7 * w 4)) + 7 then K (i - ((62 + (7 * w 4)) + 3)) else w i) (hc : ∀ c, 27 ≤ c → c ≤ 51 → c ≠ 30 → c ≠ 41 → c ≠ 42 → c ≠ 43 → c ≠ 44 → c ≠ 45 → σ' c = σ c) (c0 : σ' 41 = bUp (σ 41) 0 (w 4 + 1)) (c1 : σ' 42 = bUp (σ 42) (w 4) x) (c2 : σ' 43 = bUp (σ 43) (w 4) we) (c3 : σ' 44 = bUp (σ 44) (w 4) wt) (c4 : σ' 30 = bUp (σ 30) x (w 4)) (c5 : ∀ c : Int, 0 ≤ c → c < 4 → σ' 45 ((w 4 * 4) + c) = K c) (c6 : ∀ j : Int, j < w 4 * 4 → σ' 45 j = σ 45 j) : bDr w' σ' := by
  obtain ⟨hk, hR, h6⟩ := h
  obtain ⟨q0, q1, q2, q3, q4, q5, q6, q7⟩ := hk.c
  have w4 : w' 4 = w 4 + 1 := by rw [hw, if_pos rfl]
  have wn : ∀ i, i ≠ 4 → (i < 62 ∨ 76 ≤ i) → w' i = w i := fun i h2 hi => by rw [hw, if_neg h2, if_neg (by omega), if_neg (by omega), if_neg (by omega), if_neg (by omega)]
  have wo : ∀ n q, 0 ≤ n → n < w 4 → 0 ≤ q → q < 7 → bNet w' n q = bNet w n q := fun n q m0 m1 q0 q1 => by
    show w' ((62 + (7 * n)) + q) = w ((62 + (7 * n)) + q)
    rw [hw, if_neg (by omega), if_neg (by omega), if_neg (by omega), if_neg (by omega), if_neg (by omega)]
  have wx0 : bNet w' (w 4) 0 = x := by
    show w' ((62 + (7 * w 4)) + 0) = x
    rw [hw, if_neg (by omega), if_pos (by omega)]
  have wx1 : bNet w' (w 4) 1 = we := by
    show w' ((62 + (7 * w 4)) + 1) = we
    rw [hw, if_neg (by omega), if_neg (by omega), if_pos rfl]
  have wx2 : bNet w' (w 4) 2 = wt := by
    show w' ((62 + (7 * w 4)) + 2) = wt
    rw [hw, if_neg (by omega), if_neg (by omega), if_neg (by omega), if_pos rfl]
  have wx3 : ∀ c, 0 ≤ c → c < 4 → bNet w' (w 4) (3 + c) = K c := fun c c0 c1 => by
    show w' ((62 + (7 * w 4)) + (3 + c)) = K c
    rw [hw, if_neg (by omega), if_neg (by omega), if_neg (by omega), if_neg (by omega), if_pos (by omega)]
    congr 1; omega
  have rg : ∀ l u : Int, 5 ≤ l → (u ≤ 62 ∨ 76 ≤ l) → bRg w w' l u := fun l u hl hu i i0 i1 => wn i (by omega) (by omega)
  have e0 := wn 0 (by omega) (by omega)
  have e1 := wn 1 (by omega) (by omega)
  have e2 := wn 2 (by omega) (by omega)
  have e3 := wn 3 (by omega) (by omega)
  have e5 := wn 5 (by omega) (by omega)
  have e6 := wn 6 (by omega) (by omega)
  have e7 := wn 7 (by omega) (by omega)
  have mA := bManAt.gr (w := w) (w' := w') q3 e3 (rg 26 62 (by omega) (by omega))
  have okC : bOkC w' := by unfold bOkC; rw [e0, e1, e2, e3, w4, e5, e6, e7]; exact ⟨q0, q1, q2, q3, by omega, q5, q6, q7⟩
  have nx : ∀ n, 0 ≤ n → n < w 4 → bNet w n 0 ≠ x := by
    rcases bNetAt_spec hk.c x with ⟨-, b⟩ | ⟨a, -⟩
    · exact b
    · omega
  have okE : bOkE w' := by
    intro n n' n0 n1 m0 m1 t
    by_cases e : n = w 4
    · by_cases e' : n' = w 4
      · omega
      · rw [e, wx0, wo n' 0 m0 (by omega) (by omega) (by omega)] at t
        exact absurd t.symm (nx n' m0 (by omega))
    · rw [wo n 0 n0 (by omega) (by omega) (by omega)] at t
      by_cases e' : n' = w 4
      · rw [e', wx0] at t; exact absurd t (nx n n0 (by omega))
      · rw [wo n' 0 m0 (by omega) (by omega) (by omega)] at t
        exact hk.e n n' n0 (by omega) m0 (by omega) t
  have nA : ∀ y, bNetAt w' y = if y = x then w 4 else bNetAt w y := by
    intro y
    by_cases e : y = x
    · rw [if_pos e]; exact bNetAt_of okC okE (by omega) (by omega) (by rw [wx0, e])
    · rw [if_neg e]
      rcases bNetAt_spec hk.c y with ⟨a, b⟩ | ⟨a, b, c⟩
      · rcases bNetAt_spec okC y with ⟨a', -⟩ | ⟨a', b', c'⟩
        · omega
        · by_cases en : bNetAt w' y = w 4
          · rw [en, wx0] at c'; exact absurd c'.symm e
          · rw [wo _ 0 a' (by omega) (by omega) (by omega)] at c'
            exact absurd c' (b _ a' (by omega))
      · exact bNetAt_of okC okE a (by omega) (by rw [wo _ 0 a (by omega) (by omega) (by omega)]; exact c)
  have hc' : ∀ c, 27 ≤ c → c ≤ 51 → (c < 41 ∨ 45 < c) → c ≠ 30 → σ' c = σ c := fun c a b d e => hc c a b e (by omega) (by omega) (by omega) (by omega) (by omega)
  refine ⟨⟨okC, hk.wi.gr q2.2 e0 e2 (rg _ _ (by omega) (by omega)), hk.m.gr q3.2 e0 e3 (by omega) (rg _ _ (by omega) (by omega)), hk.d.gr q3.2 e3 (rg _ _ (by omega) (by omega)), ?_, okE, hk.q.rg (rg _ _ (by omega) (by omega)), hk.f.rg (rg _ _ (by omega) (by omega)), hk.j.gr q5.2 e5 (by omega) (rg _ _ (by omega) (by omega)), hk.r.gr (by omega) (rg _ _ (by omega) (by omega)), bOkP.no (by omega)⟩, ⟨?_, ?_, hR.j.gr q5.2 e5 (rg _ _ (by omega) (by omega)) (hc' _ (by omega) (by omega) (by omega) (by omega)) (hc' _ (by omega) (by omega) (by omega) (by omega)), hR.f.rg (rg _ _ (by omega) (by omega)) (rg _ _ (by omega) (by omega)) (hc' _ (by omega) (by omega) (by omega) (by omega)) (hc' _ (by omega) (by omega) (by omega) (by omega)), hR.m.gr q3.2 e3 (rg _ _ (by omega) (by omega)) (hc' _ (by omega) (by omega) (by omega) (by omega)) (hc' _ (by omega) (by omega) (by omega) (by omega)) (hc' _ (by omega) (by omega) (by omega) (by omega)) (hc' _ (by omega) (by omega) (by omega) (by omega)), hR.q.rg (rg _ _ (by omega) (by omega)) (hc' _ (by omega) (by omega) (by omega) (by omega)), ?_, hR.h.gr rfl mA (hc' _ (by omega) (by omega) (by omega) (by omega)), bRpP.no (by omega)⟩, by omega⟩
  · intro n n0 n1
    by_cases e : n = w 4
    · rw [e, wx0, wx1, wx2, e2]; exact ⟨⟨x0, x1⟩, we0, wt0, fun c c0 c1 => by rw [wx3 c c0 c1]; exact hK c c0 c1⟩
    · rw [wo n 0 n0 (by omega) (by omega) (by omega), wo n 1 n0 (by omega) (by omega) (by omega), wo n 2 n0 (by omega) (by omega) (by omega), e2]
      obtain ⟨a, b, c, d⟩ := hk.n n n0 (by omega)
      exact ⟨a, b, c, fun c c0 c1 => by rw [wo n (3 + c) n0 (by omega) (by omega) (by omega)]; exact d c c0 c1⟩
  · obtain ⟨r0, r1, r2, r3, r4, r5, r6, r7⟩ := hR.c
    unfold bRpC
    rw [show σ' (27 + 14) = bUp (σ 41) 0 (w 4 + 1) from c0, hc' 27 (by omega) (by omega) (by omega) (by omega), hc' (27 + 8) (by omega) (by omega) (by omega) (by omega), hc' (27 + 20) (by omega) (by omega) (by omega) (by omega), e0, e1, e2, e3, w4, e5, e6, e7, bUp_eq]
    exact ⟨r0, r1, r2, r3, r4, r5, rfl, r7⟩
  · intro k k0 k1
    have hW := rg 8 26 (by omega) (by omega)
    have hh := hR.wi k k0 (by omega)
    rw [hc' (27 + 1) (by omega) (by omega) (by omega) (by omega), hc' (27 + 2) (by omega) (by omega) (by omega) (by omega), show bHouse w' k = bHouse w k from hW _ (by omega) (by omega), show bStorey w' k = bStorey w k from hW _ (by omega) (by omega), nA]
    refine ⟨hh.1, hh.2.1, ?_⟩
    show σ' 30 k = _
    rw [c4]
    by_cases e : k = x
    · rw [e, bUp_eq, if_pos rfl]
    · rw [bUp_ne e, if_neg e]; exact hh.2.2
  · intro n n0 n1
    show σ' 42 n = _ ∧ σ' 43 n = _ ∧ σ' 44 n = _ ∧ ∀ c : Int, 0 ≤ c → c < 4 → σ' 45 ((n * 4) + c) = _
    rw [c1, c2, c3]
    by_cases e : n = w 4
    · subst e
      rw [bUp_eq, bUp_eq, bUp_eq, wx0, wx1, wx2]; exact ⟨rfl, rfl, rfl, fun c c0 c1 => by rw [c5 c c0 c1, wx3 c c0 c1]⟩
    · rw [bUp_ne e, bUp_ne e, bUp_ne e, wo n 0 n0 (by omega) (by omega) (by omega), wo n 1 n0 (by omega) (by omega) (by omega), wo n 2 n0 (by omega) (by omega) (by omega)]
      obtain ⟨a, b, c, d⟩ := hR.n n n0 (by omega)
      exact ⟨a, b, c, fun c c0 c1 => by rw [c6 _ (by omega), wo n (3 + c) n0 (by omega) (by omega) (by omega)]; exact d c c0 c1⟩
/-- a man stands at a corner -/
theorem bDr_stands (h : bDr w σ) {m n c : Int} (m0 : 0 ≤ m) (m1 : m < w 3) (n0 : 0 ≤ n) (n1 : n < w 4) (c0 : 0 ≤ c) (c1 : c < 4) (hm : bMan w m 2 = -1) (hx : bManAt w n c = -1) (hw : w' = bUp (bUp w ((26 + (4 * m)) + 2) n) ((26 + (4 * m)) + 3) c) (hc : ∀ c, 27 ≤ c → c ≤ 51 → c ≠ 38 → c ≠ 39 → c ≠ 46 → σ' c = σ c) (d0 : σ' 46 = bUp (σ 46) ((n * 4) + c) m) (d1 : σ' 38 = bUp (σ 38) m n) (d2 : σ' 39 = bUp (σ 39) m c) : bDr w' σ' := by
  obtain ⟨hk, hR, h6⟩ := h
  obtain ⟨q0, q1, q2, q3, q4, q5, q6, q7⟩ := id hk.c
  have wi : ∀ i, w' i = if i = (26 + (4 * m)) + 3 then c else if i = (26 + (4 * m)) + 2 then n else w i := fun i => by rw [hw]; rfl
  have wn : ∀ i, (i < 26 ∨ 62 ≤ i) → w' i = w i := fun i hi => by rw [wi, if_neg (by omega), if_neg (by omega)]
  have rg : ∀ l u : Int, (u ≤ 26 ∨ 62 ≤ l) → bRg w w' l u := fun l u hu i i0 i1 => wn i (by omega)
  have hA := rg 0 8 (by omega)
  have e3 : w' 3 = w 3 := wn 3 (by omega)
  have okC : bOkC w' := hk.c.rg hA
  have wq : ∀ y q, 0 ≤ q → q < 4 → bMan w' y q = if y = m ∧ q = 3 then c else if y = m ∧ q = 2 then n else bMan w y q := fun y q u0 u1 => by
    show w' ((26 + (4 * y)) + q) = _
    rw [wi]
    by_cases a : y = m
    · subst a
      by_cases b3 : q = 3
      · rw [if_pos (show (26 + (4 * y)) + q = (26 + (4 * y)) + 3 by omega), if_pos ⟨rfl, b3⟩]
      · rw [if_neg (show ¬ (26 + (4 * y)) + q = (26 + (4 * y)) + 3 by omega), if_neg (show ¬ (y = y ∧ q = 3) by omega)]
        by_cases b2 : q = 2
        · rw [if_pos (show (26 + (4 * y)) + q = (26 + (4 * y)) + 2 by omega), if_pos ⟨rfl, b2⟩]
        · rw [if_neg (show ¬ (26 + (4 * y)) + q = (26 + (4 * y)) + 2 by omega), if_neg (show ¬ (y = y ∧ q = 2) by omega)]; rfl
    · rw [if_neg (by omega), if_neg (by omega), if_neg (by omega), if_neg (by omega)]; rfl
  have wo : ∀ y q, y ≠ m → 0 ≤ q → q < 4 → bMan w' y q = bMan w y q := fun y q hy u0 u1 => by rw [wq y q u0 u1, if_neg (by omega), if_neg (by omega)]
  have wm0 : bMan w' m 0 = bMan w m 0 := by rw [wq m 0 (by omega) (by omega), if_neg (by omega), if_neg (by omega)]
  have wm1 : bMan w' m 1 = bMan w m 1 := by rw [wq m 1 (by omega) (by omega), if_neg (by omega), if_neg (by omega)]
  have wm2 : bMan w' m 2 = n := by rw [wq m 2 (by omega) (by omega), if_neg (by omega), if_pos ⟨rfl, rfl⟩]
  have wm3 : bMan w' m 3 = c := by rw [wq m 3 (by omega) (by omega), if_pos ⟨rfl, rfl⟩]
  have nx : ∀ y, 0 ≤ y → y < w 3 → ¬ (bMan w y 2 = n ∧ bMan w y 3 = c) := by
    rcases bManAt_spec hk.c n c with ⟨-, b⟩ | ⟨a, -⟩
    · exact b
    · omega
  have okD : bOkD w' := by
    intro y y' u0 u1 v0 v1 t t1 t2
    rw [e3] at u1 v1
    by_cases e : y = m
    · by_cases e' : y' = m
      · omega
      · rw [e, wm2, wo y' 2 e' (by omega) (by omega)] at t1
        rw [e, wm3, wo y' 3 e' (by omega) (by omega)] at t2
        exact absurd ⟨t1.symm, t2.symm⟩ (nx y' v0 v1)
    · rw [wo y 2 e (by omega) (by omega)] at t t1
      rw [wo y 3 e (by omega) (by omega)] at t2
      by_cases e' : y' = m
      · rw [e', wm2] at t1
        rw [e', wm3] at t2
        exact absurd ⟨t1, t2⟩ (nx y u0 u1)
      · rw [wo y' 2 e' (by omega) (by omega)] at t1
        rw [wo y' 3 e' (by omega) (by omega)] at t2
        exact hk.d y y' u0 u1 v0 v1 t t1 t2
  have mA : ∀ n' c', 0 ≤ n' → bManAt w' n' c' = if n' = n ∧ c' = c then m else bManAt w n' c' := by
    intro n' c' u0
    by_cases e : n' = n ∧ c' = c
    · rw [if_pos e]; exact bManAt_of okC okD (by omega) m0 (by omega) (by rw [wm2]; exact e.1.symm) (by rw [wm3]; exact e.2.symm)
    · rw [if_neg e]
      rcases bManAt_spec hk.c n' c' with ⟨a, b⟩ | ⟨a, b, d, f⟩
      · rw [a]
        refine bManAt_none okC fun y y0 y1 t => ?_
        by_cases ey : y = m
        · rw [ey, wm2, wm3] at t; exact e ⟨t.1.symm, t.2.symm⟩
        · rw [wo y 2 ey (by omega) (by omega), wo y 3 ey (by omega) (by omega)] at t
          exact b y y0 (by omega) t
      · have ne : bManAt w n' c' ≠ m := fun t => by rw [t] at d; omega
        exact bManAt_of okC okD (by omega) a (by omega) (by rw [wo _ 2 ne (by omega) (by omega)]; exact d) (by rw [wo _ 3 ne (by omega) (by omega)]; exact f)
  have nA := bRg.netAt (w := w) (w' := w') hk.c hA (rg 62 76 (by omega))
  have hc' : ∀ c, 27 ≤ c → c ≤ 51 → c ≠ 38 → c ≠ 39 → c ≠ 46 → σ' c = σ c := hc
  refine ⟨⟨okC, hk.wi.rg hk.c hA (rg _ _ (by omega)), ?_, okD, hk.n.rg hk.c hA (rg _ _ (by omega)), hk.e.rg hk.c hA (rg _ _ (by omega)), hk.q.rg (rg _ _ (by omega)), hk.f.rg (rg _ _ (by omega)), hk.j.rg hk.c hA (rg _ _ (by omega)), hk.r.rg hA (rg _ _ (by omega)), bOkP.no (by rw [wn 6 (by omega)]; exact h6)⟩, ⟨hR.c.rg hA (hc' _ (by omega) (by omega) (by omega) (by omega) (by omega)) (hc' _ (by omega) (by omega) (by omega) (by omega) (by omega)) (hc' _ (by omega) (by omega) (by omega) (by omega) (by omega)) (hc' _ (by omega) (by omega) (by omega) (by omega) (by omega)), hR.wi.rg hk.c hA (rg _ _ (by omega)) nA (hc' _ (by omega) (by omega) (by omega) (by omega) (by omega)) (hc' _ (by omega) (by omega) (by omega) (by omega) (by omega)) (hc' _ (by omega) (by omega) (by omega) (by omega) (by omega)), hR.j.rg hk.c hA (rg _ _ (by omega)) (hc' _ (by omega) (by omega) (by omega) (by omega) (by omega)) (hc' _ (by omega) (by omega) (by omega) (by omega) (by omega)), hR.f.rg (rg _ _ (by omega)) (rg _ _ (by omega)) (hc' _ (by omega) (by omega) (by omega) (by omega) (by omega)) (hc' _ (by omega) (by omega) (by omega) (by omega) (by omega)), ?_, hR.q.rg (rg _ _ (by omega)) (hc' _ (by omega) (by omega) (by omega) (by omega) (by omega)), hR.n.rg hk.c hA (rg _ _ (by omega)) (hc' _ (by omega) (by omega) (by omega) (by omega) (by omega)) (hc' _ (by omega) (by omega) (by omega) (by omega) (by omega)) (hc' _ (by omega) (by omega) (by omega) (by omega) (by omega)) (hc' _ (by omega) (by omega) (by omega) (by omega) (by omega)), ?_, bRpP.no (by rw [wn 6 (by omega)]; exact h6)⟩, by rw [wn 6 (by omega)]; exact h6⟩
  · intro y y0 y1
    rw [e3] at y1
    rw [wn 0 (by omega), wn 4 (by omega)]
    by_cases e : y = m
    · rw [e, wm0, wm1, wm2, wm3]
      obtain ⟨a, b, -⟩ := hk.m m m0 m1
      exact ⟨a, b, Or.inr ⟨⟨n0, n1⟩, c0, c1⟩⟩
    · rw [wo y 0 e (by omega) (by omega), wo y 1 e (by omega) (by omega), wo y 2 e (by omega) (by omega), wo y 3 e (by omega) (by omega)]
      exact hk.m y y0 y1
  · intro y y0 y1
    rw [e3] at y1
    obtain ⟨a1, a2, a3, a4⟩ := hR.m y y0 y1
    rw [hc' (27 + 9) (by omega) (by omega) (by omega) (by omega) (by omega), hc' (27 + 10) (by omega) (by omega) (by omega) (by omega) (by omega), show σ' (27 + 11) = bUp (σ 38) m n from d1, show σ' (27 + 12) = bUp (σ 39) m c from d2]
    by_cases e : y = m
    · subst e
      rw [bUp_eq, bUp_eq, wm0, wm1, wm2, wm3]; exact ⟨a1, a2, rfl, rfl⟩
    · rw [bUp_ne e, bUp_ne e, wo y 0 e (by omega) (by omega), wo y 1 e (by omega) (by omega), wo y 2 e (by omega) (by omega), wo y 3 e (by omega) (by omega)]
      exact ⟨a1, a2, a3, a4⟩
  · intro n' c' u0 u1 v0 v1
    rw [show σ' (27 + 19) = bUp (σ 46) ((n * 4) + c) m from d0, mA n' c' u0]
    by_cases e : n' = n ∧ c' = c
    · rw [if_pos e, e.1, e.2, bUp_eq]
    · rw [if_neg e, bUp_ne (by omega)]
      exact hR.h n' c' u0 ⟨u1.1, Or.inr rfl⟩ v0 v1
end O76
