/-! B: street: the draft grows in both -/
section O75
variable {w w' : bW} {b : Nat} {σ σ' : on_S}
theorem bOkW.gr (h : bOkW w) (c : w 2 ≤ 9) (e0 : w' 0 = w 0) (e2 : w' 2 = w 2) (hW : bRg w w' 8 26) : bOkW w' := by
  intro k k0 k1
  rw [e2] at k1
  rw [e0, show bHouse w' k = bHouse w k from hW _ (by omega) (by omega), show bStorey w' k = bStorey w k from hW _ (by omega) (by omega)]
  exact h k k0 k1
theorem bOkM.gr (h : bOkM w) (c : w 3 ≤ 9) (e0 : w' 0 = w 0) (e3 : w' 3 = w 3) (e4 : w 4 ≤ w' 4) (hM : bRg w w' 26 62) : bOkM w' := by
  intro m m0 m1
  rw [e3] at m1
  rw [e0, hM.man (q := 0) m0 (by omega) (by omega) (by omega), hM.man (q := 1) m0 (by omega) (by omega) (by omega), hM.man (q := 2) m0 (by omega) (by omega) (by omega), hM.man (q := 3) m0 (by omega) (by omega) (by omega)]
  obtain ⟨a, b, d⟩ := h m m0 m1
  exact ⟨a, b, by omega⟩
theorem bOkD.gr (h : bOkD w) (c : w 3 ≤ 9) (e3 : w' 3 = w 3) (hM : bRg w w' 26 62) : bOkD w' := by
  intro m m' m0 m1 n0 n1
  rw [e3] at m1 n1
  rw [hM.man (q := 2) m0 (by omega) (by omega) (by omega), hM.man (q := 3) m0 (by omega) (by omega) (by omega), hM.man (q := 2) n0 (by omega) (by omega) (by omega), hM.man (q := 3) n0 (by omega) (by omega) (by omega)]
  exact h m m' m0 m1 n0 n1
theorem bOkN.gr (h : bOkN w) (c : w 4 ≤ 2) (e4 : w' 4 = w 4) (e2 : w 2 ≤ w' 2) (hN : bRg w w' 62 76) : bOkN w' := by
  intro n n0 n1
  rw [e4] at n1
  rw [hN.net (q := 0) n0 (by omega) (by omega) (by omega), hN.net (q := 1) n0 (by omega) (by omega) (by omega), hN.net (q := 2) n0 (by omega) (by omega) (by omega)]
  obtain ⟨a, b, d, e⟩ := h n n0 n1
  refine ⟨by omega, b, d, fun c c0 c1 => ?_⟩
  rw [hN.net (q := 3 + c) n0 (by omega) (by omega) (by omega)]
  exact e c c0 c1
theorem bOkE.gr (h : bOkE w) (c : w 4 ≤ 2) (e4 : w' 4 = w 4) (hN : bRg w w' 62 76) : bOkE w' := by
  intro m m' m0 m1 n0 n1
  rw [e4] at m1 n1
  rw [hN.net (q := 0) m0 (by omega) (by omega) (by omega), hN.net (q := 0) n0 (by omega) (by omega) (by omega)]
  exact h m m' m0 m1 n0 n1
theorem bOkJ.gr (h : bOkJ w) (c : w 5 ≤ 9) (e5 : w' 5 = w 5) (e2 : w 2 ≤ w' 2) (hJ : bRg w w' 173 191) : bOkJ w' := by
  intro j j0 j1
  rw [e5] at j1
  rw [show bWt w' j = bWt w j from hJ _ (by omega) (by omega), show bWin w' j = bWin w j from hJ _ (by omega) (by omega)]
  obtain ⟨a, b⟩ := h j j0 j1
  exact ⟨a, by omega⟩
theorem bOkR.gr (h : bOkR w) (e0 : w 0 ≤ w' 0) (hR : bRg w w' 191 207) : bOkR w' := by
  intro a c a0 a1 c0 c1
  rw [show bRoad w' a c = bRoad w a c from hR _ (by omega) (by omega), show bRoad w' c a = bRoad w c a from hR _ (by omega) (by omega)]
  obtain ⟨x, y, z⟩ := h a c a0 a1 c0 c1
  exact ⟨x, y, fun t => z (by omega)⟩
theorem bOkP.no (h : w 6 = 0) : bOkP w := fun i i0 i1 => by omega
theorem bNetAt.gr (c : 0 ≤ w 4 ∧ w 4 ≤ 2) (e4 : w' 4 = w 4) (hN : bRg w w' 62 76) (x : Int) : bNetAt w' x = bNetAt w x := by
  unfold bNetAt
  rw [e4]
  refine bFst_congr _ _ (fun j j0 j1 => ?_)
  rw [hN.net (n := j) (by omega) (by omega) (by omega) (by omega)]
theorem bManAt.gr (c : 0 ≤ w 3 ∧ w 3 ≤ 9) (e3 : w' 3 = w 3) (hM : bRg w w' 26 62) (n x : Int) : bManAt w' n x = bManAt w n x := by
  unfold bManAt
  rw [e3]
  refine bFst_congr _ _ (fun j j0 j1 => ?_)
  rw [hM.man (m := j) (q := 2) (by omega) (by omega) (by omega) (by omega), hM.man (m := j) (q := 3) (by omega) (by omega) (by omega) (by omega)]
theorem bRpW.gr (h : bRpW b w σ) (c : w 2 ≤ 9) (e2 : w' 2 = w 2) (hW : bRg w w' 8 26) (hN : ∀ x, bNetAt w' x = bNetAt w x) (h1 : σ' (b + 1) = σ (b + 1)) (h2 : σ' (b + 2) = σ (b + 2)) (h3 : σ' (b + 3) = σ (b + 3)) : bRpW b w' σ' := by
  intro k k0 k1
  rw [e2] at k1
  rw [h1, h2, h3, hN, show bHouse w' k = bHouse w k from hW _ (by omega) (by omega), show bStorey w' k = bStorey w k from hW _ (by omega) (by omega)]
  exact h k k0 k1
theorem bRpJ.gr (h : bRpJ b w σ) (c : w 5 ≤ 9) (e5 : w' 5 = w 5) (hJ : bRg w w' 173 191) (h1 : σ' (b + 4) = σ (b + 4)) (h2 : σ' (b + 5) = σ (b + 5)) : bRpJ b w' σ' := by
  intro j j0 j1
  rw [e5] at j1
  rw [h1, h2, show bWt w' j = bWt w j from hJ _ (by omega) (by omega), show bWin w' j = bWin w j from hJ _ (by omega) (by omega)]
  exact h j j0 j1
theorem bRpM.gr (h : bRpM b w σ) (c : w 3 ≤ 9) (e3 : w' 3 = w 3) (hM : bRg w w' 26 62) (h9 : σ' (b + 9) = σ (b + 9)) (h10 : σ' (b + 10) = σ (b + 10)) (h11 : σ' (b + 11) = σ (b + 11)) (h12 : σ' (b + 12) = σ (b + 12)) : bRpM b w' σ' := by
  intro m m0 m1
  rw [e3] at m1
  rw [h9, h10, h11, h12, hM.man (q := 0) m0 (by omega) (by omega) (by omega), hM.man (q := 1) m0 (by omega) (by omega) (by omega), hM.man (q := 2) m0 (by omega) (by omega) (by omega), hM.man (q := 3) m0 (by omega) (by omega) (by omega)]
  exact h m m0 m1
theorem bRpN.gr (h : bRpN b w σ) (c : w 4 ≤ 2) (e4 : w' 4 = w 4) (hN : bRg w w' 62 76) (h15 : σ' (b + 15) = σ (b + 15)) (h16 : σ' (b + 16) = σ (b + 16)) (h17 : σ' (b + 17) = σ (b + 17)) (h18 : σ' (b + 18) = σ (b + 18)) : bRpN b w' σ' := by
  intro n n0 n1
  rw [e4] at n1
  obtain ⟨e1, e2, e3, e4⟩ := h n n0 n1
  rw [h15, h16, h17, h18, hN.net (q := 0) n0 (by omega) (by omega) (by omega), hN.net (q := 1) n0 (by omega) (by omega) (by omega), hN.net (q := 2) n0 (by omega) (by omega) (by omega)]
  refine ⟨e1, e2, e3, fun c c0 c1 => ?_⟩
  rw [hN.net (q := 3 + c) n0 (by omega) (by omega) (by omega)]
  exact e4 c c0 c1
theorem bRpH.gr (h : bRpH b w σ) (hb : b = 27) (hM : ∀ n c, bManAt w' n c = bManAt w n c) (h19 : σ' (b + 19) = σ (b + 19)) : bRpH b w' σ' := by
  intro n c n0 n1 c0 c1
  rw [h19, hM]
  exact h n c n0 ⟨n1.1, Or.inr hb⟩ c0 c1
theorem bRpP.no (h : w 6 = 0) : bRpP b w σ := fun i i0 i1 => by omega
/-- the draft: in the class's street at 27, and in the reference's row -/
def bDr (w : bW) (σ : on_S) : Prop := bOk w ∧ bRp 27 w σ ∧ w 6 = 0
theorem bDr.k (h : bDr w σ) : bOk w := h.1
theorem bDr.r (h : bDr w σ) : bRp 27 w σ := h.2.1
theorem bDr.z (h : bDr w σ) : w 6 = 0 := h.2.2
theorem bDr.to (h : bDr w σ) (hc : ∀ c, 27 ≤ c → c ≤ 51 → σ' c = σ c) : bDr w σ' := ⟨h.1, h.2.1.to fun k hk => hc _ (by omega) (by omega), h.2.2⟩
/-- one more window -/
theorem bDr_window (h : bDr w σ) {x s : Int} (k9 : w 2 < 9) (x0 : 0 ≤ x) (x1 : x < w 0) (s0 : 1 ≤ s) (s1 : s ≤ 6) (hw : w' = bUp (bUp (bUp w (8 + (2 * w 2)) x) ((8 + (2 * w 2)) + 1) s) 2 (w 2 + 1)) (hc : ∀ c, 27 ≤ c → c ≤ 51 → c ≠ 27 → c ≠ 28 → c ≠ 29 → c ≠ 30 → σ' c = σ c) (c0 : σ' 27 = bUp (σ 27) 3 (w 2 + 1)) (c1 : σ' 28 = bUp (σ 28) (w 2) x) (c2 : σ' 29 = bUp (σ 29) (w 2) s) (c3 : σ' 30 = bUp (σ 30) (w 2) (-1)) : bDr w' σ' := by
  obtain ⟨hk, hR, h6⟩ := h
  obtain ⟨q0, q1, q2, q3, q4, q5, q6, q7⟩ := hk.c
  have wi : ∀ i, w' i = if i = 2 then w 2 + 1 else if i = (8 + (2 * w 2)) + 1 then s else if i = 8 + (2 * w 2) then x else w i := fun i => by rw [hw]; rfl
  have w2 : w' 2 = w 2 + 1 := by rw [wi, if_pos rfl]
  have wn : ∀ i, i ≠ 2 → (i < 8 ∨ 26 ≤ i) → w' i = w i := fun i h2 hi => by rw [wi, if_neg h2, if_neg (by omega), if_neg (by omega)]
  have wo : ∀ k, 0 ≤ k → k < w 2 → bHouse w' k = bHouse w k ∧ bStorey w' k = bStorey w k := fun k k0 k1 => by
    refine ⟨?_, ?_⟩
    · show w' (8 + (2 * k)) = w (8 + (2 * k))
      rw [wi, if_neg (by omega), if_neg (by omega), if_neg (by omega)]
    · show w' ((8 + (2 * k)) + 1) = w ((8 + (2 * k)) + 1)
      rw [wi, if_neg (by omega), if_neg (by omega), if_neg (by omega)]
  have wx : bHouse w' (w 2) = x ∧ bStorey w' (w 2) = s := by
    refine ⟨?_, ?_⟩
    · show w' (8 + (2 * w 2)) = x
      rw [wi, if_neg (by omega), if_neg (by omega), if_pos rfl]
    · show w' ((8 + (2 * w 2)) + 1) = s
      rw [wi, if_neg (by omega), if_pos rfl]
  have rg : ∀ l u : Int, 26 ≤ l → bRg w w' l u := fun l u hl i i0 i1 => wn i (by omega) (by omega)
  have nA := bNetAt.gr (w := w) (w' := w') q4 (wn 4 (by omega) (by omega)) (rg 62 76 (by omega))
  have mA := bManAt.gr (w := w) (w' := w') q3 (wn 3 (by omega) (by omega)) (rg 26 62 (by omega))
  have e0 := wn 0 (by omega) (by omega)
  have e1 := wn 1 (by omega) (by omega)
  have e3 := wn 3 (by omega) (by omega)
  have e4 := wn 4 (by omega) (by omega)
  have e5 := wn 5 (by omega) (by omega)
  have e6 := wn 6 (by omega) (by omega)
  have e7 := wn 7 (by omega) (by omega)
  refine ⟨⟨?_, ?_, hk.m.gr q3.2 e0 e3 (by omega) (rg _ _ (by omega)), hk.d.gr q3.2 e3 (rg _ _ (by omega)), hk.n.gr q4.2 e4 (by omega) (rg _ _ (by omega)), hk.e.gr q4.2 e4 (rg _ _ (by omega)), hk.q.rg (rg _ _ (by omega)), hk.f.rg (rg _ _ (by omega)), hk.j.gr q5.2 e5 (by omega) (rg _ _ (by omega)), hk.r.gr (by omega) (rg _ _ (by omega)), bOkP.no (by omega)⟩, ⟨?_, ?_, hR.j.gr q5.2 e5 (rg _ _ (by omega)) (hc _ (by omega) (by omega) (by omega) (by omega) (by omega) (by omega)) (hc _ (by omega) (by omega) (by omega) (by omega) (by omega) (by omega)), hR.f.rg (rg _ _ (by omega)) (rg _ _ (by omega)) (hc _ (by omega) (by omega) (by omega) (by omega) (by omega) (by omega)) (hc _ (by omega) (by omega) (by omega) (by omega) (by omega) (by omega)), hR.m.gr q3.2 e3 (rg _ _ (by omega)) (hc _ (by omega) (by omega) (by omega) (by omega) (by omega) (by omega)) (hc _ (by omega) (by omega) (by omega) (by omega) (by omega) (by omega)) (hc _ (by omega) (by omega) (by omega) (by omega) (by omega) (by omega)) (hc _ (by omega) (by omega) (by omega) (by omega) (by omega) (by omega)), hR.q.rg (rg _ _ (by omega)) (hc _ (by omega) (by omega) (by omega) (by omega) (by omega) (by omega)), hR.n.gr q4.2 e4 (rg _ _ (by omega)) (hc _ (by omega) (by omega) (by omega) (by omega) (by omega) (by omega)) (hc _ (by omega) (by omega) (by omega) (by omega) (by omega) (by omega)) (hc _ (by omega) (by omega) (by omega) (by omega) (by omega) (by omega)) (hc _ (by omega) (by omega) (by omega) (by omega) (by omega) (by omega)), hR.h.gr rfl mA (hc _ (by omega) (by omega) (by omega) (by omega) (by omega) (by omega)), bRpP.no (by omega)⟩, by omega⟩
  · unfold bOkC; rw [e0, e1, w2, e3, e4, e5, e6, e7]; exact ⟨q0, q1, by omega, q3, q4, q5, q6, q7⟩
  · intro k k0 k1
    by_cases e : k = w 2
    · rw [e, wx.1, wx.2]; omega
    · rw [(wo k k0 (by omega)).1, (wo k k0 (by omega)).2, e0]; exact hk.wi k k0 (by omega)
  · obtain ⟨r0, r1, r2, r3, r4, r5, r6, r7⟩ := hR.c
    unfold bRpC
    rw [c0, hc (27 + 8) (by omega) (by omega) (by omega) (by omega) (by omega) (by omega), hc (27 + 14) (by omega) (by omega) (by omega) (by omega) (by omega) (by omega), hc (27 + 20) (by omega) (by omega) (by omega) (by omega) (by omega) (by omega), e0, e1, w2, e3, e4, e5, e6, e7, bUp_ne (by omega), bUp_ne (by omega), bUp_ne (by omega), bUp_eq, bUp_ne (by omega)]
    exact ⟨r0, r1, r2, rfl, r4, r5, r6, r7⟩
  · intro k k0 k1
    show σ' 28 k = _ ∧ σ' 29 k = _ ∧ σ' 30 k = _
    rw [c1, c2, c3, nA]
    by_cases e : k = w 2
    · subst e
      rw [bUp_eq, bUp_eq, bUp_eq, wx.1, wx.2]
      refine ⟨rfl, rfl, ?_⟩
      rcases bNetAt_spec hk.c (w 2) with ⟨a, -⟩ | ⟨a, b, c⟩
      · exact a.symm
      · have := (hk.n _ a b).1; omega
    · rw [bUp_ne e, bUp_ne e, bUp_ne e, (wo k k0 (by omega)).1, (wo k k0 (by omega)).2]
      exact hR.wi k k0 (by omega)
/-- one more man -/
theorem bDr_man (h : bDr w σ) {x s : Int} (k9 : w 3 < 9) (x0 : 0 ≤ x) (x1 : x < w 0) (s0 : 1 ≤ s) (s1 : s ≤ 60) (hw : w' = bUp (bUp (bUp (bUp (bUp w (26 + (4 * w 3)) x) ((26 + (4 * w 3)) + 1) s) ((26 + (4 * w 3)) + 2) (-1)) ((26 + (4 * w 3)) + 3) (-1)) 3 (w 3 + 1)) (hc : ∀ c, 27 ≤ c → c ≤ 51 → c ≠ 35 → c ≠ 36 → c ≠ 37 → c ≠ 38 → c ≠ 39 → σ' c = σ c) (c0 : σ' 35 = bUp (σ 35) 0 (w 3 + 1)) (c1 : σ' 36 = bUp (σ 36) (w 3) x) (c2 : σ' 37 = bUp (σ 37) (w 3) s) (c3 : σ' 38 = bUp (σ 38) (w 3) (-1)) (c4 : σ' 39 = bUp (σ 39) (w 3) (-1)) : bDr w' σ' := by
  obtain ⟨hk, hR, h6⟩ := h
  obtain ⟨q0, q1, q2, q3, q4, q5, q6, q7⟩ := hk.c
  have wi : ∀ i, w' i = if i = 3 then w 3 + 1 else if i = (26 + (4 * w 3)) + 3 then -1 else if i = (26 + (4 * w 3)) + 2 then -1 else if i = (26 + (4 * w 3)) + 1 then s else if i = 26 + (4 * w 3) then x else w i := fun i => by rw [hw]; rfl
  have w3 : w' 3 = w 3 + 1 := by rw [wi, if_pos rfl]
  have wn : ∀ i, i ≠ 3 → (i < 26 ∨ 62 ≤ i) → w' i = w i := fun i h2 hi => by rw [wi, if_neg h2, if_neg (by omega), if_neg (by omega), if_neg (by omega), if_neg (by omega)]
  have wo : ∀ m q, 0 ≤ m → m < w 3 → 0 ≤ q → q < 4 → bMan w' m q = bMan w m q := fun m q m0 m1 q0 q1 => by
    show w' ((26 + (4 * m)) + q) = w ((26 + (4 * m)) + q)
    rw [wi, if_neg (by omega), if_neg (by omega), if_neg (by omega), if_neg (by omega), if_neg (by omega)]
  have wx0 : bMan w' (w 3) 0 = x := by
    show w' ((26 + (4 * w 3)) + 0) = x
    rw [wi, if_neg (by omega), if_neg (by omega), if_neg (by omega), if_neg (by omega), if_pos (by omega)]
  have wx1 : bMan w' (w 3) 1 = s := by
    show w' ((26 + (4 * w 3)) + 1) = s
    rw [wi, if_neg (by omega), if_neg (by omega), if_neg (by omega), if_pos rfl]
  have wx2 : bMan w' (w 3) 2 = -1 := by
    show w' ((26 + (4 * w 3)) + 2) = -1
    rw [wi, if_neg (by omega), if_neg (by omega), if_pos rfl]
  have wx3 : bMan w' (w 3) 3 = -1 := by
    show w' ((26 + (4 * w 3)) + 3) = -1
    rw [wi, if_neg (by omega), if_pos rfl]
  have rg : ∀ l u : Int, 4 ≤ l → (u ≤ 26 ∨ 62 ≤ l) → bRg w w' l u := fun l u hl hu i i0 i1 => wn i (by omega) (by omega)
  have nA := bNetAt.gr (w := w) (w' := w') q4 (wn 4 (by omega) (by omega)) (rg 62 76 (by omega) (by omega))
  have e0 := wn 0 (by omega) (by omega)
  have e1 := wn 1 (by omega) (by omega)
  have e2 := wn 2 (by omega) (by omega)
  have e4 := wn 4 (by omega) (by omega)
  have e5 := wn 5 (by omega) (by omega)
  have e6 := wn 6 (by omega) (by omega)
  have e7 := wn 7 (by omega) (by omega)
  have okC : bOkC w' := by unfold bOkC; rw [e0, e1, e2, w3, e4, e5, e6, e7]; exact ⟨q0, q1, q2, by omega, q4, q5, q6, q7⟩
  have H : ∀ n c, 0 ≤ n → bManAt w' n c = bManAt w n c := by
    intro n c n0
    rcases bManAt_spec hk.c n c with ⟨a, b⟩ | ⟨a, b, d, e⟩
    · rw [a]
      refine bManAt_none okC fun m m0 m1 t => ?_
      by_cases em : m = w 3
      · rw [em, wx2] at t; omega
      · rw [wo m 2 m0 (by omega) (by omega) (by omega), wo m 3 m0 (by omega) (by omega) (by omega)] at t
        exact b m m0 (by omega) t
    · -- the first is the same
      unfold bManAt
      rw [w3, show (w 3 + 1).toNat = (w 3).toNat + 1 by omega]
      have ap : ∀ (p : Int → Bool) (r : Nat) (k : Int), bFst p r k ≠ -1 → bFst p (r + 1) k = bFst p r k := by
        intro p r
        induction r with
        | zero => intro k t; exact absurd rfl t
        | succ r ih =>
          intro k t
          unfold bFst at t ⊢
          cases hp : p k with
          | true => rfl
          | false =>
            rw [hp, if_neg Bool.false_ne_true] at t
            rw [if_neg Bool.false_ne_true, if_neg Bool.false_ne_true]
            exact ih (k + 1) t
      have cg : bFst (fun m => decide (bMan w' m 2 = n ∧ bMan w' m 3 = c)) (w 3).toNat 0 = bFst (fun m => decide (bMan w m 2 = n ∧ bMan w m 3 = c)) (w 3).toNat 0 := bFst_congr _ _ (fun j j0 j1 => by
        rw [wo j 2 (by omega) (by omega) (by omega) (by omega), wo j 3 (by omega) (by omega) (by omega) (by omega)])
      have nz : bFst (fun m => decide (bMan w m 2 = n ∧ bMan w m 3 = c)) (w 3).toNat 0 ≠ -1 := fun t => by
        have : bManAt w n c = -1 := t
        omega
      rw [ap _ _ _ (by rw [cg]; exact nz), cg]
  have hc' : ∀ c, 27 ≤ c → c ≤ 51 → (c < 35 ∨ 39 < c) → σ' c = σ c := fun c a b d => hc c a b (by omega) (by omega) (by omega) (by omega) (by omega)
  refine ⟨⟨okC, hk.wi.gr q2.2 e0 e2 (rg _ _ (by omega) (by omega)), ?_, ?_, hk.n.gr q4.2 e4 (by omega) (rg _ _ (by omega) (by omega)), hk.e.gr q4.2 e4 (rg _ _ (by omega) (by omega)), hk.q.rg (rg _ _ (by omega) (by omega)), hk.f.rg (rg _ _ (by omega) (by omega)), hk.j.gr q5.2 e5 (by omega) (rg _ _ (by omega) (by omega)), hk.r.gr (by omega) (rg _ _ (by omega) (by omega)), bOkP.no (by omega)⟩, ⟨?_, hR.wi.gr q2.2 e2 (rg _ _ (by omega) (by omega)) nA (hc' _ (by omega) (by omega) (by omega)) (hc' _ (by omega) (by omega) (by omega)) (hc' _ (by omega) (by omega) (by omega)), hR.j.gr q5.2 e5 (rg _ _ (by omega) (by omega)) (hc' _ (by omega) (by omega) (by omega)) (hc' _ (by omega) (by omega) (by omega)), hR.f.rg (rg _ _ (by omega) (by omega)) (rg _ _ (by omega) (by omega)) (hc' _ (by omega) (by omega) (by omega)) (hc' _ (by omega) (by omega) (by omega)), ?_, hR.q.rg (rg _ _ (by omega) (by omega)) (hc' _ (by omega) (by omega) (by omega)), hR.n.gr q4.2 e4 (rg _ _ (by omega) (by omega)) (hc' _ (by omega) (by omega) (by omega)) (hc' _ (by omega) (by omega) (by omega)) (hc' _ (by omega) (by omega) (by omega)) (hc' _ (by omega) (by omega) (by omega)), ?_, bRpP.no (by omega)⟩, by omega⟩
  · intro m m0 m1
    by_cases e : m = w 3
    · rw [e, wx0, wx1, wx2, wx3, e0]; exact ⟨⟨x0, x1⟩, ⟨s0, s1⟩, Or.inl ⟨rfl, rfl⟩⟩
    · rw [wo m 0 m0 (by omega) (by omega) (by omega), wo m 1 m0 (by omega) (by omega) (by omega), wo m 2 m0 (by omega) (by omega) (by omega), wo m 3 m0 (by omega) (by omega) (by omega), e0, e4]
      exact hk.m m m0 (by omega)
  · intro m m' m0 m1 n0 n1
    by_cases e : m = w 3
    · rw [e, wx2]; intro t; exact absurd rfl t
    · rw [wo m 2 m0 (by omega) (by omega) (by omega), wo m 3 m0 (by omega) (by omega) (by omega)]
      by_cases e' : m' = w 3
      · rw [e', wx2]; intro t t'; exact absurd t' t
      · rw [wo m' 2 n0 (by omega) (by omega) (by omega), wo m' 3 n0 (by omega) (by omega) (by omega)]
        exact hk.d m m' m0 (by omega) n0 (by omega)
  · obtain ⟨r0, r1, r2, r3, r4, r5, r6, r7⟩ := hR.c
    unfold bRpC
    rw [show σ' (27 + 8) = bUp (σ 35) 0 (w 3 + 1) from c0, hc' 27 (by omega) (by omega) (by omega), hc' (27 + 14) (by omega) (by omega) (by omega), hc' (27 + 20) (by omega) (by omega) (by omega), e0, e1, e2, w3, e4, e5, e6, e7, bUp_eq]
    exact ⟨r0, r1, r2, r3, r4, rfl, r6, r7⟩
  · intro m m0 m1
    show σ' 36 m = _ ∧ σ' 37 m = _ ∧ σ' 38 m = _ ∧ σ' 39 m = _
    rw [c1, c2, c3, c4]
    by_cases e : m = w 3
    · subst e
      rw [bUp_eq, bUp_eq, bUp_eq, bUp_eq, wx0, wx1, wx2, wx3]; exact ⟨rfl, rfl, rfl, rfl⟩
    · rw [bUp_ne e, bUp_ne e, bUp_ne e, bUp_ne e, wo m 0 m0 (by omega) (by omega) (by omega), wo m 1 m0 (by omega) (by omega) (by omega), wo m 2 m0 (by omega) (by omega) (by omega), wo m 3 m0 (by omega) (by omega) (by omega)]
      exact hR.m m m0 (by omega)
  · intro n c n0 n1 c0 c1
    rw [hc' _ (by omega) (by omega) (by omega), H n c n0]
    exact hR.h n c n0 ⟨n1.1, Or.inr rfl⟩ c0 c1
end O75
