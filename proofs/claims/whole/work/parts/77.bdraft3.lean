/-! B: street: the draft grows in both: quarrels, feuds, roads, jumpers, the head, lines -/
section O77
variable {w w' : bW} {b : Nat} {σ σ' : on_S}
theorem bDr_quarrel (h : bDr w σ) {x y v : Int} (x0 : 0 ≤ x) (x1 : x < w 3) (y0 : 0 ≤ y) (y1 : y < w 3) (v0 : 1 ≤ v) (v1 : v ≤ 9) (hw : w' = bUp (bUp w ((76 + (9 * x)) + y) v) ((76 + (9 * y)) + x) v) (hc : ∀ c, 27 ≤ c → c ≤ 51 → c ≠ 40 → σ' c = σ c) (d0 : σ' 40 = bUp (bUp (σ 40) ((x * 9) + y) v) ((y * 9) + x) v) : bDr w' σ' := by
  obtain ⟨hk, hR, h6⟩ := h
  obtain ⟨q0, q1, q2, q3, q4, q5, q6, q7⟩ := id hk.c
  have wi : ∀ i, w' i = if i = (76 + (9 * y)) + x then v else if i = (76 + (9 * x)) + y then v else w i := fun i => by rw [hw]; rfl
  have wn : ∀ i, (i < 76 ∨ 157 ≤ i) → w' i = w i := fun i hi => by rw [wi, if_neg (by omega), if_neg (by omega)]
  have rg : ∀ l u : Int, (u ≤ 76 ∨ 157 ≤ l) → bRg w w' l u := fun l u hu i i0 i1 => wn i (by omega)
  have hA := rg 0 8 (by omega)
  have nA := bRg.netAt (w := w) (w' := w') hk.c hA (rg 62 76 (by omega))
  have e6 : w' 6 = 0 := by rw [wn 6 (by omega)]; exact h6
  have qq : ∀ a c, 0 ≤ a → a < 9 → 0 ≤ c → c < 9 → bQ w' a c = if (a = x ∧ c = y) ∨ (a = y ∧ c = x) then v else bQ w a c := fun a c a0 a1 c0 c1 => by
    show w' ((76 + (9 * a)) + c) = if (a = x ∧ c = y) ∨ (a = y ∧ c = x) then v else w ((76 + (9 * a)) + c)
    rw [wi]
    by_cases u : (a = x ∧ c = y) ∨ (a = y ∧ c = x)
    · rw [if_pos u]
      rcases u with u | u
      · rw [u.1, u.2, if_pos (rfl : (76 + (9 * x)) + y = (76 + (9 * x)) + y)]; split <;> rfl
      · rw [u.1, u.2, if_pos rfl]
    · rw [if_neg u, if_neg (by omega), if_neg (by omega)]
  refine ⟨⟨hk.c.rg hA, hk.wi.rg hk.c hA (rg _ _ (by omega)), hk.m.rg hk.c hA (rg _ _ (by omega)), hk.d.rg hk.c hA (rg _ _ (by omega)), hk.n.rg hk.c hA (rg _ _ (by omega)), hk.e.rg hk.c hA (rg _ _ (by omega)), ?_, hk.f.rg (rg _ _ (by omega)), hk.j.rg hk.c hA (rg _ _ (by omega)), hk.r.rg hA (rg _ _ (by omega)), bOkP.no e6⟩, ⟨hR.c.rg hA (hc _ (by omega) (by omega) (by omega)) (hc _ (by omega) (by omega) (by omega)) (hc _ (by omega) (by omega) (by omega)) (hc _ (by omega) (by omega) (by omega)), hR.wi.rg hk.c hA (rg _ _ (by omega)) nA (hc _ (by omega) (by omega) (by omega)) (hc _ (by omega) (by omega) (by omega)) (hc _ (by omega) (by omega) (by omega)), hR.j.rg hk.c hA (rg _ _ (by omega)) (hc _ (by omega) (by omega) (by omega)) (hc _ (by omega) (by omega) (by omega)), hR.f.rg (rg _ _ (by omega)) (rg _ _ (by omega)) (hc _ (by omega) (by omega) (by omega)) (hc _ (by omega) (by omega) (by omega)), hR.m.rg hk.c hA (rg _ _ (by omega)) (hc _ (by omega) (by omega) (by omega)) (hc _ (by omega) (by omega) (by omega)) (hc _ (by omega) (by omega) (by omega)) (hc _ (by omega) (by omega) (by omega)), ?_, hR.n.rg hk.c hA (rg _ _ (by omega)) (hc _ (by omega) (by omega) (by omega)) (hc _ (by omega) (by omega) (by omega)) (hc _ (by omega) (by omega) (by omega)) (hc _ (by omega) (by omega) (by omega)), hR.h.rg hk.c hA (rg _ _ (by omega)) (hc _ (by omega) (by omega) (by omega)), bRpP.no e6⟩, e6⟩
  · intro a c a0 a1 c0 c1
    obtain ⟨z1, z2⟩ := hk.q a c a0 a1 c0 c1
    rw [qq a c a0 a1 c0 c1, qq c a c0 c1 a0 a1]
    by_cases u : (a = x ∧ c = y) ∨ (a = y ∧ c = x)
    · rw [if_pos u, if_pos (by omega)]; omega
    · rw [if_neg u, if_neg (by omega)]; exact ⟨z1, z2⟩
  · intro a c a0 a1 c0 c1
    rw [show σ' (27 + 13) = bUp (bUp (σ 40) ((x * 9) + y) v) ((y * 9) + x) v from d0, qq a c a0 a1 c0 c1]
    have z := hR.q a c a0 a1 c0 c1
    by_cases u : (a = x ∧ c = y) ∨ (a = y ∧ c = x)
    · rw [if_pos u]
      rcases u with u | u
      · rw [u.1, u.2]
        by_cases e : (x * 9) + y = (y * 9) + x
        · rw [e, bUp_eq]
        · rw [bUp_ne e, bUp_eq]
      · rw [u.1, u.2, bUp_eq]
    · rw [if_neg u, bUp_ne (by omega), bUp_ne (by omega)]; exact z
theorem bDr_feud (h : bDr w σ) {x y : Int} (x0 : 0 ≤ x) (x1 : x < w 0) (y0 : 0 ≤ y) (y1 : y < w 0) (hw : w' = bUp (bUp w ((157 + (4 * x)) + y) 1) ((157 + (4 * y)) + x) 1) (hc : ∀ c, 27 ≤ c → c ≤ 51 → c ≠ 33 → σ' c = σ c) (d0 : σ' 33 = bUp (bUp (σ 33) ((x * 4) + y) 1) ((y * 4) + x) 1) : bDr w' σ' := by
  obtain ⟨hk, hR, h6⟩ := h
  obtain ⟨q0, q1, q2, q3, q4, q5, q6, q7⟩ := id hk.c
  have wi : ∀ i, w' i = if i = (157 + (4 * y)) + x then 1 else if i = (157 + (4 * x)) + y then 1 else w i := fun i => by rw [hw]; rfl
  have wn : ∀ i, (i < 157 ∨ 173 ≤ i) → w' i = w i := fun i hi => by rw [wi, if_neg (by omega), if_neg (by omega)]
  have rg : ∀ l u : Int, (u ≤ 157 ∨ 173 ≤ l) → bRg w w' l u := fun l u hu i i0 i1 => wn i (by omega)
  have hA := rg 0 8 (by omega)
  have nA := bRg.netAt (w := w) (w' := w') hk.c hA (rg 62 76 (by omega))
  have e6 : w' 6 = 0 := by rw [wn 6 (by omega)]; exact h6
  have qq : ∀ a c, 0 ≤ a → a < 4 → 0 ≤ c → c < 4 → bFd w' a c = if (a = x ∧ c = y) ∨ (a = y ∧ c = x) then 1 else bFd w a c := fun a c a0 a1 c0 c1 => by
    show w' ((157 + (4 * a)) + c) = if (a = x ∧ c = y) ∨ (a = y ∧ c = x) then 1 else w ((157 + (4 * a)) + c)
    rw [wi]
    by_cases u : (a = x ∧ c = y) ∨ (a = y ∧ c = x)
    · rw [if_pos u]
      rcases u with u | u
      · rw [u.1, u.2, if_pos (rfl : (157 + (4 * x)) + y = (157 + (4 * x)) + y)]; split <;> rfl
      · rw [u.1, u.2, if_pos rfl]
    · rw [if_neg u, if_neg (by omega), if_neg (by omega)]
  refine ⟨⟨hk.c.rg hA, hk.wi.rg hk.c hA (rg _ _ (by omega)), hk.m.rg hk.c hA (rg _ _ (by omega)), hk.d.rg hk.c hA (rg _ _ (by omega)), hk.n.rg hk.c hA (rg _ _ (by omega)), hk.e.rg hk.c hA (rg _ _ (by omega)), hk.q.rg (rg _ _ (by omega)), ?_, hk.j.rg hk.c hA (rg _ _ (by omega)), hk.r.rg hA (rg _ _ (by omega)), bOkP.no e6⟩, ⟨hR.c.rg hA (hc _ (by omega) (by omega) (by omega)) (hc _ (by omega) (by omega) (by omega)) (hc _ (by omega) (by omega) (by omega)) (hc _ (by omega) (by omega) (by omega)), hR.wi.rg hk.c hA (rg _ _ (by omega)) nA (hc _ (by omega) (by omega) (by omega)) (hc _ (by omega) (by omega) (by omega)) (hc _ (by omega) (by omega) (by omega)), hR.j.rg hk.c hA (rg _ _ (by omega)) (hc _ (by omega) (by omega) (by omega)) (hc _ (by omega) (by omega) (by omega)), ?_, hR.m.rg hk.c hA (rg _ _ (by omega)) (hc _ (by omega) (by omega) (by omega)) (hc _ (by omega) (by omega) (by omega)) (hc _ (by omega) (by omega) (by omega)) (hc _ (by omega) (by omega) (by omega)), hR.q.rg (rg _ _ (by omega)) (hc _ (by omega) (by omega) (by omega)), hR.n.rg hk.c hA (rg _ _ (by omega)) (hc _ (by omega) (by omega) (by omega)) (hc _ (by omega) (by omega) (by omega)) (hc _ (by omega) (by omega) (by omega)) (hc _ (by omega) (by omega) (by omega)), hR.h.rg hk.c hA (rg _ _ (by omega)) (hc _ (by omega) (by omega) (by omega)), bRpP.no e6⟩, e6⟩
  · intro a c a0 a1 c0 c1
    rw [qq a c a0 a1 c0 c1]
    by_cases u : (a = x ∧ c = y) ∨ (a = y ∧ c = x)
    · rw [if_pos u]; omega
    · rw [if_neg u]; exact hk.f a c a0 a1 c0 c1
  · intro a c a0 a1 c0 c1
    have z := hR.f a c a0 a1 c0 c1
    rw [show σ' (27 + 6) = bUp (bUp (σ 33) ((x * 4) + y) 1) ((y * 4) + x) 1 from d0, qq a c a0 a1 c0 c1, hc (27 + 7) (by omega) (by omega) (by omega), show bRoad w' a c = bRoad w a c from rg 191 207 (by omega) _ (by omega) (by omega)]
    refine ⟨?_, z.2⟩
    by_cases u : (a = x ∧ c = y) ∨ (a = y ∧ c = x)
    · rw [if_pos u]
      rcases u with u | u
      · rw [u.1, u.2]
        by_cases e : (x * 4) + y = (y * 4) + x
        · rw [e, bUp_eq]
        · rw [bUp_ne e, bUp_eq]
      · rw [u.1, u.2, bUp_eq]
    · rw [if_neg u, bUp_ne (by omega), bUp_ne (by omega)]; exact z.1
theorem bDr_road (h : bDr w σ) {x y v : Int} (x0 : 0 ≤ x) (x1 : x < w 0) (y0 : 0 ≤ y) (y1 : y < w 0) (v0 : 1 ≤ v) (v1 : v ≤ 99) (hw : w' = bUp (bUp w ((191 + (4 * x)) + y) v) ((191 + (4 * y)) + x) v) (hc : ∀ c, 27 ≤ c → c ≤ 51 → c ≠ 34 → σ' c = σ c) (d0 : σ' 34 = bUp (bUp (σ 34) ((x * 4) + y) v) ((y * 4) + x) v) : bDr w' σ' := by
  obtain ⟨hk, hR, h6⟩ := h
  obtain ⟨q0, q1, q2, q3, q4, q5, q6, q7⟩ := id hk.c
  have wi : ∀ i, w' i = if i = (191 + (4 * y)) + x then v else if i = (191 + (4 * x)) + y then v else w i := fun i => by rw [hw]; rfl
  have wn : ∀ i, (i < 191 ∨ 207 ≤ i) → w' i = w i := fun i hi => by rw [wi, if_neg (by omega), if_neg (by omega)]
  have rg : ∀ l u : Int, (u ≤ 191 ∨ 207 ≤ l) → bRg w w' l u := fun l u hu i i0 i1 => wn i (by omega)
  have hA := rg 0 8 (by omega)
  have nA := bRg.netAt (w := w) (w' := w') hk.c hA (rg 62 76 (by omega))
  have e6 : w' 6 = 0 := by rw [wn 6 (by omega)]; exact h6
  have qq : ∀ a c, 0 ≤ a → a < 4 → 0 ≤ c → c < 4 → bRoad w' a c = if (a = x ∧ c = y) ∨ (a = y ∧ c = x) then v else bRoad w a c := fun a c a0 a1 c0 c1 => by
    show w' ((191 + (4 * a)) + c) = if (a = x ∧ c = y) ∨ (a = y ∧ c = x) then v else w ((191 + (4 * a)) + c)
    rw [wi]
    by_cases u : (a = x ∧ c = y) ∨ (a = y ∧ c = x)
    · rw [if_pos u]
      rcases u with u | u
      · rw [u.1, u.2, if_pos (rfl : (191 + (4 * x)) + y = (191 + (4 * x)) + y)]; split <;> rfl
      · rw [u.1, u.2, if_pos rfl]
    · rw [if_neg u, if_neg (by omega), if_neg (by omega)]
  refine ⟨⟨hk.c.rg hA, hk.wi.rg hk.c hA (rg _ _ (by omega)), hk.m.rg hk.c hA (rg _ _ (by omega)), hk.d.rg hk.c hA (rg _ _ (by omega)), hk.n.rg hk.c hA (rg _ _ (by omega)), hk.e.rg hk.c hA (rg _ _ (by omega)), hk.q.rg (rg _ _ (by omega)), hk.f.rg (rg _ _ (by omega)), hk.j.rg hk.c hA (rg _ _ (by omega)), ?_, bOkP.no e6⟩, ⟨hR.c.rg hA (hc _ (by omega) (by omega) (by omega)) (hc _ (by omega) (by omega) (by omega)) (hc _ (by omega) (by omega) (by omega)) (hc _ (by omega) (by omega) (by omega)), hR.wi.rg hk.c hA (rg _ _ (by omega)) nA (hc _ (by omega) (by omega) (by omega)) (hc _ (by omega) (by omega) (by omega)) (hc _ (by omega) (by omega) (by omega)), hR.j.rg hk.c hA (rg _ _ (by omega)) (hc _ (by omega) (by omega) (by omega)) (hc _ (by omega) (by omega) (by omega)), ?_, hR.m.rg hk.c hA (rg _ _ (by omega)) (hc _ (by omega) (by omega) (by omega)) (hc _ (by omega) (by omega) (by omega)) (hc _ (by omega) (by omega) (by omega)) (hc _ (by omega) (by omega) (by omega)), hR.q.rg (rg _ _ (by omega)) (hc _ (by omega) (by omega) (by omega)), hR.n.rg hk.c hA (rg _ _ (by omega)) (hc _ (by omega) (by omega) (by omega)) (hc _ (by omega) (by omega) (by omega)) (hc _ (by omega) (by omega) (by omega)) (hc _ (by omega) (by omega) (by omega)), hR.h.rg hk.c hA (rg _ _ (by omega)) (hc _ (by omega) (by omega) (by omega)), bRpP.no e6⟩, e6⟩
  · intro a c a0 a1 c0 c1
    obtain ⟨z1, z2, z3⟩ := hk.r a c a0 a1 c0 c1
    rw [qq a c a0 a1 c0 c1, qq c a c0 c1 a0 a1, wn 0 (by omega)]
    by_cases u : (a = x ∧ c = y) ∨ (a = y ∧ c = x)
    · rw [if_pos u, if_pos (by omega)]; exact ⟨by omega, rfl, fun t => by omega⟩
    · rw [if_neg u, if_neg (by omega)]; exact ⟨z1, z2, z3⟩
  · intro a c a0 a1 c0 c1
    have z := hR.f a c a0 a1 c0 c1
    rw [show σ' (27 + 7) = bUp (bUp (σ 34) ((x * 4) + y) v) ((y * 4) + x) v from d0, qq a c a0 a1 c0 c1, hc (27 + 6) (by omega) (by omega) (by omega), show bFd w' a c = bFd w a c from rg 157 173 (by omega) _ (by omega) (by omega)]
    refine ⟨z.1, ?_⟩
    by_cases u : (a = x ∧ c = y) ∨ (a = y ∧ c = x)
    · rw [if_pos u]
      rcases u with u | u
      · rw [u.1, u.2]
        by_cases e : (x * 4) + y = (y * 4) + x
        · rw [e, bUp_eq]
        · rw [bUp_ne e, bUp_eq]
      · rw [u.1, u.2, bUp_eq]
    · rw [if_neg u, bUp_ne (by omega), bUp_ne (by omega)]; exact z.2
theorem bDr_jumper (h : bDr w σ) {x s : Int} (k9 : w 5 < 9) (x0 : 0 ≤ x) (x1 : x < w 2) (s0 : 1 ≤ s) (s1 : s ≤ 99) (hw : w' = bUp (bUp (bUp w (173 + (2 * w 5)) s) ((173 + (2 * w 5)) + 1) x) 5 (w 5 + 1)) (hc : ∀ c, 27 ≤ c → c ≤ 51 → c ≠ 27 → c ≠ 31 → c ≠ 32 → σ' c = σ c) (c0 : σ' 27 = bUp (σ 27) 7 (w 5 + 1)) (c1 : σ' 31 = bUp (σ 31) (w 5) s) (c2 : σ' 32 = bUp (σ 32) (w 5) x) : bDr w' σ' := by
  obtain ⟨hk, hR, h6⟩ := h
  obtain ⟨q0, q1, q2, q3, q4, q5, q6, q7⟩ := id hk.c
  have wi : ∀ i, w' i = if i = 5 then w 5 + 1 else if i = (173 + (2 * w 5)) + 1 then x else if i = 173 + (2 * w 5) then s else w i := fun i => by rw [hw]; rfl
  have w5 : w' 5 = w 5 + 1 := by rw [wi, if_pos rfl]
  have wn : ∀ i, i ≠ 5 → (i < 173 ∨ 191 ≤ i) → w' i = w i := fun i h2 hi => by rw [wi, if_neg h2, if_neg (by omega), if_neg (by omega)]
  have wo : ∀ j, 0 ≤ j → j < w 5 → bWt w' j = bWt w j ∧ bWin w' j = bWin w j := fun j j0 j1 => by
    refine ⟨?_, ?_⟩
    · show w' (173 + (2 * j)) = w (173 + (2 * j))
      rw [wi, if_neg (by omega), if_neg (by omega), if_neg (by omega)]
    · show w' ((173 + (2 * j)) + 1) = w ((173 + (2 * j)) + 1)
      rw [wi, if_neg (by omega), if_neg (by omega), if_neg (by omega)]
  have wx : bWt w' (w 5) = s ∧ bWin w' (w 5) = x := by
    refine ⟨?_, ?_⟩
    · show w' (173 + (2 * w 5)) = s
      rw [wi, if_neg (by omega), if_neg (by omega), if_pos rfl]
    · show w' ((173 + (2 * w 5)) + 1) = x
      rw [wi, if_neg (by omega), if_pos rfl]
  have rg : ∀ l u : Int, 6 ≤ l → (u ≤ 173 ∨ 191 ≤ l) → bRg w w' l u := fun l u hl hu i i0 i1 => wn i (by omega) (by omega)
  have nA := bNetAt.gr (w := w) (w' := w') q4 (wn 4 (by omega) (by omega)) (rg 62 76 (by omega) (by omega))
  have mA := bManAt.gr (w := w) (w' := w') q3 (wn 3 (by omega) (by omega)) (rg 26 62 (by omega) (by omega))
  have e0 := wn 0 (by omega) (by omega)
  have e1 := wn 1 (by omega) (by omega)
  have e2 := wn 2 (by omega) (by omega)
  have e3 := wn 3 (by omega) (by omega)
  have e4 := wn 4 (by omega) (by omega)
  have e6 := wn 6 (by omega) (by omega)
  have e7 := wn 7 (by omega) (by omega)
  have hc' : ∀ c, 27 ≤ c → c ≤ 51 → c ≠ 27 → c ≠ 31 → c ≠ 32 → σ' c = σ c := hc
  refine ⟨⟨?_, hk.wi.gr q2.2 e0 e2 (rg _ _ (by omega) (by omega)), hk.m.gr q3.2 e0 e3 (by omega) (rg _ _ (by omega) (by omega)), hk.d.gr q3.2 e3 (rg _ _ (by omega) (by omega)), hk.n.gr q4.2 e4 (by omega) (rg _ _ (by omega) (by omega)), hk.e.gr q4.2 e4 (rg _ _ (by omega) (by omega)), hk.q.rg (rg _ _ (by omega) (by omega)), hk.f.rg (rg _ _ (by omega) (by omega)), ?_, hk.r.gr (by omega) (rg _ _ (by omega) (by omega)), bOkP.no (by omega)⟩, ⟨?_, hR.wi.gr q2.2 e2 (rg _ _ (by omega) (by omega)) nA (hc' _ (by omega) (by omega) (by omega) (by omega) (by omega)) (hc' _ (by omega) (by omega) (by omega) (by omega) (by omega)) (hc' _ (by omega) (by omega) (by omega) (by omega) (by omega)), ?_, hR.f.rg (rg _ _ (by omega) (by omega)) (rg _ _ (by omega) (by omega)) (hc' _ (by omega) (by omega) (by omega) (by omega) (by omega)) (hc' _ (by omega) (by omega) (by omega) (by omega) (by omega)), hR.m.gr q3.2 e3 (rg _ _ (by omega) (by omega)) (hc' _ (by omega) (by omega) (by omega) (by omega) (by omega)) (hc' _ (by omega) (by omega) (by omega) (by omega) (by omega)) (hc' _ (by omega) (by omega) (by omega) (by omega) (by omega)) (hc' _ (by omega) (by omega) (by omega) (by omega) (by omega)), hR.q.rg (rg _ _ (by omega) (by omega)) (hc' _ (by omega) (by omega) (by omega) (by omega) (by omega)), hR.n.gr q4.2 e4 (rg _ _ (by omega) (by omega)) (hc' _ (by omega) (by omega) (by omega) (by omega) (by omega)) (hc' _ (by omega) (by omega) (by omega) (by omega) (by omega)) (hc' _ (by omega) (by omega) (by omega) (by omega) (by omega)) (hc' _ (by omega) (by omega) (by omega) (by omega) (by omega)), hR.h.gr rfl mA (hc' _ (by omega) (by omega) (by omega) (by omega) (by omega)), bRpP.no (by omega)⟩, by omega⟩
  · unfold bOkC; rw [e0, e1, e2, e3, e4, w5, e6, e7]; exact ⟨q0, q1, q2, q3, q4, by omega, q6, q7⟩
  · intro j j0 j1
    rw [e2]
    by_cases e : j = w 5
    · rw [e, wx.1, wx.2]; omega
    · rw [(wo j j0 (by omega)).1, (wo j j0 (by omega)).2]; exact hk.j j j0 (by omega)
  · obtain ⟨r0, r1, r2, r3, r4, r5, r6, r7⟩ := hR.c
    unfold bRpC
    rw [c0, hc' (27 + 8) (by omega) (by omega) (by omega) (by omega) (by omega), hc' (27 + 14) (by omega) (by omega) (by omega) (by omega) (by omega), hc' (27 + 20) (by omega) (by omega) (by omega) (by omega) (by omega), e0, e1, e2, e3, e4, w5, e6, e7, bUp_ne (by omega), bUp_ne (by omega), bUp_ne (by omega), bUp_ne (by omega), bUp_eq]
    exact ⟨r0, r1, r2, r3, rfl, r5, r6, r7⟩
  · intro j j0 j1
    show σ' 31 j = _ ∧ σ' 32 j = _
    rw [c1, c2]
    by_cases e : j = w 5
    · subst e
      rw [bUp_eq, bUp_eq, wx.1, wx.2]; exact ⟨rfl, rfl⟩
    · rw [bUp_ne e, bUp_ne e, (wo j j0 (by omega)).1, (wo j j0 (by omega)).2]
      exact hR.j j j0 (by omega)
/-- the head of a street of which nothing has been told -/
theorem bDr_head (h : bDr w σ) {x s : Int} (hz : ∀ i, 0 ≤ i → i < 687 → w i = 0) (x0 : 2 ≤ x) (x1 : x ≤ 4) (s0 : 1 ≤ s) (s1 : s ≤ 6) (hw : w' = bUp (bUp w 0 x) 1 s) (hc : ∀ c, 27 ≤ c → c ≤ 51 → c ≠ 27 → σ' c = σ c) (c0 : σ' 27 = bUp (bUp (σ 27) 0 x) 1 s) : bDr w' σ' := by
  obtain ⟨hk, hR, h6⟩ := h
  obtain ⟨q0, q1, q2, q3, q4, q5, q6, q7⟩ := id hk.c
  have z2 := hz 2 (by omega) (by omega)
  have z3 := hz 3 (by omega) (by omega)
  have z4 := hz 4 (by omega) (by omega)
  have z5 := hz 5 (by omega) (by omega)
  have wi : ∀ i, w' i = if i = 1 then s else if i = 0 then x else w i := fun i => by rw [hw]; rfl
  have wn : ∀ i, i ≠ 0 → i ≠ 1 → w' i = w i := fun i h0 h1 => by rw [wi, if_neg h1, if_neg h0]
  have rg : ∀ l u : Int, 2 ≤ l → bRg w w' l u := fun l u hl i i0 i1 => wn i (by omega) (by omega)
  have w0 : w' 0 = x := by rw [wi, if_neg (by omega), if_pos rfl]
  have w1 : w' 1 = s := by rw [wi, if_pos rfl]
  have e2 := wn 2 (by omega) (by omega)
  have e3 := wn 3 (by omega) (by omega)
  have e4 := wn 4 (by omega) (by omega)
  have e5 := wn 5 (by omega) (by omega)
  have e6 := wn 6 (by omega) (by omega)
  have e7 := wn 7 (by omega) (by omega)
  have mA := bManAt.gr (w := w) (w' := w') q3 e3 (rg 26 62 (by omega))
  refine ⟨⟨?_, fun k k0 k1 => by omega, fun k k0 k1 => by omega, fun k _ k0 k1 => by omega, fun k k0 k1 => by omega, fun k _ k0 k1 => by omega, hk.q.rg (rg _ _ (by omega)), hk.f.rg (rg _ _ (by omega)), fun k k0 k1 => by omega, ?_, bOkP.no (by omega)⟩, ⟨?_, fun k k0 k1 => by omega, fun k k0 k1 => by omega, hR.f.rg (rg _ _ (by omega)) (rg _ _ (by omega)) (hc _ (by omega) (by omega) (by omega)) (hc _ (by omega) (by omega) (by omega)), fun k k0 k1 => by omega, hR.q.rg (rg _ _ (by omega)) (hc _ (by omega) (by omega) (by omega)), fun k k0 k1 => by omega, hR.h.gr rfl mA (hc _ (by omega) (by omega) (by omega)), bRpP.no (by omega)⟩, by omega⟩
  · unfold bOkC; rw [w0, w1, e2, e3, e4, e5, e6, e7]; exact ⟨by omega, by omega, q2, q3, q4, q5, q6, q7⟩
  · intro a c a0 a1 c0 c1
    have r : ∀ a c : Int, 0 ≤ a → a < 4 → 0 ≤ c → c < 4 → bRoad w' a c = 0 := fun a c a0 a1 c0 c1 => by
      show w' ((191 + (4 * a)) + c) = 0
      rw [wn _ (by omega) (by omega)]; exact hz _ (by omega) (by omega)
    rw [r a c a0 a1 c0 c1, r c a c0 c1 a0 a1]; exact ⟨by omega, rfl, fun _ => rfl⟩
  · obtain ⟨r0, r1, r2, r3, r4, r5, r6, r7⟩ := hR.c
    unfold bRpC
    rw [c0, hc (27 + 8) (by omega) (by omega) (by omega), hc (27 + 14) (by omega) (by omega) (by omega), hc (27 + 20) (by omega) (by omega) (by omega), w0, w1, e2, e3, e4, e5, e6, e7, bUp_ne (by omega), bUp_eq, bUp_eq, bUp_ne (by omega), bUp_ne (by omega), bUp_ne (by omega), bUp_ne (by omega), bUp_ne (by omega), bUp_ne (by omega)]
    exact ⟨rfl, rfl, r2, r3, r4, r5, r6, r7⟩
/-- one more line -/
theorem bDr_line (h : bDr w σ) (h7 : w 7 < 1400) (hw : w' = bUp w 7 (w 7 + 1)) (hc : ∀ c, 27 ≤ c → c ≤ 51 → c ≠ 27 → σ' c = σ c) (c0 : σ' 27 = bUp (σ 27) 2 (w 7 + 1)) : bDr w' σ' := by
  obtain ⟨hk, hR, h6⟩ := h
  obtain ⟨q0, q1, q2, q3, q4, q5, q6, q7⟩ := id hk.c
  have wn : ∀ i, i ≠ 7 → w' i = w i := fun i h0 => by rw [hw]; exact bUp_ne h0
  have w7 : w' 7 = w 7 + 1 := by rw [hw]; exact bUp_eq
  have rg : ∀ l u : Int, 8 ≤ l → bRg w w' l u := fun l u hl i i0 i1 => wn i (by omega)
  have e0 := wn 0 (by omega)
  have e1 := wn 1 (by omega)
  have e2 := wn 2 (by omega)
  have e3 := wn 3 (by omega)
  have e4 := wn 4 (by omega)
  have e5 := wn 5 (by omega)
  have e6 := wn 6 (by omega)
  have nA := bNetAt.gr (w := w) (w' := w') q4 e4 (rg 62 76 (by omega))
  have mA := bManAt.gr (w := w) (w' := w') q3 e3 (rg 26 62 (by omega))
  refine ⟨⟨?_, hk.wi.gr q2.2 e0 e2 (rg _ _ (by omega)), hk.m.gr q3.2 e0 e3 (by omega) (rg _ _ (by omega)), hk.d.gr q3.2 e3 (rg _ _ (by omega)), hk.n.gr q4.2 e4 (by omega) (rg _ _ (by omega)), hk.e.gr q4.2 e4 (rg _ _ (by omega)), hk.q.rg (rg _ _ (by omega)), hk.f.rg (rg _ _ (by omega)), hk.j.gr q5.2 e5 (by omega) (rg _ _ (by omega)), hk.r.gr (by omega) (rg _ _ (by omega)), bOkP.no (by omega)⟩, ⟨?_, hR.wi.gr q2.2 e2 (rg _ _ (by omega)) nA (hc _ (by omega) (by omega) (by omega)) (hc _ (by omega) (by omega) (by omega)) (hc _ (by omega) (by omega) (by omega)), hR.j.gr q5.2 e5 (rg _ _ (by omega)) (hc _ (by omega) (by omega) (by omega)) (hc _ (by omega) (by omega) (by omega)), hR.f.rg (rg _ _ (by omega)) (rg _ _ (by omega)) (hc _ (by omega) (by omega) (by omega)) (hc _ (by omega) (by omega) (by omega)), hR.m.gr q3.2 e3 (rg _ _ (by omega)) (hc _ (by omega) (by omega) (by omega)) (hc _ (by omega) (by omega) (by omega)) (hc _ (by omega) (by omega) (by omega)) (hc _ (by omega) (by omega) (by omega)), hR.q.rg (rg _ _ (by omega)) (hc _ (by omega) (by omega) (by omega)), hR.n.gr q4.2 e4 (rg _ _ (by omega)) (hc _ (by omega) (by omega) (by omega)) (hc _ (by omega) (by omega) (by omega)) (hc _ (by omega) (by omega) (by omega)) (hc _ (by omega) (by omega) (by omega)), hR.h.gr rfl mA (hc _ (by omega) (by omega) (by omega)), bRpP.no (by omega)⟩, by omega⟩
  · unfold bOkC; rw [e0, e1, e2, e3, e4, e5, e6, w7]; exact ⟨q0, q1, q2, q3, q4, q5, q6, by omega⟩
  · obtain ⟨r0, r1, r2, r3, r4, r5, r6, r7⟩ := hR.c
    unfold bRpC
    rw [c0, hc (27 + 8) (by omega) (by omega) (by omega), hc (27 + 14) (by omega) (by omega) (by omega), hc (27 + 20) (by omega) (by omega) (by omega), e0, e1, e2, e3, e4, e5, e6, w7, bUp_ne (by omega), bUp_ne (by omega), bUp_eq, bUp_ne (by omega), bUp_ne (by omega)]
    exact ⟨r0, r1, rfl, r3, r4, r5, r6, r7⟩
end O77
