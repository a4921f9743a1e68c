/-! B: jump, undo -/
/-- but for the jumps and how many they are -/
def bLo (w w' : bW) : Prop := ∀ i : Int, i < 207 → i ≠ 6 → w' i = w i
section L44
variable {w w' : bW} {σ σ' : on_S}
theorem bLo.rg (h : bLo w w') {l t : Int} (hl : 7 ≤ l) (ht : t ≤ 207) : bRg w w' l t := fun i i0 i1 => h i (by omega) (by omega)
theorem bLo.netAt (h : bLo w w') (hc : bOkC w) (x : Int) : bNetAt w' x = bNetAt w x := by
  obtain ⟨q0, q1, q2, q3, q4, q5, q6, q7⟩ := hc
  unfold bNetAt
  rw [h 4 (by omega) (by omega)]
  exact bFst_congr _ _ (fun j j0 j1 => by rw [(h.rg (l := 62) (t := 76) (by omega) (by omega)).net (n := j) (q := 0) (by omega) (by omega) (by omega) (by omega)])
theorem bLo.at (h : bLo w w') (hc : bOkC w) (n : Int) : bAt w' n = bAt w n := by
  obtain ⟨q0, q1, q2, q3, q4, q5, q6, q7⟩ := hc
  funext c
  unfold bAt bManAt
  rw [h 3 (by omega) (by omega)]
  refine bFst_congr _ _ (fun j j0 j1 => ?_)
  have hM := h.rg (l := 26) (t := 62) (by omega) (by omega)
  rw [hM.man (m := j) (q := 2) (by omega) (by omega) (by omega) (by omega), hM.man (m := j) (q := 3) (by omega) (by omega) (by omega) (by omega)]
theorem bLo.ok (h : bLo w w') (hk : bOk w) (h6 : 0 ≤ w' 6 ∧ w' 6 ≤ 60) (hP : bOkP w') : bOk w' := by
  obtain ⟨k1, k2, k3, k4, k5, k6, k7, k8, k9, k10, k11⟩ := hk
  obtain ⟨q0, q1, q2, q3, q4, q5, q6, q7⟩ := id k1
  have e0 := h 0 (by omega) (by omega)
  have e1 := h 1 (by omega) (by omega)
  have e2 := h 2 (by omega) (by omega)
  have e3 := h 3 (by omega) (by omega)
  have e4 := h 4 (by omega) (by omega)
  have e5 := h 5 (by omega) (by omega)
  have e7 := h 7 (by omega) (by omega)
  have hM := h.rg (l := 26) (t := 62) (by omega) (by omega)
  have hN := h.rg (l := 62) (t := 76) (by omega) (by omega)
  refine ⟨?_, ?_, ?_, ?_, ?_, ?_, k7.rg (h.rg (by omega) (by omega)), k8.rg (h.rg (by omega) (by omega)), ?_, ?_, hP⟩
  · unfold bOkC; rw [e0, e1, e2, e3, e4, e5, e7]; exact ⟨q0, q1, q2, q3, q4, q5, h6, q7⟩
  · intro k k0 kk
    rw [e2] at kk
    rw [e0, show bHouse w' k = bHouse w k from h _ (by omega) (by omega), show bStorey w' k = bStorey w k from h _ (by omega) (by omega)]
    exact k2 k k0 kk
  · intro m m0 m1
    rw [e3] at m1
    rw [e0, e4, hM.man (q := 0) m0 (by omega) (by omega) (by omega), hM.man (q := 1) m0 (by omega) (by omega) (by omega), hM.man (q := 2) m0 (by omega) (by omega) (by omega), hM.man (q := 3) m0 (by omega) (by omega) (by omega)]
    exact k3 m m0 m1
  · intro m m' m0 m1 n0 n1
    rw [e3] at m1 n1
    rw [hM.man (q := 2) m0 (by omega) (by omega) (by omega), hM.man (q := 3) m0 (by omega) (by omega) (by omega), hM.man (q := 2) n0 (by omega) (by omega) (by omega), hM.man (q := 3) n0 (by omega) (by omega) (by omega)]
    exact k4 m m' m0 m1 n0 n1
  · intro n n0 n1
    rw [e4] at n1
    rw [e2, hN.net (q := 0) n0 (by omega) (by omega) (by omega), hN.net (q := 1) n0 (by omega) (by omega) (by omega), hN.net (q := 2) n0 (by omega) (by omega) (by omega)]
    refine ⟨(k5 n n0 n1).1, (k5 n n0 n1).2.1, (k5 n n0 n1).2.2.1, fun c c0 c1 => ?_⟩
    rw [hN.net (q := 3 + c) n0 (by omega) (by omega) (by omega)]
    exact (k5 n n0 n1).2.2.2 c c0 c1
  · intro m m' m0 m1 n0 n1
    rw [e4] at m1 n1
    rw [hN.net (q := 0) m0 (by omega) (by omega) (by omega), hN.net (q := 0) n0 (by omega) (by omega) (by omega)]
    exact k6 m m' m0 m1 n0 n1
  · intro j j0 j1
    rw [e5] at j1
    rw [e2, show bWt w' j = bWt w j from h _ (by omega) (by omega), show bWin w' j = bWin w j from h _ (by omega) (by omega)]
    exact k9 j j0 j1
  · intro a c a0 a1 c0 c1
    rw [e0, show bRoad w' a c = bRoad w a c from h _ (by omega) (by omega), show bRoad w' c a = bRoad w c a from h _ (by omega) (by omega)]
    exact k10 a c a0 a1 c0 c1
theorem bLo.rp (h : bLo w w') (hk : bOk w) (hR : bRp 2 w σ) (hC : ∀ c : Nat, 2 ≤ c → c ≤ 21 → σ' c = σ c) (h22 : σ' (2 + 20) 0 = w' 6) (hP : bRpP 2 w' σ') : bRp 2 w' σ' := by
  obtain ⟨k1, k2, k3, k4, k5, k6, k7, k8, k9, k10, k11⟩ := hk
  obtain ⟨q0, q1, q2, q3, q4, q5, q6, q7⟩ := id k1
  obtain ⟨r1, r2, r3, r4, r5, r6, r7, r8, r9⟩ := hR
  have e0 := h 0 (by omega) (by omega)
  have e1 := h 1 (by omega) (by omega)
  have e2 := h 2 (by omega) (by omega)
  have e3 := h 3 (by omega) (by omega)
  have e4 := h 4 (by omega) (by omega)
  have e5 := h 5 (by omega) (by omega)
  have e7 := h 7 (by omega) (by omega)
  have hM := h.rg (l := 26) (t := 62) (by omega) (by omega)
  have hN := h.rg (l := 62) (t := 76) (by omega) (by omega)
  refine ⟨?_, ?_, ?_, r4.rg (h.rg (by omega) (by omega)) (h.rg (by omega) (by omega)) (hC 8 (by omega) (by omega)) (hC 9 (by omega) (by omega)), ?_, r6.rg (h.rg (by omega) (by omega)) (hC 15 (by omega) (by omega)), ?_, ?_, hP⟩
  · obtain ⟨a0, a1, a2, a3, a4, a5, a6, a7⟩ := r1
    refine ⟨?_, ?_, ?_, ?_, ?_, ?_, ?_, h22⟩
    · rw [hC 2 (by omega) (by omega), e0]; exact a0
    · rw [hC 2 (by omega) (by omega), e1]; exact a1
    · rw [hC 2 (by omega) (by omega), e7]; exact a2
    · rw [hC 2 (by omega) (by omega), e2]; exact a3
    · rw [hC 2 (by omega) (by omega), e5]; exact a4
    · rw [hC (2 + 8) (by omega) (by omega), e3]; exact a5
    · rw [hC (2 + 14) (by omega) (by omega), e4]; exact a6
  · intro k k0 kk
    rw [e2] at kk
    rw [hC (2 + 1) (by omega) (by omega), hC (2 + 2) (by omega) (by omega), hC (2 + 3) (by omega) (by omega), h.netAt k1, show bHouse w' k = bHouse w k from h _ (by omega) (by omega), show bStorey w' k = bStorey w k from h _ (by omega) (by omega)]
    exact r2 k k0 kk
  · intro j j0 j1
    rw [e5] at j1
    rw [hC (2 + 4) (by omega) (by omega), hC (2 + 5) (by omega) (by omega), show bWt w' j = bWt w j from h _ (by omega) (by omega), show bWin w' j = bWin w j from h _ (by omega) (by omega)]
    exact r3 j j0 j1
  · intro m m0 m1
    rw [e3] at m1
    rw [hC (2 + 9) (by omega) (by omega), hC (2 + 10) (by omega) (by omega), hC (2 + 11) (by omega) (by omega), hC (2 + 12) (by omega) (by omega), hM.man (q := 0) m0 (by omega) (by omega) (by omega), hM.man (q := 1) m0 (by omega) (by omega) (by omega), hM.man (q := 2) m0 (by omega) (by omega) (by omega), hM.man (q := 3) m0 (by omega) (by omega) (by omega)]
    exact r5 m m0 m1
  · intro n n0 n1
    rw [e4] at n1
    obtain ⟨f1, f2, f3, f4⟩ := r7 n n0 n1
    rw [hC (2 + 15) (by omega) (by omega), hC (2 + 16) (by omega) (by omega), hC (2 + 17) (by omega) (by omega), hC (2 + 18) (by omega) (by omega), hN.net (q := 0) n0 (by omega) (by omega) (by omega), hN.net (q := 1) n0 (by omega) (by omega) (by omega), hN.net (q := 2) n0 (by omega) (by omega) (by omega)]
    refine ⟨f1, f2, f3, fun c c0 c1 => ?_⟩
    rw [hN.net (q := 3 + c) n0 (by omega) (by omega) (by omega)]
    exact f4 c c0 c1
  · intro n c n0 n1 c0 c1
    rw [hC (2 + 19) (by omega) (by omega), show bManAt w' n c = bManAt w n c from congrFun (h.at k1 n) c]
    rw [e4] at n1
    exact r8 n c n0 n1 c0 c1
theorem bLo.hold (h : bLo w w') (hk : bOk w) {p : Int → Int} (hp : bPo w p) {n x wet c : Int} (n0 : 0 ≤ n) (n1 : n < w 4) (x0 : 0 ≤ x) (x1 : x < w 2) (c0 : 0 ≤ c) (c1 : c < 4) : bHold w' p n x wet c = bHold w p n x wet c := by
  obtain ⟨q0, q1, q2, q3, q4, q5, q6, q7⟩ := hk.c
  have hpc := hp c c0 c1
  have hx := (hk.wi x x0 x1).1
  have pq : ∀ d, 0 ≤ d → d < 4 → bPq w' p c d = bPq w p c d := by
    intro d d0 d1
    have hpd := hp d d0 d1
    unfold bPq
    by_cases e : p c = -1 ∨ p d = -1
    · rw [if_pos e, if_pos e]
    · rw [if_neg e, if_neg e]
      exact h _ (by omega) (by omega)
  have eK : bKn w' n wet c = bKn w n wet c := by
    unfold bKn
    rw [(h.rg (l := 62) (t := 76) (by omega) (by omega)).net (q := 3 + c) n0 (by omega) (by omega) (by omega)]
  unfold bHold
  rw [pq _ (by omega) (by omega), pq _ (by omega) (by omega), eK]
  by_cases z : p c = -1
  · rw [if_pos (Or.inl z), if_pos (Or.inl z)]
  · have hm := hk.m (p c) (by omega) (by omega)
    have hM := h.rg (l := 26) (t := 62) (by omega) (by omega)
    have eW : bWill w' (p c) x ↔ bWill w (p c) x := by
      unfold bWill
      rw [hM.man (q := 0) (by omega) (by omega) (by omega) (by omega), show bHouse w' x = bHouse w x from h _ (by omega) (by omega), show bFd w' (bMan w (p c) 0) (bHouse w x) = bFd w (bMan w (p c) 0) (bHouse w x) from h _ (by omega) (by omega)]
    by_cases y : bWill w (p c) x
    · rw [if_neg (fun t => t.elim z (fun s => s (eW.mpr y))), if_neg (fun t => t.elim z (fun s => s y)), hM.man (q := 1) (by omega) (by omega) (by omega) (by omega)]
    · rw [if_pos (Or.inr (fun s => y (eW.mp s))), if_pos (Or.inr y)]
theorem bLo.f (h : bLo w w') (hk : bOk w) {n : Int} (n0 : 0 ≤ n) (n1 : n < w 4) : bCar w' n (bNet w' n 2) = bCar w n (bNet w n 2) ∧ bWeak (bHold w' (bAt w' n) n (bNet w' n 0) (bNet w' n 2)) = bWeak (bHold w (bAt w n) n (bNet w n 0) (bNet w n 2)) ∧ bNet w' n 1 * bStorey w' (bNet w' n 0) = bNet w n 1 * bStorey w (bNet w n 0) := by
  obtain ⟨q0, q1, q2, q3, q4, q5, q6, q7⟩ := hk.c
  have hn := (hk.n n n0 n1).1
  have hN := h.rg (l := 62) (t := 76) (by omega) (by omega)
  unfold bCar
  rw [hN.net (q := 0) n0 (by omega) (by omega) (by omega), hN.net (q := 1) n0 (by omega) (by omega) (by omega), hN.net (q := 2) n0 (by omega) (by omega) (by omega), h.at hk.c, show bStorey w' (bNet w n 0) = bStorey w (bNet w n 0) from h _ (by omega) (by omega)]
  refine ⟨?_, ?_, rfl⟩
  · rw [bLst_congr (fun c c0 c1 => h.hold hk (bAt_po hk.c n) n0 n1 hn.1 hn.2 c0 c1)]
  · exact bWeak_congr (fun c c0 c1 => h.hold hk (bAt_po hk.c n) n0 n1 hn.1 hn.2 c0 c1)
end L44
def bHh (w : bW) (n f : Int) : Int := if f ≤ bCar w n (bNet w n 2) then 1 else 0
def bGg (w : bW) (n f : Int) : Int := if f ≤ bCar w n (bNet w n 2) then -1 else bWeak (bHold w (bAt w n) n (bNet w n 0) (bNet w n 2))
theorem bHG (w : bW) (n f : Int) : bHh w n f = (if bGg w n f = -1 then 1 else 0) ∧ (-1 ≤ bGg w n f ∧ bGg w n f < 4) ∧ (bHh w n f = 0 ∨ bHh w n f = 1) := by
  have := bWeak_b (bHold w (bAt w n) n (bNet w n 0) (bNet w n 2))
  unfold bHh bGg
  by_cases z : f ≤ bCar w n (bNet w n 2)
  · rw [if_pos z, if_pos z]; exact ⟨rfl, by omega, Or.inr rfl⟩
  · rw [if_neg z, if_neg z, if_neg (by omega)]; exact ⟨rfl, by omega, Or.inl rfl⟩
/-- the street behind a jump of jumper j on net n -/
def bJx (w wl : bW) (j n H G : Int) : bW := fun i => if i = 6 then w 6 + 1 else if i = 207 + (8 * w 6) then j else if i = 207 + (8 * w 6) + 1 then H else if i = 207 + (8 * w 6) + 2 then G else if i = 207 + (8 * w 6) + 3 then n else if 207 + (8 * w 6) + 4 ≤ i ∧ i < 207 + (8 * w 6) + 8 then bNet w n (3 + (i - (207 + (8 * w 6) + 4))) else wl i
abbrev bJw (w : bW) (j n f : Int) : bW := bJx w (bLd w n f) j n (bHh w n f) (bGg w n f)
section J44
variable {w wl : bW} {j n f H G : Int}
theorem bJx_lo (h6 : 0 ≤ w 6) : bLo wl (bJx w wl j n H G) := by
  intro i h1 h2
  unfold bJx
  rw [if_neg h2, if_neg (by omega), if_neg (by omega), if_neg (by omega), if_neg (by omega), if_neg (by omega)]
theorem bJx_6 : bJx w wl j n H G 6 = w 6 + 1 := if_pos rfl
theorem bJx_r0 (h6 : 0 ≤ w 6) : bJp (bJx w wl j n H G) (w 6) 0 = j := by
  show bJx w wl j n H G ((207 + (8 * w 6)) + 0) = _
  unfold bJx; rw [if_neg (by omega), if_pos (by omega)]
theorem bJx_r1 (h6 : 0 ≤ w 6) : bJp (bJx w wl j n H G) (w 6) 1 = H := by
  show bJx w wl j n H G ((207 + (8 * w 6)) + 1) = _
  unfold bJx; rw [if_neg (by omega), if_neg (by omega), if_pos rfl]
theorem bJx_r2 (h6 : 0 ≤ w 6) : bJp (bJx w wl j n H G) (w 6) 2 = G := by
  show bJx w wl j n H G ((207 + (8 * w 6)) + 2) = _
  unfold bJx; rw [if_neg (by omega), if_neg (by omega), if_neg (by omega), if_pos rfl]
theorem bJx_r3 (h6 : 0 ≤ w 6) : bJp (bJx w wl j n H G) (w 6) 3 = n := by
  show bJx w wl j n H G ((207 + (8 * w 6)) + 3) = _
  unfold bJx; rw [if_neg (by omega), if_neg (by omega), if_neg (by omega), if_neg (by omega), if_pos rfl]
theorem bJx_r4 (h6 : 0 ≤ w 6) {c : Int} (c0 : 0 ≤ c) (c1 : c < 4) : bJp (bJx w wl j n H G) (w 6) (4 + c) = bNet w n (3 + c) := by
  show bJx w wl j n H G ((207 + (8 * w 6)) + (4 + c)) = _
  unfold bJx; rw [if_neg (by omega), if_neg (by omega), if_neg (by omega), if_neg (by omega), if_neg (by omega), if_pos (by omega)]
  congr 1; omega
theorem bJx_old (hl : ∀ i, 207 ≤ i → wl i = w i) {i q : Int} (i0 : 0 ≤ i) (i1 : i < w 6) (q0 : 0 ≤ q) (q1 : q < 8) : bJp (bJx w wl j n H G) i q = bJp w i q := by
  show bJx w wl j n H G ((207 + (8 * i)) + q) = w ((207 + (8 * i)) + q)
  unfold bJx
  rw [if_neg (by omega), if_neg (by omega), if_neg (by omega), if_neg (by omega), if_neg (by omega), if_neg (by omega)]
  exact hl _ (by omega)
theorem bLd_hi (n0 : 0 ≤ n) (n1 : n < 2) : ∀ i, 207 ≤ i → bLd w n f i = w i := fun i h => bLd_kx n0 n1 i (by omega) (by omega)
theorem bJw_ok (hk : bOk w) (h60 : w 6 < 60) (j0 : 0 ≤ j) (j1 : j < w 5) (n0 : 0 ≤ n) (n1 : n < w 4) (hnj : n = bNetAt w (bWin w j)) : bOk (bJw w j n f) := by
  obtain ⟨q0, q1, q2, q3, q4, q5, q6, q7⟩ := hk.c
  have kx := bLd_kx (w := w) (f := f) n0 (show n < 2 by omega)
  have k1 := bLd_ok hk n0 n1 (f := f)
  have lo := bJx_lo (w := w) (wl := bLd w n f) (j := j) (n := n) (H := bHh w n f) (G := bGg w n f) q6.1
  have e5 : bJx w (bLd w n f) j n (bHh w n f) (bGg w n f) 5 = w 5 := (lo 5 (by omega) (by omega)).trans (kx 5 (by omega) (by omega))
  have e4 : bJx w (bLd w n f) j n (bHh w n f) (bGg w n f) 4 = w 4 := (lo 4 (by omega) (by omega)).trans (kx 4 (by omega) (by omega))
  have eN : ∀ x, bNetAt (bJx w (bLd w n f) j n (bHh w n f) (bGg w n f)) x = bNetAt w x := fun x => (lo.netAt k1.c x).trans (kx.netAt hk.c x)
  have eW : ∀ a, 0 ≤ a → a < w 5 → bWin (bJx w (bLd w n f) j n (bHh w n f) (bGg w n f)) a = bWin w a := fun a a0 a1 => (lo _ (by omega) (by omega)).trans (kx _ (by omega) (by omega))
  have hl := bLd_hi (w := w) (f := f) n0 (show n < 2 by omega)
  have hg := bHG w n f
  refine lo.ok k1 (by rw [bJx_6]; omega) (fun i i0 i1 => ?_)
  rw [bJx_6] at i1
  rw [e5, e4, eN]
  by_cases e : i = w 6
  · subst e
    rw [bJx_r0 q6.1, bJx_r1 q6.1, bJx_r2 q6.1, bJx_r3 q6.1, eW j j0 j1]
    refine ⟨⟨j0, j1⟩, hg.1, hg.2.1, ⟨hnj, n0, n1⟩, fun c c0 c1 => ?_⟩
    rw [bJx_r4 q6.1 c0 c1]
    exact (hk.n n n0 n1).2.2.2 c c0 c1
  · have hi := hk.p i i0 (by omega)
    rw [bJx_old hl i0 (by omega) (by omega) (by omega), bJx_old hl i0 (by omega) (by omega) (by omega), bJx_old hl i0 (by omega) (by omega) (by omega), bJx_old hl i0 (by omega) (by omega) (by omega), eW _ hi.1.1 hi.1.2]
    refine ⟨hi.1, hi.2.1, hi.2.2.1, hi.2.2.2.1, fun c c0 c1 => ?_⟩
    rw [bJx_old hl i0 (by omega) (by omega) (by omega)]
    exact hi.2.2.2.2 c c0 c1
end J44
theorem bOkP.of {w w' : bW} (h : bOkP w) (e6 : w' 6 = w 6) (e5 : w' 5 = w 5) (e4 : w' 4 = w 4) (eN : ∀ x, bNetAt w' x = bNetAt w x) (eW : ∀ a, 0 ≤ a → a < w 5 → bWin w' a = bWin w a) (hrow : ∀ i q, 0 ≤ i → i < w 6 → 0 ≤ q → q < 8 → bJp w' i q = bJp w i q) : bOkP w' := by
  intro i i0 i1
  rw [e6] at i1
  have hi := h i i0 i1
  rw [e5, e4, eN, hrow i 0 i0 i1 (by omega) (by omega), hrow i 1 i0 i1 (by omega) (by omega), hrow i 2 i0 i1 (by omega) (by omega), hrow i 3 i0 i1 (by omega) (by omega), eW _ hi.1.1 hi.1.2]
  refine ⟨hi.1, hi.2.1, hi.2.2.1, hi.2.2.2.1, fun c c0 c1 => ?_⟩
  rw [hrow i (4 + c) i0 i1 (by omega) (by omega)]
  exact hi.2.2.2.2 c c0 c1
theorem bLd_lo {w w' : bW} (h : bLo w w') (hk : bOk w) {n f : Int} (n0 : 0 ≤ n) (n1 : n < w 4) (i : Int) : bLd w' n f i = if ((62 + (7 * n)) + 3) ≤ i ∧ i < ((62 + (7 * n)) + 7) then bLd w n f i else w' i := by
  obtain ⟨q0, q1, q2, q3, q4, q5, q6, q7⟩ := hk.c
  obtain ⟨a, b, c⟩ := h.f hk n0 n1
  by_cases e : ((62 + (7 * n)) + 3) ≤ i ∧ i < ((62 + (7 * n)) + 7)
  · rw [if_pos e]
    unfold bLd
    rw [if_pos e, if_pos e, a, b, c, h i (by omega) (by omega)]
  · rw [if_neg e]
    unfold bLd
    rw [if_neg e]
section O44
variable {n : Nat} {σ : on_S} {p q t : Int}
theorem o_jump (hI : bI n σ) (hp : on_R p) : bOp n σ (pf_X11_jump p) (pf_X12_jump p) := by
  obtain ⟨q0, q1, q2, q3, q4, q5, q6, q7⟩ := hI.k.c
  by_cases h : 0 ≤ p ∧ p < σ 78 5
  · have hj := (hI.k.j p h.1 h.2).2
    have hb := bNetAt_b hI.k.c (bWin (σ 78) p)
    have hf := bForce_b hI.k h.1 h.2
    have ecnt := hI.r.c.2.2.2.2.2.2.2
    by_cases z : bNetAt (σ 78) (bWin (σ 78) p) = -1
    · refine bOp.no (r := -5) hI (by omega) ?_ ?_
      · unfold pf_X11_jump
        rw [bCl (c_hasJumper hI.k hI.r hp), bE01, if_pos h, bCl (c_netBelow hI.k hI.r h.1 h.2), bEqT (by omega) z]
      · unfold pf_X12_jump
        rw [bCl (m_isJumper hI.k hp), bE01, if_pos h, bCl (m_windowOf h.1 (by omega)), bCl (m_netAt hI.k (by omega)), bEqT (by omega) z]
    · by_cases y : σ 78 6 = 60
      · refine bOp.no (r := -5) hI (by omega) ?_ ?_
        · unfold pf_X11_jump
          rw [bCl (c_hasJumper hI.k hI.r hp), bE01, if_pos h, bCl (c_netBelow hI.k hI.r h.1 h.2), bEqF (by omega) (by omega) z, bGt, ecnt, bLtF (by omega) (by omega) (by omega)]
        · unfold pf_X12_jump
          rw [bCl (m_isJumper hI.k hp), bE01, if_pos h, bCl (m_windowOf h.1 (by omega)), bCl (m_netAt hI.k (by omega)), bEqF (by omega) (by omega) z, bRd (by omega) (by omega), bEqT (by omega) y]
      · -- the class
        have hnet : 0 ≤ bNetAt (σ 78) (bWin (σ 78) p) ∧ bNetAt (σ 78) (bWin (σ 78) p) < σ 78 4 := by omega
        generalize hN : bNetAt (σ 78) (bWin (σ 78) p) = N at hb z hnet
        generalize hF : bForce (σ 78) p = F at hf
        have hg := bHG (σ 78) N F
        have hl := bLd_hi (w := σ 78) (f := F) hnet.1 (show N < 2 by omega)
        have okJ := bJw_ok (w := σ 78) (j := p) (n := N) (f := F) hI.k (by omega) h.1 h.2 hnet.1 hnet.2 hN.symm
        have cls : ∃ σ' : on_S, pf_X11_jump p σ = some (bHh (σ 78) N F, σ') ∧ bRp 2 (bJw (σ 78) p N F) σ' ∧ (∀ c, ¬ (20 ≤ c ∧ c ≤ 26) → σ' c = σ c) := by
          have hRk : bRp 2 (σ 78) (on_cp (on_st σ (2 + 21) (σ 78 6) p) (2 + 18) (N * 4) (2 + 23) (σ 78 6 * 4) 4) := by
            obtain ⟨r1, r2, r3, r4, r5, r6, r7, r8, r9⟩ := hI.r
            have e : ∀ c, c ≠ 23 → c ≠ 25 → on_cp (on_st σ (2 + 21) (σ 78 6) p) (2 + 18) (N * 4) (2 + 23) (σ 78 6 * 4) 4 c = σ c := fun c c1 c2 => by rw [bcp_nc c2, bst_nc c1]
            unfold bRp bRpC bRpW bRpJ bRpF bRpM bRpQ bRpN bRpH at *
            rw [e 2 (by omega) (by omega), e (2 + 1) (by omega) (by omega), e (2 + 2) (by omega) (by omega), e (2 + 3) (by omega) (by omega), e (2 + 4) (by omega) (by omega), e (2 + 5) (by omega) (by omega), e (2 + 6) (by omega) (by omega), e (2 + 7) (by omega) (by omega), e (2 + 8) (by omega) (by omega), e (2 + 9) (by omega) (by omega), e (2 + 10) (by omega) (by omega), e (2 + 11) (by omega) (by omega), e (2 + 12) (by omega) (by omega), e (2 + 13) (by omega) (by omega), e (2 + 14) (by omega) (by omega), e (2 + 15) (by omega) (by omega), e (2 + 16) (by omega) (by omega), e (2 + 17) (by omega) (by omega), e (2 + 18) (by omega) (by omega), e (2 + 19) (by omega) (by omega), e (2 + 20) (by omega) (by omega)]
            refine ⟨r1, r2, r3, r4, r5, r6, r7, r8, fun i i0 i1 => ?_⟩
            obtain ⟨f1, f2, f3⟩ := r9 i i0 i1
            rw [bcp_nc (show 2 + 21 ≠ 2 + 23 by omega), bst_ni (by omega), e (2 + 22) (by omega) (by omega)]
            refine ⟨f1, f2, fun c c0 c1 => ?_⟩
            rw [bcp_if, if_neg (by omega), bst_nc (by omega)]
            exact f3 c c0 c1
          obtain ⟨σ2, a1, a2, a3⟩ := c_measureLeft hI.k hRk
          have hR2 : bRp 2 (σ 78) σ2 := hRk.to fun k hk => a3 _ (by omega)
          obtain ⟨σ3, b1, b2, b3⟩ := c_fallInto hI.k hR2 a2 hnet.1 hnet.2 (f := F) (by omega)
          have k1 := bLd_ok hI.k hnet.1 hnet.2 (f := F)
          have lo := bJx_lo (w := σ 78) (wl := bLd (σ 78) N F) (j := p) (n := N) (H := bHh (σ 78) N F) (G := bGg (σ 78) N F) q6.1
          have c3 : σ3 (2 + 20) 0 = σ 78 6 := by rw [b3 _ (by omega), a3 _ (by omega), bcp_nc (by omega), bst_nc (by omega), ecnt]
          rw [show (if F ≤ bCar (σ 78) N (bNet (σ 78) N 2) then -1 else bWeak (bHold (σ 78) (bAt (σ 78) N) N (bNet (σ 78) N 0) (bNet (σ 78) N 2))) = bGg (σ 78) N F from rfl] at b1
          refine ⟨on_st (on_st σ3 (2 + 22) (σ 78 6) (bGg (σ 78) N F)) (2 + 20) 0 (σ 78 6 + 1), ?_, ?_, ?_⟩
          · unfold pf_X11_jump pf_X2_keep
            rw [bCl (c_hasJumper hI.k hI.r hp), bE01, if_pos h, bCl (c_netBelow hI.k hI.r h.1 h.2), hN, bEqF (by omega) (by omega) z, bGt, ecnt, bLtT (by omega) (by omega) (by omega), bGt, ecnt, bLtT (by omega) (by omega) (by omega), bGt, ecnt, bWr (by omega) (by omega), bGt, bst_nc (by omega), ecnt, bCp (by omega) (by omega) (by omega) (by omega) (by omega), bClS, bCl a1, bCl (c_forceOf hI.k hR2 h.1 h.2), hF, bCl b1]
            unfold pf_X2_close
            rw [bGt, c3, bLtT (by omega) (by omega) (by omega), bGt, c3, bWr (by omega) (by omega), bGt, bst_nc (by omega), c3, bPt, bClS, bEqS (by omega) (by omega)]
            rw [← hg.1]
          · refine lo.rp k1 b2 (fun c c2 c21 => by rw [bst_nc (by omega), bst_nc (by omega)]) (by rw [bst_eq, bJx_6]) (fun i i0 i1 => ?_)
            rw [bJx_6] at i1
            have e25 : σ3 (2 + 23) = on_cp (on_st σ (2 + 21) (σ 78 6) p) (2 + 18) (N * 4) (2 + 23) (σ 78 6 * 4) 4 (2 + 23) := by rw [b3 _ (by omega), a3 _ (by omega)]
            have e23 : σ3 (2 + 21) = on_st σ (2 + 21) (σ 78 6) p (2 + 21) := by rw [b3 _ (by omega), a3 _ (by omega), bcp_nc (by omega)]
            have e24 : σ3 (2 + 22) = σ (2 + 22) := by rw [b3 _ (by omega), a3 _ (by omega), bcp_nc (by omega), bst_nc (by omega)]
            rw [bst_nc (show 2 + 21 ≠ 2 + 20 by omega), bst_nc (show 2 + 21 ≠ 2 + 22 by omega), bst_nc (show 2 + 22 ≠ 2 + 20 by omega), bst_nc (show 2 + 23 ≠ 2 + 20 by omega), bst_nc (show 2 + 23 ≠ 2 + 22 by omega), e23, e25]
            by_cases e : i = σ 78 6
            · subst e
              rw [bst_eq, bst_eq, bJx_r0 q6.1, bJx_r2 q6.1]
              refine ⟨rfl, rfl, fun c c0 c1 => ?_⟩
              rw [bcp_if, if_pos (by omega), bst_nc (by omega), bJx_r4 q6.1 c0 c1, show N * 4 + (σ 78 6 * 4 + c - σ 78 6 * 4) = N * 4 + c by omega]
              exact (hI.r.n N hnet.1 hnet.2).2.2.2 c c0 c1
            · obtain ⟨f1, f2, f3⟩ := hI.r.p i i0 (by omega)
              rw [bst_ni e, bst_ni e, e24, bJx_old hl i0 (by omega) (by omega) (by omega), bJx_old hl i0 (by omega) (by omega) (by omega)]
              refine ⟨f1, f2, fun c c0 c1 => ?_⟩
              rw [bcp_if, if_neg (by omega), bst_nc (by omega), bJx_old hl i0 (by omega) (by omega) (by omega)]
              exact f3 c c0 c1
          · intro c hc
            rw [bst_nc (by omega), bst_nc (by omega), b3 c (by omega), a3 c (by omega), bcp_nc (by omega), bst_nc (by omega)]
        obtain ⟨σ1, a1, a2, a3⟩ := cls
        have w1 : σ1 78 = σ 78 := a3 78 (by omega)
        have hk1 : bOk (σ1 78) := by rw [w1]; exact hI.k
        -- the reference
        have mdl : ∃ σ' : on_S, pf_X12_jump p σ1 = some (bHh (σ 78) N F, σ') ∧ σ' 78 = bJw (σ 78) p N F ∧ (∀ c, c ≠ 77 → c ≠ 78 → c ≠ 84 → σ' c = σ1 c) ∧ ∀ i, i ≠ 16 → σ' 77 i = σ1 77 i := by
          have L : ∀ (r nf : Nat) (k : Int) (σ' : on_S), 0 ≤ k → k + (r : Int) = 4 → r < nf → (∀ c, c ≠ 78 → σ' c = σ1 c) → (∀ i, σ' 78 i = if 207 + (8 * σ 78 6) + 4 ≤ i ∧ i < 207 + (8 * σ 78 6) + 4 + k then bNet (σ 78) N (3 + (i - (207 + (8 * σ 78 6) + 4))) else σ 78 i) → ∃ σ'' : on_S, pf_X12_jump_59 nf p N (207 + (8 * σ 78 6)) k σ' = some (bHh (σ 78) N F, σ'') ∧ σ'' 78 = bJw (σ 78) p N F ∧ (∀ c, c ≠ 77 → c ≠ 78 → c ≠ 84 → σ'' c = σ1 c) ∧ ∀ i, i ≠ 16 → σ'' 77 i = σ1 77 i := by
            intro r
            induction r with
            | zero =>
              intro nf k σ' k0 hk hnf h1 h2
              cases nf with
              | zero => omega
              | succ nf =>
                have k4 : k = 4 := by omega
                subst k4
                have wA : ∀ i, on_st σ' 78 (207 + (8 * σ 78 6)) p 78 i = if i = 207 + (8 * σ 78 6) then p else if 207 + (8 * σ 78 6) + 4 ≤ i ∧ i < 207 + (8 * σ 78 6) + 8 then bNet (σ 78) N (3 + (i - (207 + (8 * σ 78 6) + 4))) else σ 78 i := by
                  intro i
                  rw [bst_if, h2, show 207 + (8 * σ 78 6) + 4 + 4 = 207 + (8 * σ 78 6) + 8 by omega]
                have lo : bLo (σ 78) (on_st σ' 78 (207 + (8 * σ 78 6)) p 78) := by
                  intro i i0 i1
                  rw [wA, if_neg (by omega), if_neg (by omega)]
                have e6 : on_st σ' 78 (207 + (8 * σ 78 6)) p 78 6 = σ 78 6 := by rw [wA, if_neg (by omega), if_neg (by omega)]
                have okA : bOk (on_st σ' 78 (207 + (8 * σ 78 6)) p 78) := by
                  refine lo.ok hI.k (by rw [e6]; exact q6) (hI.k.p.of e6 (lo 5 (by omega) (by omega)) (lo 4 (by omega) (by omega)) (lo.netAt hI.k.c) (fun a a0 a1 => lo _ (by omega) (by omega)) (fun i q i0 i1 q0 q1 => ?_))
                  show on_st σ' 78 (207 + (8 * σ 78 6)) p 78 ((207 + (8 * i)) + q) = _
                  rw [wA, if_neg (by omega), if_neg (by omega)]; rfl
                have eF : bForce (on_st σ' 78 (207 + (8 * σ 78 6)) p 78) p = F := by
                  rw [← hF]
                  unfold bForce
                  have e : bWin (on_st σ' 78 (207 + (8 * σ 78 6)) p 78) p = bWin (σ 78) p := lo _ (by omega) (by omega)
                  rw [e, show bWt (on_st σ' 78 (207 + (8 * σ 78 6)) p 78) p = bWt (σ 78) p from lo _ (by omega) (by omega), show bStorey (on_st σ' 78 (207 + (8 * σ 78 6)) p 78) (bWin (σ 78) p) = bStorey (σ 78) (bWin (σ 78) p) from lo _ (by omega) (by omega)]
                obtain ⟨lf1, lf2, lf3⟩ := lo.f hI.k hnet.1 hnet.2
                obtain ⟨σ3, b1, b2, b3, b4, b5⟩ := m_lands okA (n := N) (f := F) hnet.1 (by rw [lo 4 (by omega) (by omega)]; exact hnet.2) (by omega)
                rw [lf1, show (if F ≤ bCar (σ 78) N (bNet (σ 78) N 2) then 1 else 0) = bHh (σ 78) N F from rfl] at b1
                rw [lf1, lf2, show (if F ≤ bCar (σ 78) N (bNet (σ 78) N 2) then -1 else bWeak (bHold (σ 78) (bAt (σ 78) N) N (bNet (σ 78) N 0) (bNet (σ 78) N 2))) = bGg (σ 78) N F from rfl] at b3
                have w3 : ∀ i, σ3 78 i = if ((62 + (7 * N)) + 3) ≤ i ∧ i < ((62 + (7 * N)) + 7) then bLd (σ 78) N F i else if i = 207 + (8 * σ 78 6) then p else if 207 + (8 * σ 78 6) + 4 ≤ i ∧ i < 207 + (8 * σ 78 6) + 8 then bNet (σ 78) N (3 + (i - (207 + (8 * σ 78 6) + 4))) else σ 78 i := by
                  intro i
                  rw [b2, bLd_lo lo hI.k hnet.1 hnet.2, wA]
                have w36 : σ3 78 6 = σ 78 6 := by rw [w3, if_neg (by omega), if_neg (by omega), if_neg (by omega)]
                have tail : pf_X12_jump_123 N (207 + (8 * σ 78 6)) ((207 + (8 * σ 78 6)) + 1) (bHh (σ 78) N F) σ3 = some (bHh (σ 78) N F, on_st (on_st (on_st (on_st σ3 78 ((207 + (8 * σ 78 6)) + 1) (bHh (σ 78) N F)) 78 ((207 + (8 * σ 78 6)) + 2) (bGg (σ 78) N F)) 78 ((207 + (8 * σ 78 6)) + 3) N) 78 6 (σ 78 6 + 1)) := by
                  unfold pf_X12_jump_123
                  rw [bWr (by omega) (by omega), bGt, bst_nc (show (77 : Nat) ≠ 78 by omega), b3, bWr (by omega) (by omega), bWr (by omega) (by omega), bRd (by omega) (by omega), bst_ni (by omega), bst_ni (by omega), bst_ni (by omega), w36, bWr (by omega) (by omega), bRd (by omega) (by omega), bst_ni (by omega), bst_ni (by omega), bst_ni (by omega), bst_eq]
                refine ⟨on_st (on_st (on_st (on_st σ3 78 ((207 + (8 * σ 78 6)) + 1) (bHh (σ 78) N F)) 78 ((207 + (8 * σ 78 6)) + 2) (bGg (σ 78) N F)) 78 ((207 + (8 * σ 78 6)) + 3) N) 78 6 (σ 78 6 + 1), ?_, ?_, fun c c1 c2 c3 => ?_, fun i hi => ?_⟩
                · rw [pf_X12_jump_59, bLtF (by omega) (by omega) (by omega), bWr (by omega) (by omega), bCl (m_forceOf okA h.1 (by rw [lo 5 (by omega) (by omega)]; exact h.2)), eF, bCl b1]
                  rcases hg.2.2 with x | x
                  · rw [x] at tail
                    rw [x, bEqT (by omega) rfl]
                    exact tail
                  · rw [x] at tail
                    rw [x, bEqF (by omega) (by omega) (by omega)]
                    exact tail
                · rw [bst_up, bst_up, bst_up, bst_up]
                  funext i
                  unfold bUp bJw bJx
                  by_cases i6 : i = 6
                  · simp only [if_pos i6]
                  · by_cases j0 : i = 207 + (8 * σ 78 6)
                    · rw [if_neg i6, if_neg (by omega), if_neg (by omega), if_neg (by omega), w3, if_neg (by omega), if_pos j0, if_neg i6, if_pos j0]
                    · by_cases j1 : i = 207 + (8 * σ 78 6) + 1
                      · rw [if_neg i6, if_neg (by omega), if_neg (by omega), if_pos j1, if_neg i6, if_neg j0, if_pos j1]
                      · by_cases j2 : i = 207 + (8 * σ 78 6) + 2
                        · rw [if_neg i6, if_neg (by omega), if_pos j2, if_neg i6, if_neg j0, if_neg j1, if_pos j2]
                        · by_cases j3 : i = 207 + (8 * σ 78 6) + 3
                          · rw [if_neg i6, if_pos j3, if_neg i6, if_neg j0, if_neg j1, if_neg j2, if_pos j3]
                          · simp only [if_neg i6, if_neg j0, if_neg j1, if_neg j2, if_neg j3]
                            rw [w3]
                            by_cases kn : ((62 + (7 * N)) + 3) ≤ i ∧ i < ((62 + (7 * N)) + 7)
                            · rw [if_pos kn, if_neg (by omega)]
                            · rw [if_neg kn, if_neg j0]
                              by_cases j4 : 207 + (8 * σ 78 6) + 4 ≤ i ∧ i < 207 + (8 * σ 78 6) + 8
                              · rw [if_pos j4, if_pos j4]
                              · rw [if_neg j4, if_neg j4]
                                unfold bLd
                                rw [if_neg kn]
                · rw [bst_nc c2, bst_nc c2, bst_nc c2, bst_nc c2, b4 c c1 c2 c3, bst_nc c2, h1 c c2]
                · rw [bst_nc (by omega), bst_nc (by omega), bst_nc (by omega), bst_nc (by omega), b5 i hi, bst_nc (by omega), h1 77 (by omega)]
            | succ r ih =>
              intro nf k σ' k0 hk hnf h1 h2
              cases nf with
              | zero => omega
              | succ nf =>
                have e7 : σ' 78 = σ' 78 := rfl
                have en : bNet (σ' 78) N (3 + k) = bNet (σ 78) N (3 + k) := by
                  show σ' 78 ((62 + (7 * N)) + (3 + k)) = _
                  rw [h2, if_neg (by omega)]; rfl
                rw [pf_X12_jump_59, bLtT (by omega) (by omega) (by omega), bCl (m_ofNet hnet.1 (by omega) (by omega) (by omega)), en, bWr (by omega) (by omega)]
                refine ih nf (k + 1) _ (by omega) (by omega) (by omega) (fun c hc => by rw [bst_nc hc]; exact h1 c hc) (fun i => ?_)
                rw [bst_if]
                by_cases e : i = (207 + (8 * σ 78 6) + 4) + k
                · rw [if_pos e, if_pos (by omega), e]; congr 1; omega
                · rw [if_neg e, h2]
                  by_cases g : 207 + (8 * σ 78 6) + 4 ≤ i ∧ i < 207 + (8 * σ 78 6) + 4 + k
                  · rw [if_pos g, if_pos (by omega)]
                  · rw [if_neg g, if_neg (by omega)]
          unfold pf_X12_jump
          rw [bCl (m_isJumper hk1 hp), bE01, w1, if_pos h, bCl (m_windowOf h.1 (by omega)), bCl (m_netAt hk1 (by rw [w1]; omega)), w1, hN, bEqF (by omega) (by omega) z, bRd (by omega) (by omega), w1, bEqF (by omega) (by omega) y, bRd (by omega) (by omega), w1]
          exact L 4 on_N 0 σ1 (by omega) (by omega) (by unfold on_N; omega) (fun _ _ => rfl) (fun i => by rw [if_neg (by omega), w1])
        obtain ⟨σ2, b1, b2, b3, b4⟩ := mdl
        refine ⟨_, σ1, σ2, a1, b1, by omega, ?_⟩
        refine hI.sw ⟨fun c hc h2 h3 => ?_, ?_, ?_, ?_⟩ (by rw [b2]; exact okJ) ?_
        · have c26 : c ≠ 26 := fun e => hc (by rw [e]; decide)
          rw [b3 c (fun e => hc (by rw [e]; decide)) h3 (fun e => hc (by rw [e]; decide)), a3 c (by omega)]
        · rw [b4 5 (by omega), a3 77 (by omega)]
        · rw [b4 12 (by omega), a3 77 (by omega)]
        · rw [b4 13 (by omega), a3 77 (by omega)]
        · rw [b2]; exact a2.to fun k hk => b3 _ (by omega) (by omega) (by omega)
  · refine bOp.no (r := -2) hI (by omega) ?_ ?_
    · unfold pf_X11_jump
      rw [bCl (c_hasJumper hI.k hI.r hp), bE01, if_neg h]
    · unfold pf_X12_jump
      rw [bCl (m_isJumper hI.k hp), bE01, if_neg h]
end O44
