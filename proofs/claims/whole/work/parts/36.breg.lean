/-! B: a street's row made otherwise in one region -/
def bRg (w w' : bW) (l h : Int) : Prop := ∀ i : Int, l ≤ i → i < h → w' i = w i
theorem bRg.rf (w : bW) (l h : Int) : bRg w w l h := fun _ _ _ => rfl
theorem bRg.up {w : bW} {i v l h : Int} (hi : i < l ∨ h ≤ i) : bRg w (bUp w i v) l h := fun j j0 j1 => bUp_ne (by omega)
theorem bRg.tr {w w' w'' : bW} {l h : Int} (a : bRg w w' l h) (b : bRg w' w'' l h) : bRg w w'' l h := fun i h0 h1 => (b i h0 h1).trans (a i h0 h1)
theorem bRg.sub {w w' : bW} {l h l' h' : Int} (a : bRg w w' l h) (h0 : l ≤ l') (h1 : h' ≤ h) : bRg w w' l' h' := fun i q0 q1 => a i (by omega) (by omega)
theorem bFst_congr {p q : Int → Bool} : ∀ (r : Nat) (k : Int), (∀ j, k ≤ j → j < k + (r : Int) → p j = q j) → bFst p r k = bFst q r k := by
  intro r
  induction r with
  | zero => intro k _; rfl
  | succ r ih =>
    intro k h
    rw [bFst, bFst, h k (by omega) (by omega), ih (k + 1) (fun j h1 h2 => h j (by omega) (by omega))]
section G36
variable {w w' : bW} {b : Nat} {σ σ' : on_S}
theorem bRg.net (hN : bRg w w' 62 76) {n q : Int} (n0 : 0 ≤ n) (n1 : n < 2) (q0 : 0 ≤ q) (q1 : q < 7) : bNet w' n q = bNet w n q := hN _ (by omega) (by omega)
theorem bRg.man (hM : bRg w w' 26 62) {m q : Int} (m0 : 0 ≤ m) (m1 : m < 9) (q0 : 0 ≤ q) (q1 : q < 4) : bMan w' m q = bMan w m q := hM _ (by omega) (by omega)
theorem bRg.netAt (hc : bOkC w) (hA : bRg w w' 0 8) (hN : bRg w w' 62 76) (x : Int) : bNetAt w' x = bNetAt w x := by
  obtain ⟨q0, q1, q2, q3, q4, q5, q6, q7⟩ := hc
  unfold bNetAt
  rw [hA 4 (by omega) (by omega)]
  refine bFst_congr _ _ (fun j j0 j1 => ?_)
  rw [hN.net (n := j) (by omega) (by omega) (by omega) (by omega)]
theorem bRg.manAt (hc : bOkC w) (hA : bRg w w' 0 8) (hM : bRg w w' 26 62) (n c : Int) : bManAt w' n c = bManAt w n c := by
  obtain ⟨q0, q1, q2, q3, q4, q5, q6, q7⟩ := hc
  unfold bManAt
  rw [hA 3 (by omega) (by omega)]
  refine bFst_congr _ _ (fun j j0 j1 => ?_)
  rw [hM.man (m := j) (q := 2) (by omega) (by omega) (by omega) (by omega), hM.man (m := j) (q := 3) (by omega) (by omega) (by omega) (by omega)]
theorem bOkC.rg (h : bOkC w) (hA : bRg w w' 0 8) : bOkC w' := by
  unfold bOkC at *
  rw [hA 0 (by omega) (by omega), hA 1 (by omega) (by omega), hA 2 (by omega) (by omega), hA 3 (by omega) (by omega), hA 4 (by omega) (by omega), hA 5 (by omega) (by omega), hA 6 (by omega) (by omega), hA 7 (by omega) (by omega)]
  exact h
theorem bOkW.rg (hc : bOkC w) (h : bOkW w) (hA : bRg w w' 0 8) (hW : bRg w w' 8 26) : bOkW w' := by
  obtain ⟨q0, q1, q2, q3, q4, q5, q6, q7⟩ := hc
  intro k k0 k1
  rw [hA 2 (by omega) (by omega)] at k1
  rw [hA 0 (by omega) (by omega), show bHouse w' k = bHouse w k from hW _ (by omega) (by omega), show bStorey w' k = bStorey w k from hW _ (by omega) (by omega)]
  exact h k k0 k1
theorem bOkM.rg (hc : bOkC w) (h : bOkM w) (hA : bRg w w' 0 8) (hM : bRg w w' 26 62) : bOkM w' := by
  obtain ⟨q0, q1, q2, q3, q4, q5, q6, q7⟩ := hc
  intro m m0 m1
  rw [hA 3 (by omega) (by omega)] at m1
  rw [hA 0 (by omega) (by omega), hA 4 (by omega) (by omega), hM.man (q := 0) m0 (by omega) (by omega) (by omega), hM.man (q := 1) m0 (by omega) (by omega) (by omega), hM.man (q := 2) m0 (by omega) (by omega) (by omega), hM.man (q := 3) m0 (by omega) (by omega) (by omega)]
  exact h m m0 m1
theorem bOkD.rg (hc : bOkC w) (h : bOkD w) (hA : bRg w w' 0 8) (hM : bRg w w' 26 62) : bOkD w' := by
  obtain ⟨q0, q1, q2, q3, q4, q5, q6, q7⟩ := hc
  intro m m' m0 m1 n0 n1
  rw [hA 3 (by omega) (by omega)] at m1 n1
  rw [hM.man (q := 2) m0 (by omega) (by omega) (by omega), hM.man (q := 3) m0 (by omega) (by omega) (by omega), hM.man (q := 2) n0 (by omega) (by omega) (by omega), hM.man (q := 3) n0 (by omega) (by omega) (by omega)]
  exact h m m' m0 m1 n0 n1
theorem bOkN.rg (hc : bOkC w) (h : bOkN w) (hA : bRg w w' 0 8) (hN : bRg w w' 62 76) : bOkN w' := by
  obtain ⟨q0, q1, q2, q3, q4, q5, q6, q7⟩ := hc
  intro n n0 n1
  rw [hA 4 (by omega) (by omega)] at n1
  rw [hA 2 (by omega) (by omega), hN.net (q := 0) n0 (by omega) (by omega) (by omega), hN.net (q := 1) n0 (by omega) (by omega) (by omega), hN.net (q := 2) n0 (by omega) (by omega) (by omega)]
  refine ⟨(h n n0 n1).1, (h n n0 n1).2.1, (h n n0 n1).2.2.1, fun c c0 c1 => ?_⟩
  rw [hN.net (q := 3 + c) n0 (by omega) (by omega) (by omega)]
  exact (h n n0 n1).2.2.2 c c0 c1
theorem bOkE.rg (hc : bOkC w) (h : bOkE w) (hA : bRg w w' 0 8) (hN : bRg w w' 62 76) : bOkE w' := by
  obtain ⟨q0, q1, q2, q3, q4, q5, q6, q7⟩ := hc
  intro m m' m0 m1 n0 n1
  rw [hA 4 (by omega) (by omega)] at m1 n1
  rw [hN.net (q := 0) m0 (by omega) (by omega) (by omega), hN.net (q := 0) n0 (by omega) (by omega) (by omega)]
  exact h m m' m0 m1 n0 n1
theorem bOkQ.rg (h : bOkQ w) (hQ : bRg w w' 76 157) : bOkQ w' := by
  intro a c a0 a1 c0 c1
  rw [show bQ w' a c = bQ w a c from hQ _ (by omega) (by omega), show bQ w' c a = bQ w c a from hQ _ (by omega) (by omega)]
  exact h a c a0 a1 c0 c1
theorem bOkF.rg (h : bOkF w) (hF : bRg w w' 157 173) : bOkF w' := by
  intro a c a0 a1 c0 c1
  rw [show bFd w' a c = bFd w a c from hF _ (by omega) (by omega)]
  exact h a c a0 a1 c0 c1
theorem bOkJ.rg (hc : bOkC w) (h : bOkJ w) (hA : bRg w w' 0 8) (hJ : bRg w w' 173 191) : bOkJ w' := by
  obtain ⟨q0, q1, q2, q3, q4, q5, q6, q7⟩ := hc
  intro j j0 j1
  rw [hA 5 (by omega) (by omega)] at j1
  rw [hA 2 (by omega) (by omega), show bWt w' j = bWt w j from hJ _ (by omega) (by omega), show bWin w' j = bWin w j from hJ _ (by omega) (by omega)]
  exact h j j0 j1
theorem bOkR.rg (h : bOkR w) (hA : bRg w w' 0 8) (hR : bRg w w' 191 207) : bOkR w' := by
  intro a c a0 a1 c0 c1
  rw [hA 0 (by omega) (by omega), show bRoad w' a c = bRoad w a c from hR _ (by omega) (by omega), show bRoad w' c a = bRoad w c a from hR _ (by omega) (by omega)]
  exact h a c a0 a1 c0 c1
theorem bOkP.rg (hc : bOkC w) (h : bOkP w) (hA : bRg w w' 0 8) (hN : ∀ x, bNetAt w' x = bNetAt w x) (hJ : bRg w w' 173 191) (hP : bRg w w' 207 687) : bOkP w' := by
  obtain ⟨q0, q1, q2, q3, q4, q5, q6, q7⟩ := hc
  intro i i0 i1
  rw [hA 6 (by omega) (by omega)] at i1
  have hi := h i i0 i1
  have e0 : bJp w' i 0 = bJp w i 0 := hP _ (by omega) (by omega)
  rw [e0, hA 5 (by omega) (by omega), hA 4 (by omega) (by omega), show bJp w' i 1 = bJp w i 1 from hP _ (by omega) (by omega), show bJp w' i 2 = bJp w i 2 from hP _ (by omega) (by omega), show bJp w' i 3 = bJp w i 3 from hP _ (by omega) (by omega), hN, show bWin w' (bJp w i 0) = bWin w (bJp w i 0) from hJ _ (by omega) (by omega)]
  refine ⟨hi.1, hi.2.1, hi.2.2.1, hi.2.2.2.1, fun c c0 c1 => ?_⟩
  rw [show bJp w' i (4 + c) = bJp w i (4 + c) from hP _ (by omega) (by omega)]
  exact hi.2.2.2.2 c c0 c1
theorem bRpC.rg (h : bRpC b w σ) (hA : bRg w w' 0 8) (h0 : σ' b = σ b) (h8 : σ' (b + 8) = σ (b + 8)) (h14 : σ' (b + 14) = σ (b + 14)) (h20 : σ' (b + 20) = σ (b + 20)) : bRpC b w' σ' := by
  unfold bRpC at *
  rw [h0, h8, h14, h20, hA 0 (by omega) (by omega), hA 1 (by omega) (by omega), hA 2 (by omega) (by omega), hA 3 (by omega) (by omega), hA 4 (by omega) (by omega), hA 5 (by omega) (by omega), hA 6 (by omega) (by omega), hA 7 (by omega) (by omega)]
  exact h
theorem bRpW.rg (hc : bOkC w) (h : bRpW b w σ) (hA : bRg w w' 0 8) (hW : bRg w w' 8 26) (hN : ∀ x, bNetAt w' x = bNetAt w x) (h1 : σ' (b + 1) = σ (b + 1)) (h2 : σ' (b + 2) = σ (b + 2)) (h3 : σ' (b + 3) = σ (b + 3)) : bRpW b w' σ' := by
  obtain ⟨q0, q1, q2, q3, q4, q5, q6, q7⟩ := hc
  intro k k0 k1
  rw [hA 2 (by omega) (by omega)] at k1
  rw [h1, h2, h3, hN, show bHouse w' k = bHouse w k from hW _ (by omega) (by omega), show bStorey w' k = bStorey w k from hW _ (by omega) (by omega)]
  exact h k k0 k1
theorem bRpJ.rg (hc : bOkC w) (h : bRpJ b w σ) (hA : bRg w w' 0 8) (hJ : bRg w w' 173 191) (h1 : σ' (b + 4) = σ (b + 4)) (h2 : σ' (b + 5) = σ (b + 5)) : bRpJ b w' σ' := by
  obtain ⟨q0, q1, q2, q3, q4, q5, q6, q7⟩ := hc
  intro j j0 j1
  rw [hA 5 (by omega) (by omega)] at j1
  rw [h1, h2, show bWt w' j = bWt w j from hJ _ (by omega) (by omega), show bWin w' j = bWin w j from hJ _ (by omega) (by omega)]
  exact h j j0 j1
theorem bRpF.rg (h : bRpF b w σ) (hF : bRg w w' 157 173) (hR : bRg w w' 191 207) (h1 : σ' (b + 6) = σ (b + 6)) (h2 : σ' (b + 7) = σ (b + 7)) : bRpF b w' σ' := by
  intro x y x0 x1 y0 y1
  rw [h1, h2, show bFd w' x y = bFd w x y from hF _ (by omega) (by omega), show bRoad w' x y = bRoad w x y from hR _ (by omega) (by omega)]
  exact h x y x0 x1 y0 y1
theorem bRpM.rg (hc : bOkC w) (h : bRpM b w σ) (hA : bRg w w' 0 8) (hM : bRg w w' 26 62) (h9 : σ' (b + 9) = σ (b + 9)) (h10 : σ' (b + 10) = σ (b + 10)) (h11 : σ' (b + 11) = σ (b + 11)) (h12 : σ' (b + 12) = σ (b + 12)) : bRpM b w' σ' := by
  obtain ⟨q0, q1, q2, q3, q4, q5, q6, q7⟩ := hc
  intro m m0 m1
  rw [hA 3 (by omega) (by omega)] at m1
  rw [h9, h10, h11, h12, hM.man (q := 0) m0 (by omega) (by omega) (by omega), hM.man (q := 1) m0 (by omega) (by omega) (by omega), hM.man (q := 2) m0 (by omega) (by omega) (by omega), hM.man (q := 3) m0 (by omega) (by omega) (by omega)]
  exact h m m0 m1
theorem bRpQ.rg (h : bRpQ b w σ) (hQ : bRg w w' 76 157) (h1 : σ' (b + 13) = σ (b + 13)) : bRpQ b w' σ' := by
  intro x y x0 x1 y0 y1
  rw [h1, show bQ w' x y = bQ w x y from hQ _ (by omega) (by omega)]
  exact h x y x0 x1 y0 y1
theorem bRpN.rg (hc : bOkC w) (h : bRpN b w σ) (hA : bRg w w' 0 8) (hN : bRg w w' 62 76) (h15 : σ' (b + 15) = σ (b + 15)) (h16 : σ' (b + 16) = σ (b + 16)) (h17 : σ' (b + 17) = σ (b + 17)) (h18 : σ' (b + 18) = σ (b + 18)) : bRpN b w' σ' := by
  obtain ⟨q0, q1, q2, q3, q4, q5, q6, q7⟩ := hc
  intro n n0 n1
  rw [hA 4 (by omega) (by omega)] at n1
  obtain ⟨e1, e2, e3, e4⟩ := h n n0 n1
  rw [h15, h16, h17, h18, hN.net (q := 0) n0 (by omega) (by omega) (by omega), hN.net (q := 1) n0 (by omega) (by omega) (by omega), hN.net (q := 2) n0 (by omega) (by omega) (by omega)]
  refine ⟨e1, e2, e3, fun c c0 c1 => ?_⟩
  rw [hN.net (q := 3 + c) n0 (by omega) (by omega) (by omega)]
  exact e4 c c0 c1
theorem bRpH.rg (hc : bOkC w) (h : bRpH b w σ) (hA : bRg w w' 0 8) (hM : bRg w w' 26 62) (h19 : σ' (b + 19) = σ (b + 19)) : bRpH b w' σ' := by
  intro n c n0 n1 c0 c1
  rw [hA 4 (by omega) (by omega)] at n1
  rw [h19, bRg.manAt hc hA hM]
  exact h n c n0 n1 c0 c1
theorem bRpP.rg (hc : bOkC w) (h : bRpP b w σ) (hA : bRg w w' 0 8) (hP : bRg w w' 207 687) (h21 : σ' (b + 21) = σ (b + 21)) (h22 : σ' (b + 22) = σ (b + 22)) (h23 : σ' (b + 23) = σ (b + 23)) : bRpP b w' σ' := by
  obtain ⟨q0, q1, q2, q3, q4, q5, q6, q7⟩ := hc
  intro i i0 i1
  rw [hA 6 (by omega) (by omega)] at i1
  obtain ⟨e1, e2, e3⟩ := h i i0 i1
  rw [h21, h22, h23, show bJp w' i 0 = bJp w i 0 from hP _ (by omega) (by omega), show bJp w' i 2 = bJp w i 2 from hP _ (by omega) (by omega)]
  refine ⟨e1, e2, fun c c0 c1 => ?_⟩
  rw [show bJp w' i (4 + c) = bJp w i (4 + c) from hP _ (by omega) (by omega)]
  exact e3 c c0 c1
end G36
/-- the street may be made otherwise, all else stays -/
def bSw (σ σ' : on_S) : Prop := (∀ c : Nat, c ∉ bScr → ¬ (2 ≤ c ∧ c ≤ 25) → c ≠ 78 → σ' c = σ c) ∧ σ' 77 5 = σ 77 5 ∧ σ' 77 12 = σ 77 12 ∧ σ' 77 13 = σ 77 13
theorem bSw.rf (σ : on_S) : bSw σ σ := ⟨fun _ _ _ _ => rfl, rfl, rfl, rfl⟩
theorem bS.sw {σ σ' : on_S} (h : bS σ σ') : bSw σ σ' := ⟨fun c hc _ _ => h.1 c hc, h.2⟩
theorem bSw.tr {σ σ' σ'' : on_S} (h : bSw σ σ') (g : bSw σ' σ'') : bSw σ σ'' := ⟨fun c h1 h2 h3 => (g.1 c h1 h2 h3).trans (h.1 c h1 h2 h3), g.2.1.trans h.2.1, g.2.2.1.trans h.2.2.1, g.2.2.2.trans h.2.2.2⟩
theorem bSw.st {σ : on_S} {c : Nat} {i v : Int} (h : (2 ≤ c ∧ c ≤ 25) ∨ c = 78) : bSw σ (on_st σ c i v) := by
  refine ⟨fun c' _ h2 h3 => bst_nc (fun e => ?_), ?_, ?_, ?_⟩
  · subst e; omega
  all_goals rw [bst_nc (by omega)]
theorem bSw.ne {σ σ' : on_S} {c : Nat} (hs : bSw σ σ') (h : ¬ ((c = 26 ∨ (55 ≤ c ∧ c ≤ 68) ∨ c = 77 ∨ (82 ≤ c ∧ c ≤ 95) ∨ c = 99) ∧ c ≠ 56 ∧ c ≠ 63 ∧ c ≠ 67)) (h2 : ¬ (2 ≤ c ∧ c ≤ 25)) (h3 : c ≠ 78) : σ' c = σ c := hs.1 c (fun q => h (bScr_no q)) h2 h3
theorem bI.sw {n : Nat} {σ σ' : on_S} (h : bI n σ) (hs : bSw σ σ') (hk : bOk (σ' 78)) (hr : bRp 2 (σ' 78) σ') : bI n σ' := by
  refine ⟨hk, hr, ?_, ?_, ?_, ?_⟩
  · have h := h.t
    unfold bTp at *
    rw [hs.ne (c := 0) (by omega) (by omega) (by omega), hs.ne (c := 1) (by omega) (by omega) (by omega), hs.ne (c := 81) (by omega) (by omega) (by omega), hs.ne (c := 52) (by omega) (by omega) (by omega), hs.2.1, hs.2.2.1, hs.2.2.2]
    exact h
  · intro s hs4
    rw [hs.ne (c := 69 + 2 * s) (by omega) (by omega) (by omega), hs.ne (c := 69 + 2 * s + 1) (by omega) (by omega) (by omega), hs.ne (c := 96) (by omega) (by omega) (by omega), hs.ne (c := 97) (by omega) (by omega) (by omega), hs.ne (c := 98) (by omega) (by omega) (by omega)]
    exact h.s s hs4
  · obtain ⟨j, h1, h2, h3⟩ := h.i
    have e : ∀ k, bImg σ' k = bImg σ k := fun k => by unfold bImg; rw [hs.ne (c := 79) (by omega) (by omega) (by omega)]
    refine ⟨j, h1, fun k hk => ?_, fun k k' => ?_⟩
    · rw [hs.ne (c := 53) (by omega) (by omega) (by omega), hs.ne (c := 80) (by omega) (by omega) (by omega), e]
      rcases h2 k hk with a | ⟨a, i, i1, i2, i3, i4⟩
      · exact Or.inl a
      · exact Or.inr ⟨a, i, i1, i2, i3, i4.to fun q hq => hs.ne (by omega) (by omega) (by omega)⟩
    · rw [hs.ne (c := 53) (by omega) (by omega) (by omega)]; exact h3 k k'
  · intro i hi
    rw [hs.ne (c := 56) (by omega) (by omega) (by omega)]
    exact h.o i hi
