/-! B: game, rests -/
/-- but for whether nets are wet -/
def bWx (w w' : bW) : Prop := ∀ i : Int, i ≠ 64 → i ≠ 71 → w' i = w i
section X41
variable {w w' : bW}
theorem bWx.rg (h : bWx w w') {l t : Int} (hl : t ≤ 62 ∨ 76 ≤ l) : bRg w w' l t := fun i i0 i1 => h i (by omega) (by omega)
theorem bWx.net (h : bWx w w') {n q : Int} (n0 : 0 ≤ n) (n1 : n < 2) (q0 : 0 ≤ q) (q1 : q < 7) (q2 : q ≠ 2) : bNet w' n q = bNet w n q := h _ (by omega) (by omega)
theorem bWx.netAt (h : bWx w w') (hc : bOkC w) (x : Int) : bNetAt w' x = bNetAt w x := by
  obtain ⟨q0, q1, q2, q3, q4, q5, q6, q7⟩ := hc
  unfold bNetAt
  rw [h 4 (by omega) (by omega)]
  exact bFst_congr _ _ (fun j j0 j1 => by rw [h.net (n := j) (q := 0) (by omega) (by omega) (by omega) (by omega) (by omega)])
theorem bWx.ok (h : bWx w w') (hk : bOk w) (hw : ∀ n, 0 ≤ n → n < w 4 → bNet w' n 2 = 0 ∨ bNet w' n 2 = 1) : bOk w' := by
  obtain ⟨k1, k2, k3, k4, k5, k6, k7, k8, k9, k10, k11⟩ := hk
  obtain ⟨q0, q1, q2, q3, q4, q5, q6, q7⟩ := id k1
  have a0 := h.rg (l := 0) (t := 8) (by omega)
  have aJ := h.rg (l := 173) (t := 191) (by omega)
  refine ⟨k1.rg a0, bOkW.rg k1 k2 a0 (h.rg (by omega)), bOkM.rg k1 k3 a0 (h.rg (by omega)), bOkD.rg k1 k4 a0 (h.rg (by omega)), ?_, ?_, k7.rg (h.rg (by omega)), k8.rg (h.rg (by omega)), bOkJ.rg k1 k9 a0 aJ, k10.rg a0 (h.rg (by omega)), bOkP.rg k1 k11 a0 (h.netAt k1) aJ (h.rg (by omega))⟩
  · intro n n0 n1
    rw [a0 4 (by omega) (by omega)] at n1
    have hn := k5 n n0 n1
    rw [a0 2 (by omega) (by omega), h.net (q := 0) n0 (by omega) (by omega) (by omega) (by omega), h.net (q := 1) n0 (by omega) (by omega) (by omega) (by omega)]
    refine ⟨hn.1, hn.2.1, hw n n0 n1, fun c c0 c1 => ?_⟩
    rw [h.net (q := 3 + c) n0 (by omega) (by omega) (by omega) (by omega)]
    exact hn.2.2.2 c c0 c1
  · intro m m' m0 m1 n0 n1
    rw [a0 4 (by omega) (by omega)] at m1 n1
    rw [h.net (q := 0) m0 (by omega) (by omega) (by omega) (by omega), h.net (q := 0) n0 (by omega) (by omega) (by omega) (by omega)]
    exact k6 m m' m0 m1 n0 n1
theorem bWx.hold (h : bWx w w') (hk : bOk w) {p : Int → Int} (hp : bPo w p) {n x wet c : Int} (n0 : 0 ≤ n) (n1 : n < w 4) (x0 : 0 ≤ x) (x1 : x < w 2) (c0 : 0 ≤ c) (c1 : c < 4) : bHold w' p n x wet c = bHold w p n x wet c := by
  obtain ⟨q0, q1, q2, q3, q4, q5, q6, q7⟩ := hk.c
  have hpc := hp c c0 c1
  have hx := (hk.wi x x0 x1).1
  have pq : ∀ d, 0 ≤ d → d < 4 → bPq w' p c d = bPq w p c d := by
    intro d d0 d1
    have hpd := hp d d0 d1
    unfold bPq
    by_cases e : p c = -1 ∨ p d = -1
    · rw [if_pos e, if_pos e]
    · rw [if_neg e, if_neg e]
      exact h.rg (l := 76) (t := 157) (by omega) _ (by omega) (by omega)
  have eK : bKn w' n wet c = bKn w n wet c := by
    unfold bKn
    rw [h.net (q := 3 + c) n0 (by omega) (by omega) (by omega) (by omega)]
  unfold bHold
  rw [pq _ (by omega) (by omega), pq _ (by omega) (by omega), eK]
  by_cases z : p c = -1
  · rw [if_pos (Or.inl z), if_pos (Or.inl z)]
  · have hm := hk.m (p c) (by omega) (by omega)
    have eW : bWill w' (p c) x ↔ bWill w (p c) x := by
      unfold bWill
      rw [(h.rg (l := 26) (t := 62) (by omega)).man (q := 0) (by omega) (by omega) (by omega) (by omega), show bHouse w' x = bHouse w x from h.rg (l := 8) (t := 26) (by omega) _ (by omega) (by omega), show bFd w' (bMan w (p c) 0) (bHouse w x) = bFd w (bMan w (p c) 0) (bHouse w x) from h.rg (l := 157) (t := 173) (by omega) _ (by omega) (by omega)]
    by_cases y : bWill w (p c) x
    · rw [if_neg (fun t => t.elim z (fun s => s (eW.mpr y))), if_neg (fun t => t.elim z (fun s => s y)), (h.rg (l := 26) (t := 62) (by omega)).man (q := 1) (by omega) (by omega) (by omega) (by omega)]
    · rw [if_pos (Or.inr (fun s => y (eW.mp s))), if_pos (Or.inr y)]
theorem bWx.car (h : bWx w w') (hk : bOk w) {n wet : Int} (n0 : 0 ≤ n) (n1 : n < w 4) : bCar w' n wet = bCar w n wet := by
  obtain ⟨q0, q1, q2, q3, q4, q5, q6, q7⟩ := hk.c
  have hn := (hk.n n n0 n1).1
  unfold bCar
  rw [h.net (q := 0) n0 (by omega) (by omega) (by omega) (by omega)]
  congr 1
  refine bLst_congr (fun c c0 c1 => ?_)
  rw [bHold_congr (p := bAt w' n) (p' := bAt w n) (fun d d0 d1 => bRg.manAt hk.c (h.rg (by omega)) (h.rg (by omega)) n d) c0 c1, h.hold hk (bAt_po hk.c n) n0 n1 hn.1 hn.2 c0 c1]
theorem bWx.force (h : bWx w w') (hk : bOk w) {j : Int} (j0 : 0 ≤ j) (j1 : j < w 5) : bForce w' j = bForce w j ∧ bWin w' j = bWin w j := by
  obtain ⟨q0, q1, q2, q3, q4, q5, q6, q7⟩ := hk.c
  have hj := hk.j j j0 j1
  have e : bWin w' j = bWin w j := h.rg (l := 173) (t := 191) (by omega) _ (by omega) (by omega)
  unfold bForce
  rw [e, show bWt w' j = bWt w j from h.rg (l := 173) (t := 191) (by omega) _ (by omega) (by omega), show bStorey w' (bWin w j) = bStorey w (bWin w j) from h.rg (l := 8) (t := 26) (by omega) _ (by omega) (by omega)]
  exact ⟨rfl, rfl⟩
end X41
/-- is a jumper of a house held, if the other one wets -/
abbrev bGj (w : bW) (h oth j : Int) : Prop := bHouse w (bWin w j) = h ∧ bNetAt w (bWin w j) ≠ -1 ∧ bForce w j ≤ bCar w (bNetAt w (bWin w j)) (if oth = 1 then 1 else bNet w (bNetAt w (bWin w j)) 2)
def bGnI (w : bW) (h oth j a : Int) : Int := if bGj w h oth j then a + 2 else a
theorem bGnI_t {w : bW} {h oth j a : Int} (x : bGj w h oth j) : bGnI w h oth j a = a + 2 := by unfold bGnI; exact if_pos x
theorem bGnI_f {w : bW} {h oth j a : Int} (x : ¬ bGj w h oth j) : bGnI w h oth j a = a := by unfold bGnI; exact if_neg x
def bGnR (w : bW) (h oth : Int) : Nat → Int → Int → Int
  | 0, _, a => a
  | r + 1, k, a => bGnR w h oth r (k + 1) (bGnI w h oth k a)
theorem bGnR_b (w : bW) (h oth : Int) : ∀ (r : Nat) (k a : Int), a ≤ bGnR w h oth r k a ∧ bGnR w h oth r k a ≤ a + 2 * r := by
  intro r
  induction r with
  | zero => intro k a; simp [bGnR]
  | succ r ih =>
    intro k a
    rw [bGnR]
    by_cases x : bGj w h oth k
    · rw [bGnI_t x]; have := ih (k + 1) (a + 2); omega
    · rw [bGnI_f x]; have := ih (k + 1) a; omega
def bGn (w : bW) (h own oth : Int) : Int := bGnR w h oth (w 5).toNat 0 (if own = 1 then 3 else 0)
theorem bGn_b {w : bW} (hk : bOk w) (h own oth : Int) : 0 ≤ bGn w h own oth ∧ bGn w h own oth ≤ 21 := by
  obtain ⟨q0, q1, q2, q3, q4, q5, q6, q7⟩ := hk.c
  have := bGnR_b w h oth (w 5).toNat 0 (if own = 1 then 3 else 0)
  unfold bGn
  split at this <;> split <;> omega
theorem c_gainOf {σ : on_S} (hk : bOk (σ 78)) (hR : bRp 2 (σ 78) σ) {h own oth : Int} (hh : on_R h) (ho : on_R own) (ht : on_R oth) : pf_X11_gainOf h own oth σ = some (bGn (σ 78) h own oth, σ) := by
  obtain ⟨q0, q1, q2, q3, q4, q5, q6, q7⟩ := hk.c
  have L : ∀ (r nf : Nat) (k a : Int), 0 ≤ k → k + (r : Int) = σ 78 5 → r < nf → pf_X11_gainOf_15 nf h oth a k σ = some (bGnR (σ 78) h oth r k a, σ) := by
    intro r
    induction r with
    | zero =>
      intro nf k a k0 hk1 hn
      cases nf with
      | zero => omega
      | succ nf => rw [pf_X11_gainOf_15, bGt, hR.c.2.2.2.2.1, bLtF (by omega) (by omega) (by omega)]; rfl
    | succ r ih =>
      intro nf k a k0 hk1 hnf
      cases nf with
      | zero => omega
      | succ nf =>
        have hj := (hk.j k k0 (by omega)).2
        have hb := bNetAt_b hk.c (bWin (σ 78) k)
        have hf := bForce_b hk k0 (show k < σ 78 5 by omega)
        have hho := (hk.wi _ hj.1 hj.2).1
        rw [pf_X11_gainOf_15, bGt, hR.c.2.2.2.2.1, bLtT (by omega) (by omega) (by omega), bCl (c_netBelow hk hR k0 (by omega)), bGnR]
        by_cases z : bNetAt (σ 78) (bWin (σ 78) k) = -1
        · rw [bEqT (by omega) z, bGnI_f (fun x => x.2.1 z)]
          exact ih nf (k + 1) a (by omega) (by omega) (by omega)
        · have hn := (hk.n (bNetAt (σ 78) (bWin (σ 78) k)) (by omega) (by omega)).2.2.1
          rw [bEqF (by omega) (by omega) z, bRd k0 (by omega), (hR.j k k0 (by omega)).2, bRd (by omega) (by omega), (hR.wi _ hj.1 hj.2).1]
          by_cases y : bHouse (σ 78) (bWin (σ 78) k) = h
          · have h91 : ∀ (k15 : Int → Int → Int → Int → on_S → Option on_O) (v : Int), v = (if oth = 1 then 1 else bNet (σ 78) (bNetAt (σ 78) (bWin (σ 78) k)) 2) → pf_X11_gainOf_91 k15 h oth a k (bNetAt (σ 78) (bWin (σ 78) k)) v σ = k15 h oth (bGnI (σ 78) h oth k a) (k + 1) σ := by
              intro k15 v hv
              have hvR : on_R v := by rw [hv]; split <;> omega
              have hc := bCar_b hk (n := bNetAt (σ 78) (bWin (σ 78) k)) (wet := v) (by omega) (by omega)
              unfold pf_X11_gainOf_91
              rw [bCl (c_forceOf hk hR k0 (by omega)), bCl (c_carriedIf hk hR (by omega) (by omega) hvR), bCarM0 hk (by omega) (by omega)]
              by_cases x : bForce (σ 78) k ≤ bCar (σ 78) (bNetAt (σ 78) (bWin (σ 78) k)) v
              · rw [bLeT (by omega) (by omega) x, bGnI_t ⟨y, z, by rw [← hv]; exact x⟩]
              · rw [bLeF (by omega) (by omega) (by omega), bGnI_f (fun t => x (by rw [hv]; exact t.2.2))]
            rw [bEqT (by omega) y]
            by_cases x : oth = 1
            · rw [bEqT ht x, h91 _ 1 (by rw [if_pos x])]
              exact ih nf (k + 1) _ (by omega) (by omega) (by omega)
            · rw [bEqF ht (by omega) x, bRd (by omega) (by omega), (hR.n _ (by omega) (by omega)).2.2.1, h91 _ _ (by rw [if_neg x])]
              exact ih nf (k + 1) _ (by omega) (by omega) (by omega)
          · rw [bEqF (by omega) hh y, bGnI_f (fun x => y x.1)]
            exact ih nf (k + 1) a (by omega) (by omega) (by omega)
  unfold pf_X11_gainOf pf_X11_gainOf_10 bGn
  by_cases x : own = 1
  · rw [bEqT ho x, if_pos x]; exact L (σ 78 5).toNat on_N 0 3 (by omega) (by omega) (by unfold on_N; omega)
  · rw [bEqF ho (by omega) x, if_neg x]; exact L (σ 78 5).toNat on_N 0 0 (by omega) (by omega) (by unfold on_N; omega)
/-! the model -/
theorem m_isHeldX {σ : on_S} (hk : bOk (σ 78)) {p : Int} (p0 : 0 ≤ p) (p1 : p < σ 78 5) : ∃ σ' : on_S, pf_X12_isHeld p σ = some (bHeld (σ 78) p, σ') ∧ ∀ c, c ≠ 84 → σ' c = σ c := by
  obtain ⟨q0, q1, q2, q3, q4, q5, q6, q7⟩ := hk.c
  have hj := (hk.j p p0 p1).2
  have hb := bNetAt_b hk.c (bWin (σ 78) p)
  have hf := bForce_b hk p0 p1
  unfold pf_X12_isHeld pf_X12_isHeld_32 bHeld
  rw [bCl (m_windowOf p0 (by omega)), bCl (m_netAt hk (by omega))]
  by_cases e : bNetAt (σ 78) (bWin (σ 78) p) = -1
  · rw [bEqT (by omega) e, if_pos e]; exact ⟨σ, rfl, fun _ _ => rfl⟩
  · have hc := bCar_b hk (n := bNetAt (σ 78) (bWin (σ 78) p)) (wet := bNet (σ 78) (bNetAt (σ 78) (bWin (σ 78) p)) 2) (by omega) (by omega)
    rw [bEqF (by omega) (by omega) e, if_neg e, bCl (m_forceOf hk p0 p1), bCl (m_carries hk (by omega) (by omega)), bLeS (by omega) (by omega)]
    exact ⟨_, rfl, fun c hc => by unfold bLay; rw [bst_nc hc, bst_nc hc, bst_nc hc, bst_nc hc]⟩
theorem m_wets {σ : on_S} (hk : bOk (σ 78)) {h v : Int} (hh : on_R h) (hv : on_R v) : ∃ σ' : on_S, pf_X12_wets h v σ = some (0, σ') ∧ (∀ c, c ≠ 78 → σ' c = σ c) ∧ bWx (σ 78) (σ' 78) ∧ ∀ n, 0 ≤ n → n < 2 → bNet (σ' 78) n 2 = if n < σ 78 4 ∧ v = 1 ∧ bHouse (σ 78) (bNet (σ 78) n 0) = h then 1 else bNet (σ 78) n 2 := by
  obtain ⟨q0, q1, q2, q3, q4, q5, q6, q7⟩ := hk.c
  have L : ∀ (r nf : Nat) (k : Int) (σ' : on_S), 0 ≤ k → k + (r : Int) = σ 78 4 → r < nf → (∀ c, c ≠ 78 → σ' c = σ c) → bWx (σ 78) (σ' 78) → (∀ n, 0 ≤ n → n < 2 → bNet (σ' 78) n 2 = if n < k ∧ v = 1 ∧ bHouse (σ 78) (bNet (σ 78) n 0) = h then 1 else bNet (σ 78) n 2) → ∃ σ'' : on_S, pf_X12_wets_2 nf h v k σ' = some (0, σ'') ∧ (∀ c, c ≠ 78 → σ'' c = σ c) ∧ bWx (σ 78) (σ'' 78) ∧ ∀ n, 0 ≤ n → n < 2 → bNet (σ'' 78) n 2 = if n < σ 78 4 ∧ v = 1 ∧ bHouse (σ 78) (bNet (σ 78) n 0) = h then 1 else bNet (σ 78) n 2 := by
    intro r
    induction r with
    | zero =>
      intro nf k σ' k0 hk1 hn h1 h2 h3
      cases nf with
      | zero => omega
      | succ nf =>
        have e : k = σ 78 4 := by omega
        subst e
        refine ⟨σ', ?_, h1, h2, h3⟩
        rw [pf_X12_wets_2, bRd (by omega) (by omega), h2 4 (by omega) (by omega), bLtF (by omega) (by omega) (by omega)]
    | succ r ih =>
      intro nf k σ' k0 hk1 hnf h1 h2 h3
      cases nf with
      | zero => omega
      | succ nf =>
        have hn := (hk.n k k0 (by omega)).1
        have ew : bNet (σ' 78) k 0 = bNet (σ 78) k 0 := h2.net k0 (by omega) (by omega) (by omega) (by omega)
        have eh : bHouse (σ' 78) (bNet (σ 78) k 0) = bHouse (σ 78) (bNet (σ 78) k 0) := h2.rg (l := 8) (t := 26) (by omega) _ (by omega) (by omega)
        have hho := (hk.wi _ hn.1 hn.2).1
        rw [pf_X12_wets_2, bRd (by omega) (by omega), h2 4 (by omega) (by omega), bLtT (by omega) (by omega) (by omega)]
        have skip : ¬ (v = 1 ∧ bHouse (σ 78) (bNet (σ 78) k 0) = h) → ∀ n, 0 ≤ n → n < 2 → bNet (σ' 78) n 2 = if n < k + 1 ∧ v = 1 ∧ bHouse (σ 78) (bNet (σ 78) n 0) = h then 1 else bNet (σ 78) n 2 := by
          intro hx n n0 n1
          rw [h3 n n0 n1]
          by_cases g : n < k ∧ v = 1 ∧ bHouse (σ 78) (bNet (σ 78) n 0) = h
          · rw [if_pos g, if_pos ⟨by omega, g.2⟩]
          · rw [if_neg g, if_neg (fun t => by
              by_cases y : n = k
              · rw [y] at t; exact hx t.2
              · exact g ⟨by omega, t.2⟩)]
        by_cases x : v = 1
        · rw [bEqT hv x, bCl (m_ofNet k0 (by omega) (by omega) (by omega)), ew, bCl (m_houseOf (by omega) (by omega)), eh]
          by_cases y : bHouse (σ 78) (bNet (σ 78) k 0) = h
          · rw [bEqT (by omega) y, bWr (by omega) (by omega)]
            refine ih nf (k + 1) _ (by omega) (by omega) (by omega) (fun c hc => by rw [bst_nc hc]; exact h1 c hc) (fun i i0 i1 => by rw [bst_ni (by omega)]; exact h2 i i0 i1) (fun n n0 n1 => ?_)
            rw [bst_up, bNet_up]
            by_cases g : n = k
            · rw [if_pos (by omega), if_pos ⟨by omega, x, by rw [g]; exact y⟩]
            · rw [if_neg (by omega), h3 n n0 n1]
              by_cases g2 : n < k ∧ v = 1 ∧ bHouse (σ 78) (bNet (σ 78) n 0) = h
              · rw [if_pos g2, if_pos ⟨by omega, g2.2⟩]
              · rw [if_neg g2, if_neg (fun t => g2 ⟨by omega, t.2⟩)]
          · rw [bEqF (by omega) hh y]
            exact ih nf (k + 1) σ' (by omega) (by omega) (by omega) h1 h2 (skip (fun t => y t.2))
        · rw [bEqF hv (by omega) x]
          exact ih nf (k + 1) σ' (by omega) (by omega) (by omega) h1 h2 (skip (fun t => x t.1))
  exact L (σ 78 4).toNat on_N 0 σ (by omega) (by omega) (by unfold on_N; omega) (fun _ _ => rfl) (fun _ _ _ => rfl) (fun n n0 n1 => by rw [if_neg (by omega)])
/-- what a house gains, as nets are now -/
theorem m_gainOf {σ : on_S} {w : bW} (hk : bOk w) (hk' : bOk (σ 78)) (hx : bWx w (σ 78)) {h own oth : Int} (hh : on_R h) (ho : own = 0 ∨ own = 1) (hwet : ∀ n, 0 ≤ n → n < w 4 → bHouse w (bNet w n 0) = h → bNet (σ 78) n 2 = if oth = 1 then 1 else bNet w n 2) : ∃ σ' : on_S, pf_X12_gainOf h own σ = some (bGn w h own oth, σ') ∧ ∀ c, c ≠ 84 → σ' c = σ c := by
  obtain ⟨q0, q1, q2, q3, q4, q5, q6, q7⟩ := hk.c
  have L : ∀ (r nf : Nat) (k a : Int) (σ' : on_S), 0 ≤ k → k + (r : Int) = w 5 → r < nf → (∀ c, c ≠ 84 → σ' c = σ c) → ∃ σ'' : on_S, pf_X12_gainOf_7 nf h a k σ' = some (bGnR w h oth r k a, σ'') ∧ ∀ c, c ≠ 84 → σ'' c = σ c := by
    intro r
    induction r with
    | zero =>
      intro nf k a σ' k0 hk1 hn h1
      cases nf with
      | zero => omega
      | succ nf => exact ⟨σ', by rw [pf_X12_gainOf_7, bRd (by omega) (by omega), h1 78 (by omega), hx 5 (by omega) (by omega), bLtF (by omega) (by omega) (by omega)]; rfl, h1⟩
    | succ r ih =>
      intro nf k a σ' k0 hk1 hnf h1
      cases nf with
      | zero => omega
      | succ nf =>
        have hw := h1 78 (by omega)
        have hj := (hk.j k k0 (by omega)).2
        obtain ⟨ef, ewi⟩ := hx.force hk k0 (show k < w 5 by omega)
        have eho : bHouse (σ 78) (bWin w k) = bHouse w (bWin w k) := hx.rg (l := 8) (t := 26) (by omega) _ (by omega) (by omega)
        have hho := (hk.wi _ hj.1 hj.2).1
        have hb := bNetAt_b hk.c (bWin w k)
        rw [pf_X12_gainOf_7, bRd (by omega) (by omega), hw, hx 5 (by omega) (by omega), bLtT (by omega) (by omega) (by omega), bCl (m_windowOf k0 (by omega)), hw, ewi, bCl (m_houseOf (by omega) (by omega)), hw, eho, bGnR]
        unfold pf_X12_gainOf_46
        by_cases y : bHouse w (bWin w k) = h
        · obtain ⟨σ2, a2, s2⟩ := m_isHeldX (σ := σ') (by rw [hw]; exact hk') k0 (by rw [hw, hx 5 (by omega) (by omega)]; omega)
          have eH : bHeld (σ 78) k = if bNetAt w (bWin w k) = -1 then 0 else if bForce w k ≤ bCar w (bNetAt w (bWin w k)) (if oth = 1 then 1 else bNet w (bNetAt w (bWin w k)) 2) then 1 else 0 := by
            unfold bHeld
            rw [ef, ewi, hx.netAt hk.c]
            by_cases z : bNetAt w (bWin w k) = -1
            · rw [if_pos z, if_pos z]
            · rcases bNetAt_spec hk.c (bWin w k) with ⟨z1, -⟩ | ⟨z1, z2, z3⟩
              · exact absurd z1 z
              · rw [if_neg z, if_neg z, hx.car hk z1 z2, hwet _ z1 z2 (by rw [z3]; exact y)]
          rw [bEqT (by omega) y, bCl a2, hw, eH]
          by_cases z : bNetAt w (bWin w k) = -1
          · rw [if_pos z, bEqT (by omega) rfl, bGnI_f (fun t => t.2.1 z), Int.add_zero]
            exact ih nf (k + 1) a σ2 (by omega) (by omega) (by omega) (fun c hc => (s2 c hc).trans (h1 c hc))
          · rw [if_neg z]
            by_cases t : bForce w k ≤ bCar w (bNetAt w (bWin w k)) (if oth = 1 then 1 else bNet w (bNetAt w (bWin w k)) 2)
            · rw [if_pos t, bEqF (by omega) (by omega) (by omega), bGnI_t ⟨y, z, t⟩]
              exact ih nf (k + 1) _ σ2 (by omega) (by omega) (by omega) (fun c hc => (s2 c hc).trans (h1 c hc))
            · rw [if_neg t, bEqT (by omega) rfl, bGnI_f (fun s => t s.2.2), Int.add_zero]
              exact ih nf (k + 1) a σ2 (by omega) (by omega) (by omega) (fun c hc => (s2 c hc).trans (h1 c hc))
        · rw [bEqF (by omega) hh y, bGnI_f (fun t => y t.1), Int.add_zero]
          exact ih nf (k + 1) a σ' (by omega) (by omega) (by omega) h1
  unfold pf_X12_gainOf bGn
  have e : 3 * own = if own = 1 then 3 else 0 := by rcases ho with rfl | rfl <;> rfl
  rw [e]
  exact L (w 5).toNat on_N 0 _ σ (by omega) (by omega) (by unfold on_N; omega) (fun _ _ => rfl)
theorem m_gameOf {σ : on_S} (hk : bOk (σ 78)) {a b c d t : Int} (ha : on_R a) (hb : on_R b) (hab : a ≠ b) (hc : c = 0 ∨ c = 1) (hd : d = 0 ∨ d = 1) (ht : t = 0 ∨ t = 1) : bK (pf_X12_gameOf a b c d t σ) σ (if t = 0 then bGn (σ 78) a c d else bGn (σ 78) b d c) := by
  obtain ⟨q0, q1, q2, q3, q4, q5, q6, q7⟩ := hk.c
  have keep : ∃ σ1 : on_S, pf_X12_gameOf a b c d t σ = pf_X12_gameOf_3 (99997 + 1) a b c d t 2 σ1 ∧ (∀ x, x ≠ 94 → σ1 x = σ x) ∧ σ1 94 0 = bNet (σ 78) 0 2 ∧ σ1 94 1 = bNet (σ 78) 1 2 := by
    refine ⟨on_st (on_st σ 94 0 (bNet (σ 78) 0 2)) 94 1 (bNet (σ 78) 1 2), ?_, fun x hx => by rw [bst_nc hx, bst_nc hx], by rw [bst_ni (by omega), bst_eq], bst_eq⟩
    unfold pf_X12_gameOf
    rw [show on_N = 99997 + 1 + 1 + 1 from rfl, pf_X12_gameOf_3, bLtT (by omega) (by omega) (by omega), bCl (m_ofNet (by omega) (by omega) (by omega) (by omega)), bWr (by omega) (by omega), pf_X12_gameOf_3, bLtT (by omega) (by omega) (by omega), bCl (m_ofNet (by omega) (by omega) (by omega) (by omega)), bWr (by omega) (by omega), bst_nc (show (78 : Nat) ≠ 94 by decide)]; rfl
  obtain ⟨σ1, e1, f1, g0, g1⟩ := keep
  have w1 := f1 78 (by omega)
  obtain ⟨σ2, e2, f2, x2, n2⟩ := m_wets (σ := σ1) (by rw [w1]; exact hk) (h := b) (v := c) hb (by omega)
  rw [w1] at x2 n2
  have wet2 : ∀ n, 0 ≤ n → n < σ 78 4 → bNet (σ2 78) n 2 = 0 ∨ bNet (σ2 78) n 2 = 1 := by
    intro n n0 n1
    have := (hk.n n n0 n1).2.2.1
    rw [n2 n n0 (by omega)]
    split
    · exact Or.inr rfl
    · exact this
  have k2 := x2.ok hk wet2
  obtain ⟨σ3, e3, f3, x3, n3⟩ := m_wets (σ := σ2) k2 (h := a) (v := d) ha (by omega)
  have x3' : bWx (σ 78) (σ3 78) := fun i i0 i1 => (x3 i i0 i1).trans (x2 i i0 i1)
  have n3' : ∀ n, 0 ≤ n → n < σ 78 4 → bNet (σ3 78) n 2 = if d = 1 ∧ bHouse (σ 78) (bNet (σ 78) n 0) = a then 1 else if c = 1 ∧ bHouse (σ 78) (bNet (σ 78) n 0) = b then 1 else bNet (σ 78) n 2 := by
    intro n n0 n1
    have hn := (hk.n n n0 n1).1
    have ew : bNet (σ2 78) n 0 = bNet (σ 78) n 0 := x2.net n0 (by omega) (by omega) (by omega) (by omega)
    have eh : bHouse (σ2 78) (bNet (σ 78) n 0) = bHouse (σ 78) (bNet (σ 78) n 0) := x2.rg (l := 8) (t := 26) (by omega) _ (by omega) (by omega)
    rw [n3 n n0 (by omega), ew, eh, n2 n n0 (by omega), x2 4 (by omega) (by omega)]
    by_cases p : d = 1 ∧ bHouse (σ 78) (bNet (σ 78) n 0) = a
    · rw [if_pos ⟨n1, p⟩, if_pos p]
    · rw [if_neg (fun t => p t.2), if_neg p]
      by_cases q : c = 1 ∧ bHouse (σ 78) (bNet (σ 78) n 0) = b
      · rw [if_pos ⟨n1, q⟩, if_pos q]
      · rw [if_neg (fun t => q t.2), if_neg q]
  have wet3 : ∀ n, 0 ≤ n → n < σ 78 4 → bNet (σ3 78) n 2 = 0 ∨ bNet (σ3 78) n 2 = 1 := by
    intro n n0 n1
    have := (hk.n n n0 n1).2.2.1
    rw [n3' n n0 n1]
    split
    · exact Or.inr rfl
    · split
      · exact Or.inr rfl
      · exact this
  have k3 := x3'.ok hk wet3
  have back : ∀ (v : Int) (σ4 : on_S), (∀ x, x ≠ 84 → σ4 x = σ3 x) → bK (pf_X12_gameOf_63 v σ4) σ v := by
    intro v σ4 f4
    have h94 : ∀ i, σ4 94 i = σ1 94 i := fun i => by rw [f4 94 (by omega), f3 94 (by omega), f2 94 (by omega)]
    unfold pf_X12_gameOf_63
    rw [show on_N = 99997 + 1 + 1 + 1 from rfl, pf_X12_gameOf_68, bLtT (by omega) (by omega) (by omega), bRd (by omega) (by omega), bWr (by omega) (by omega), pf_X12_gameOf_68, bLtT (by omega) (by omega) (by omega), bRd (by omega) (by omega), bWr (by omega) (by omega), pf_X12_gameOf_68, bLtF (by omega) (by omega) (by omega)]
    refine ⟨_, rfl, ?_⟩
    have sm : ∀ x, x ≠ 78 → x ≠ 84 → x ≠ 94 → σ4 x = σ x := fun x a b c => by rw [f4 x b, f3 x a, f2 x a, f1 x c]
    have sm4 : bSm σ σ4 := ⟨fun x hx h78 => sm x h78 (fun e => hx (by rw [e]; decide)) (fun e => hx (by rw [e]; decide)), by rw [sm 77 (by omega) (by omega) (by omega)], by rw [sm 77 (by omega) (by omega) (by omega)], by rw [sm 77 (by omega) (by omega) (by omega)]⟩
    refine ((sm4.tr bSm.st).tr bSm.st).s ?_
    rw [bst_up, bst_up, bst_nc (show (94 : Nat) ≠ 78 by decide), h94, h94, f4 78 (by omega)]
    funext i
    by_cases i1 : i = (62 + (7 * (0 + 1))) + 2
    · rw [i1, bUp_eq]
      show σ1 94 1 = _
      rw [g1]; rfl
    · rw [bUp_ne i1]
      by_cases i0 : i = (62 + (7 * 0)) + 2
      · rw [i0, bUp_eq, g0]; rfl
      · rw [bUp_ne i0]; exact x3' i (by omega) (by omega)
  rw [e1, pf_X12_gameOf_3, bLtF (by omega) (by omega) (by omega), bCl e2, bCl e3]
  rcases ht with rfl | rfl
  · obtain ⟨σ4, e4, f4⟩ := m_gainOf (w := σ 78) (oth := d) hk k3 x3' ha hc (fun n n0 n1 hh => by
      rw [n3' n n0 n1]
      by_cases p : d = 1
      · rw [if_pos ⟨p, hh⟩, if_pos p]
      · rw [if_neg (fun t => p t.1), if_neg p, if_neg (fun t => hab (hh.symm.trans t.2))])
    rw [bEqT (by omega) rfl, bCl e4, if_pos rfl]
    exact back _ σ4 f4
  · obtain ⟨σ4, e4, f4⟩ := m_gainOf (w := σ 78) (oth := c) hk k3 x3' hb hd (fun n n0 n1 hh => by
      rw [n3' n n0 n1, if_neg (fun t => hab (t.2.symm.trans hh))]
      by_cases p : c = 1
      · rw [if_pos ⟨p, hh⟩, if_pos p]
      · rw [if_neg (fun t => p t.1), if_neg p])
    rw [bEqF (by omega) (by omega) (by omega), bCl e4, if_neg (by omega)]
    exact back _ σ4 f4
section O41
variable {n : Nat} {σ : on_S} {p q t u v : Int}
theorem o_game (hI : bI n σ) (hp : on_R p) (hq : on_R q) (ht : on_R t) (hu : on_R u) (hv : on_R v) : bOp n σ (pf_X11_game p q t u v) (pf_X12_game p q t u v) := by
  have h1b := bGn_b hI.k p t u
  have h2b := bGn_b hI.k q u t
  refine bOp.ro (r := if (0 ≤ p ∧ p < σ 78 0) ∧ (0 ≤ q ∧ q < σ 78 0) ∧ p ≠ q then (if t = 0 ∨ t = 1 then (if u = 0 ∨ u = 1 then (if v = 0 ∨ v = 1 then (if v = 0 then bGn (σ 78) p t u else bGn (σ 78) q u t) else -2) else -2) else -2) else -2) hI ?_ ?_ ?_
  · repeat' (first | omega | split)
  · unfold pf_X11_game
    rw [bCl (c_hasTwoHouses hI.k hI.r hp hq), bE01]
    split
    · rw [bCl (c_isBit ht), bE01]
      split
      · rw [bCl (c_isBit hu), bE01]
        split
        · rw [bCl (c_isBit hv), bE01]
          split
          · rw [bCl (c_gainOf hI.k hI.r hp ht hu), bCl (c_gainOf hI.k hI.r hq hu ht), bEqS hv (by omega)]; exact bK.of rfl
          · exact bK.of rfl
        · exact bK.of rfl
      · exact bK.of rfl
    · exact bK.of rfl
  · intro σ1 h1 e _
    rw [← e]
    have e01 : ∀ x : Int, (0 ≤ x ∧ x ≤ 1) ↔ (x = 0 ∨ x = 1) := fun x => by omega
    unfold pf_X12_game pf_X12_game_55
    rw [bCl (m_areHouses h1.k hp hq), bE01]
    split
    · rename_i h
      rw [bCk ht, bCl (m_in' ht (by omega) (by omega)), bE01]
      by_cases x : t = 0 ∨ t = 1
      · rw [if_pos ((e01 t).mpr x), if_pos x, bCk hu, bCl (m_in' hu (by omega) (by omega)), bE01]
        by_cases y : u = 0 ∨ u = 1
        · rw [if_pos ((e01 u).mpr y), if_pos y, bCk hv, bCl (m_in' hv (by omega) (by omega)), bE01]
          by_cases z : v = 0 ∨ v = 1
          · obtain ⟨σ2, a2, s2⟩ := m_gameOf h1.k hp hq h.2.2 x y z
            rw [if_pos ((e01 v).mpr z), if_pos z, bCl a2]; exact ⟨_, rfl, s2⟩
          · rw [if_neg (fun k => z ((e01 v).mp k)), if_neg z]; exact bK.of rfl
        · rw [if_neg (fun k => y ((e01 u).mp k)), if_neg y]; exact bK.of rfl
      · rw [if_neg (fun k => x ((e01 t).mp k)), if_neg x]; exact bK.of rfl
    · exact bK.of rfl
/-- do they rest by these choices -/
abbrev bRest (w : bW) (p q a b : Int) : Prop := bGn w p (1 - a) b ≤ bGn w p a b ∧ bGn w q (1 - b) a ≤ bGn w q b a
def bRsS (w : bW) (p q a b s : Int) : Int := if bRest w p q a b then on_or s (on_shl 1 ((2 * a) + b)) else s
def bRs (w : bW) (p q : Int) : Int := bRsS w p q 1 1 (bRsS w p q 1 0 (bRsS w p q 0 1 (bRsS w p q 0 0 0)))
theorem bRs_16 : ∀ s : Nat, s < 16 → (∀ k : Nat, k < 4 → 0 ≤ on_or (s : Int) (on_shl 1 (k : Int)) ∧ on_or (s : Int) (on_shl 1 (k : Int)) < 16) ∧ on_or (s : Int) 0 = (s : Int) := by decide +kernel
theorem bRsS_b {w : bW} {p q a b s : Int} (ha : a = 0 ∨ a = 1) (hb : b = 0 ∨ b = 1) (s0 : 0 ≤ s) (s1 : s < 16) : 0 ≤ bRsS w p q a b s ∧ bRsS w p q a b s < 16 := by
  have h := (bRs_16 s.toNat (by omega)).1
  rw [show ((s.toNat : Nat) : Int) = s by omega] at h
  unfold bRsS
  split
  · have := h ((2 * a + b).toNat) (by omega)
    rw [show ((((2 * a + b).toNat) : Nat) : Int) = 2 * a + b by omega] at this
    exact this
  · exact ⟨s0, s1⟩
theorem o_rests (hI : bI n σ) (hp : on_R p) (hq : on_R q) : bOp n σ (pf_X11_rests p q) (pf_X12_rests p q) := by
  have r1 := bRsS_b (w := σ 78) (p := p) (q := q) (a := 0) (b := 0) (s := 0) (by omega) (by omega) (by omega) (by omega)
  have r2 := bRsS_b (w := σ 78) (p := p) (q := q) (a := 0) (b := 1) (by omega) (by omega) r1.1 r1.2
  have r3 := bRsS_b (w := σ 78) (p := p) (q := q) (a := 1) (b := 0) (by omega) (by omega) r2.1 r2.2
  have r4 := bRsS_b (w := σ 78) (p := p) (q := q) (a := 1) (b := 1) (by omega) (by omega) r3.1 r3.2
  refine bOp.ro (r := if (0 ≤ p ∧ p < σ 78 0) ∧ (0 ≤ q ∧ q < σ 78 0) ∧ p ≠ q then bRs (σ 78) p q else -2) hI ?_ ?_ ?_
  · unfold bRs
    split <;> omega
  · unfold pf_X11_rests
    rw [bCl (c_hasTwoHouses hI.k hI.r hp hq), bE01]
    split
    · have step : ∀ (k20 : Int → Int → Int → Int → on_S → Option on_O) (nf : Nat) (s a b : Int), (a = 0 ∨ a = 1) → (b = 0 ∨ b = 1) → pf_X11_rests_29 k20 (nf + 1) p q s a b σ = pf_X11_rests_29 k20 nf p q (bRsS (σ 78) p q a b s) a (b + 1) σ := by
        intro k20 nf s a b ha hb
        have g1 := bGn_b hI.k p (1 - a) b
        have g2 := bGn_b hI.k p a b
        have g3 := bGn_b hI.k q (1 - b) a
        have g4 := bGn_b hI.k q b a
        rw [pf_X11_rests_29, bLtT (by omega) (by omega) (by omega), bCl (c_gainOf hI.k hI.r hp (by omega) (by omega)), bCl (c_gainOf hI.k hI.r hp (by omega) (by omega))]
        unfold pf_X11_rests_63 bRsS
        rw [bCl (c_gainOf hI.k hI.r hq (by omega) (by omega)), bCl (c_gainOf hI.k hI.r hq (by omega) (by omega))]
        rw [bCl (c_gainOf hI.k hI.r hq (by omega) (by omega)), bCl (c_gainOf hI.k hI.r hq (by omega) (by omega))]
        unfold pf_X11_rests_93
        by_cases x : bGn (σ 78) p (1 - a) b ≤ bGn (σ 78) p a b
        · rw [bLeT (by omega) (by omega) x]
          by_cases y : bGn (σ 78) q (1 - b) a ≤ bGn (σ 78) q b a
          · rw [bLeT (by omega) (by omega) y, bEqF (by omega) (by omega) (by omega), bEqF (by omega) (by omega) (by omega), if_pos ⟨x, y⟩]
          · rw [bLeF (by omega) (by omega) (by omega), bEqF (by omega) (by omega) (by omega), bEqT (by omega) rfl, if_neg (fun t => y t.2)]
        · rw [bLeF (by omega) (by omega) (by omega), if_neg (fun t => x t.1)]
          by_cases y : bGn (σ 78) q (1 - b) a ≤ bGn (σ 78) q b a
          · rw [bLeT (by omega) (by omega) y, bEqT (by omega) rfl]
          · rw [bLeF (by omega) (by omega) (by omega), bEqT (by omega) rfl]
      have inner : ∀ (k20 : Int → Int → Int → Int → on_S → Option on_O) (s a : Int), (a = 0 ∨ a = 1) → pf_X11_rests_29 k20 on_N p q s a 0 σ = k20 p q (bRsS (σ 78) p q a 1 (bRsS (σ 78) p q a 0 s)) (a + 1) σ := by
        intro k20 s a ha
        rw [show on_N = 99997 + 1 + 1 + 1 from rfl, step _ _ _ a 0 ha (Or.inl rfl), step _ _ _ a (0 + 1) ha (Or.inr rfl), pf_X11_rests_29, bLtF (by omega) (by omega) (by omega)]; rfl
      unfold bRs
      rw [show on_N = 99997 + 1 + 1 + 1 from rfl, pf_X11_rests_20, bLtT (by omega) (by omega) (by omega), inner _ _ 0 (Or.inl rfl), pf_X11_rests_20, bLtT (by omega) (by omega) (by omega), inner _ _ (0 + 1) (Or.inr rfl), pf_X11_rests_20, bLtF (by omega) (by omega) (by omega)]
      exact bK.of rfl
    · exact bK.of rfl
  · intro σ1 h1 e _
    rw [← e]
    unfold pf_X12_rests
    rw [bCl (m_areHouses h1.k hp hq), bE01]
    split
    · rename_i h
      have step : ∀ (k17 : Int → Int → Int → Int → on_S → Option on_O) (nf : Nat) (s a b : Int) (σ' : on_S), bS σ1 σ' → (a = 0 ∨ a = 1) → (b = 0 ∨ b = 1) → 0 ≤ s → s < 16 → ∃ σ'', bS σ1 σ'' ∧ pf_X12_rests_26 k17 (nf + 1) p q s a b σ' = pf_X12_rests_26 k17 nf p q (bRsS (σ1 78) p q a b s) a (b + 1) σ'' := by
        intro k17 nf s a b σ' hs ha hb s0 s1
        have hor := (bRs_16 s.toNat (by omega)).2
        rw [show ((s.toNat : Nat) : Int) = s by omega] at hor
        have g1 := bGn_b h1.k p (1 - a) b
        have g2 := bGn_b h1.k p a b
        have g3 := bGn_b h1.k q (1 - b) a
        have g4 := bGn_b h1.k q b a
        have w1 := hs.w
        obtain ⟨σ2, a2, s2⟩ := m_gameOf (σ := σ') (by rw [w1]; exact h1.k) hp hq h.2.2 (c := 1 - a) (d := b) (t := 0) (by omega) hb (Or.inl rfl)
        have w2 := (hs.tr s2).w
        obtain ⟨σ3, a3, s3⟩ := m_gameOf (σ := σ2) (by rw [w2]; exact h1.k) hp hq h.2.2 (c := a) (d := b) (t := 0) ha hb (Or.inl rfl)
        have w3 := ((hs.tr s2).tr s3).w
        rw [w1, if_pos rfl] at a2
        rw [w2, if_pos rfl] at a3
        rw [pf_X12_rests_26, bLtT (by omega) (by omega) (by omega), bCl a2, bCl a3]
        unfold bRsS pf_X12_rests_90 pf_X12_rests_91
        by_cases x : bGn (σ1 78) p (1 - a) b ≤ bGn (σ1 78) p a b
        · obtain ⟨σ4, a4, s4⟩ := m_gameOf (σ := σ3) (by rw [w3]; exact h1.k) hp hq h.2.2 (c := a) (d := 1 - b) (t := 1) ha (by omega) (Or.inr rfl)
          have w4 := (((hs.tr s2).tr s3).tr s4).w
          obtain ⟨σ5, a5, s5⟩ := m_gameOf (σ := σ4) (by rw [w4]; exact h1.k) hp hq h.2.2 (c := a) (d := b) (t := 1) ha hb (Or.inr rfl)
          rw [w3, if_neg (by omega)] at a4
          rw [w4, if_neg (by omega)] at a5
          refine ⟨σ5, (((hs.tr s2).tr s3).tr s4).tr s5, ?_⟩
          rw [bLeT (by omega) (by omega) x, bCl a4, bCl a5]
          by_cases y : bGn (σ1 78) q (1 - b) a ≤ bGn (σ1 78) q b a
          · rw [bLeT (by omega) (by omega) y, bEqF (by omega) (by omega) (by omega), if_pos ⟨x, y⟩]
          · rw [bLeF (by omega) (by omega) (by omega), bEqT (by omega) rfl, if_neg (fun t => y t.2), hor]
        · refine ⟨σ3, (hs.tr s2).tr s3, ?_⟩
          rw [bLeF (by omega) (by omega) (by omega), bEqT (by omega) rfl, if_neg (fun t => x t.1), hor]
      have inner : ∀ (k17 : Int → Int → Int → Int → on_S → Option on_O) (s a : Int) (σ' : on_S), bS σ1 σ' → (a = 0 ∨ a = 1) → 0 ≤ s → s < 16 → ∃ σ'', bS σ1 σ'' ∧ pf_X12_rests_26 k17 on_N p q s a 0 σ' = k17 p q (bRsS (σ1 78) p q a 1 (bRsS (σ1 78) p q a 0 s)) (a + 1) σ'' := by
        intro k17 s a σ' hs ha s0 s1
        obtain ⟨σ2, t2, e2⟩ := step k17 99999 s a 0 σ' hs ha (Or.inl rfl) s0 s1
        have hb := bRsS_b (w := σ1 78) (p := p) (q := q) (a := a) (b := 0) ha (Or.inl rfl) s0 s1
        obtain ⟨σ3, t3, e3⟩ := step k17 99998 (bRsS (σ1 78) p q a 0 s) a (0 + 1) σ2 t2 ha (Or.inr rfl) hb.1 hb.2
        refine ⟨σ3, t3, ?_⟩
        rw [show on_N = 99999 + 1 from rfl, e2, show (99999 : Nat) = 99998 + 1 from rfl, e3, show (99998 : Nat) = 99997 + 1 from rfl, pf_X12_rests_26, bLtF (by omega) (by omega) (by omega)]; rfl
      unfold bRs
      rw [← e] at r1 r2 r3
      obtain ⟨σ2, t2, e2⟩ := inner (pf_X12_rests_17 99999) 0 0 σ1 (bS.rf σ1) (Or.inl rfl) (by omega) (by omega)
      obtain ⟨σ3, t3, e3⟩ := inner (pf_X12_rests_17 99998) (bRsS (σ1 78) p q 0 1 (bRsS (σ1 78) p q 0 0 0)) (0 + 1) σ2 t2 (Or.inr rfl) r2.1 r2.2
      refine ⟨σ3, ?_, t3⟩
      rw [show on_N = 99999 + 1 from rfl, pf_X12_rests_17, bLtT (by omega) (by omega) (by omega), e2, show (99999 : Nat) = 99998 + 1 from rfl, pf_X12_rests_17, bLtT (by omega) (by omega) (by omega), e3, show (99998 : Nat) = 99997 + 1 from rfl, pf_X12_rests_17, bLtF (by omega) (by omega) (by omega)]
      rfl
    · exact bK.of rfl
end O41
