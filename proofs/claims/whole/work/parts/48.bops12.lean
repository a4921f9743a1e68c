/-! B: falls and storeys -/
def bNul : on_S := fun _ _ => 0
/-- a result that does not look at the world, and leaves it as it is -/
def bIdle (F : on_S → Option on_O) : Prop := ∀ σ, F σ = (F bNul).map fun o => (o.1, σ)
theorem bIdle.k (v : Int) : bIdle fun σ => some (v, σ) := fun _ => rfl
theorem bIdle.lt {a b : Int} {x y : on_S → Option on_O} (hx : bIdle x) (hy : bIdle y) : bIdle fun σ => on_Lt a b (x σ) (y σ) := by
  intro σ
  show on_Lt a b (x σ) (y σ) = (on_Lt a b (x bNul) (y bNul)).map _
  unfold on_Lt
  split
  · split
    · exact hx σ
    · exact hy σ
  · rfl
theorem bIdle.le {a b : Int} {x y : on_S → Option on_O} (hx : bIdle x) (hy : bIdle y) : bIdle fun σ => on_Le a b (x σ) (y σ) := by
  intro σ
  show on_Le a b (x σ) (y σ) = (on_Le a b (x bNul) (y bNul)).map _
  unfold on_Le
  split
  · split
    · exact hx σ
    · exact hy σ
  · rfl
theorem bIdle.ck {a : Int} {x : on_S → Option on_O} (hx : bIdle x) : bIdle fun σ => on_Ck a (x σ) := by
  intro σ
  show on_Ck a (x σ) = (on_Ck a (x bNul)).map _
  unfold on_Ck
  split
  · exact hx σ
  · rfl
theorem bIdle.dv {a b : Int} {x : Int → on_S → Option on_O} (hx : ∀ v, bIdle (x v)) : bIdle fun σ => on_Dv a b fun v => x v σ := by
  intro σ
  show (on_Dv a b fun v => x v σ) = (on_Dv a b fun v => x v bNul).map _
  unfold on_Dv
  split
  · exact hx _ σ
  · rfl
theorem bIdle.dvl {a b : Int} {x : Int → on_S → Option on_O} (hx : ∀ v, bIdle (x v)) : bIdle fun σ => on_DvL a b fun v => x v σ := by
  intro σ
  show (on_DvL a b fun v => x v σ) = (on_DvL a b fun v => x v bNul).map _
  unfold on_DvL
  split
  · exact hx _ σ
  · rfl
theorem bIdle.mx {a b : Int} {x : Int → on_S → Option on_O} (hx : ∀ v, bIdle (x v)) : bIdle fun σ => on_Mx a b fun v => x v σ := by
  intro σ
  show (on_Mx a b fun v => x v σ) = (on_Mx a b fun v => x v bNul).map _
  unfold on_Mx
  split
  · exact hx _ σ
  · rfl
theorem bIdle.mnl {a b : Int} {x : Int → on_S → Option on_O} (hx : ∀ v, bIdle (x v)) : bIdle fun σ => on_MnL a b fun v => x v σ := by
  intro σ
  show (on_MnL a b fun v => x v σ) = (on_MnL a b fun v => x v bNul).map _
  unfold on_MnL
  split
  · exact hx _ σ
  · rfl
theorem bIdle.cl {x : on_S → Option on_O} {k : Int → on_S → Option on_O} (hx : bIdle x) (hk : ∀ v, bIdle (k v)) : bIdle fun σ => on_Cl (x σ) k := by
  intro σ
  show on_Cl (x σ) k = (on_Cl (x bNul) k).map _
  rw [hx σ]
  have := hx bNul
  cases h : x bNul with
  | none => rfl
  | some o =>
    rw [h] at this
    show k o.1 σ = (k o.1 o.2).map _
    have e : o.2 = bNul := by
      injection this with t
      rw [t]
    rw [e]
    exact hk _ σ
theorem f_storeys8 (b : Int) : ∀ (nf : Nat) (a c d e : Int), bIdle (pf_X11_storeysFound_8 nf a b c d e) := by
  intro nf
  induction nf with
  | zero => intro a c d e σ; rfl
  | succ nf ih =>
    intro a c d e
    exact (bIdle.le (bIdle.ck (bIdle.ck (bIdle.dvl fun v => ih a (c + v) v (e + 1)))) (bIdle.mnl fun v => bIdle.k v)).le (bIdle.mnl fun v => bIdle.k v)
theorem f_storeys (a b : Int) : bIdle (pf_X11_storeysFound a b) := f_storeys8 b on_N a 0 1 1
theorem f_fewest2 (b : Int) : ∀ (nf : Nat) (a c : Int), bIdle (pf_X11_fewestFalls_2 nf a b c) := by
  intro nf
  induction nf with
  | zero => intro a c σ; rfl
  | succ nf ih =>
    intro a c
    exact ((f_storeys c b).cl fun v => (ih a (c + 1)).lt (bIdle.k c)).lt (bIdle.k c)
theorem f_fewest (a b : Int) : bIdle (pf_X11_fewestFalls a b) := f_fewest2 b on_N a 0
theorem f_sought7 : ∀ (nf : Nat) (a b c d e : Int), bIdle (pf_X12_soughtBy_7 nf a b c d e) := by
  intro nf
  induction nf with
  | zero => intro a b c d e σ; rfl
  | succ nf ih =>
    intro a b c d e
    exact (bIdle.dv fun v => ih a b (c + v) v (e + 1)).le (bIdle.k c)
theorem f_sought (a b : Int) : bIdle (pf_X12_soughtBy a b) := f_sought7 on_N a b 0 1 1
theorem f_tests2 (b : Int) : ∀ (nf : Nat) (a c : Int), bIdle (pf_X12_testsFor_2 nf a b c) := by
  intro nf
  induction nf with
  | zero => intro a c σ; rfl
  | succ nf ih =>
    intro a c
    exact (f_sought c b).cl fun v => (ih a (c + 1)).lt (bIdle.k c)
theorem f_tests (a b : Int) : bIdle (pf_X12_testsFor a b) := f_tests2 b on_N a 0
def bSame (x y : Option on_O) : Bool := match x, y with
  | some u, some v => u.1 == v.1 && decide (-9 ≤ u.1) && decide (u.1 ≤ 100000)
  | _, _ => false
theorem bSame_of {x y : on_S → Option on_O} (hx : bIdle x) (hy : bIdle y) (h : bSame (x bNul) (y bNul) = true) : ∃ r, on_R r ∧ ∀ σ, x σ = some (r, σ) ∧ y σ = some (r, σ) := by
  unfold bSame at h
  cases hu : x bNul with
  | none => rw [hu] at h; cases h
  | some u =>
    cases hv : y bNul with
    | none => rw [hu, hv] at h; cases h
    | some v =>
      rw [hu, hv] at h
      simp only [Bool.and_eq_true, beq_iff_eq, decide_eq_true_eq] at h
      refine ⟨u.1, by omega, fun σ => ⟨?_, ?_⟩⟩
      · rw [hx σ, hu]; rfl
      · rw [hy σ, hv, h.1.1]; rfl
set_option maxRecDepth 100000 in
theorem bTests_all : ∀ a : Nat, a < 100 → ∀ b : Nat, b < 9 → bSame (pf_X11_fewestFalls a ((b : Int) + 1) bNul) (pf_X12_testsFor a ((b : Int) + 1) bNul) = true := by decide +kernel
set_option maxRecDepth 100000 in
theorem bSought_all : ∀ a : Nat, a < 13 → ∀ b : Nat, b < 9 → bSame (pf_X11_storeysFound a ((b : Int) + 1) bNul) (pf_X12_soughtBy a ((b : Int) + 1) bNul) = true := by decide +kernel
def bFfC (a b : Int) (σ : on_S) : Option on_O :=
  on_Cl (pf_X11_fewestFalls a b σ) fun v1 σ2 =>
  on_Cl (pf_X11_storeysFound (v1 - 1) b σ2) fun v3 σ4 =>
  on_Mx 1 (a - v3) fun v5 =>
  some (v5, σ4)
def bFfM (a b : Int) (σ : on_S) : Option on_O :=
  on_Cl (pf_X12_testsFor a b σ) fun v5 σ6 =>
  on_Cl (pf_X12_soughtBy (v5 - 1) b σ6) fun v7 σ8 =>
  on_Mx 1 (a - v7) fun v9 =>
  some (v9, σ8)
theorem f_FfC (a b : Int) : bIdle (bFfC a b) := (f_fewest a b).cl fun v => (f_storeys (v - 1) b).cl fun u => bIdle.mx fun t => bIdle.k t
theorem f_FfM (a b : Int) : bIdle (bFfM a b) := (f_tests a b).cl fun v => (f_sought (v - 1) b).cl fun u => bIdle.mx fun t => bIdle.k t
set_option maxRecDepth 100000 in
theorem bFirst_all : ∀ a : Nat, a < 99 → ∀ b : Nat, b < 9 → bSame (bFfC ((a : Int) + 1) ((b : Int) + 1) bNul) (bFfM ((a : Int) + 1) ((b : Int) + 1) bNul) = true := by decide +kernel
section O48
variable {n : Nat} {σ : on_S} {p q : Int}
theorem bTests (p0 : 0 ≤ p) (p1 : p ≤ 99) (q0 : 1 ≤ q) (q1 : q ≤ 9) : ∃ r, on_R r ∧ ∀ σ, pf_X11_fewestFalls p q σ = some (r, σ) ∧ pf_X12_testsFor p q σ = some (r, σ) := by
  have := bTests_all p.toNat (by omega) (q - 1).toNat (by omega)
  rw [show (p.toNat : Int) = p by omega, show ((q - 1).toNat : Int) + 1 = q by omega] at this
  exact bSame_of (f_fewest p q) (f_tests p q) this
theorem bSought (p0 : 0 ≤ p) (p1 : p ≤ 12) (q0 : 1 ≤ q) (q1 : q ≤ 9) : ∃ r, on_R r ∧ ∀ σ, pf_X11_storeysFound p q σ = some (r, σ) ∧ pf_X12_soughtBy p q σ = some (r, σ) := by
  have := bSought_all p.toNat (by omega) (q - 1).toNat (by omega)
  rw [show (p.toNat : Int) = p by omega, show ((q - 1).toNat : Int) + 1 = q by omega] at this
  exact bSame_of (f_storeys p q) (f_sought p q) this
theorem bFirst (p0 : 1 ≤ p) (p1 : p ≤ 99) (q0 : 1 ≤ q) (q1 : q ≤ 9) : ∃ r, on_R r ∧ ∀ σ, bFfC p q σ = some (r, σ) ∧ bFfM p q σ = some (r, σ) := by
  have := bFirst_all (p - 1).toNat (by omega) (q - 1).toNat (by omega)
  rw [show ((p - 1).toNat : Int) + 1 = p by omega, show ((q - 1).toNat : Int) + 1 = q by omega] at this
  exact bSame_of (f_FfC p q) (f_FfM p q) this
theorem o_tests (hI : bI n σ) (hp : on_R p) (hq : on_R q) : bOp n σ (pf_X11_tests p q) (pf_X12_tests p q) := by
  by_cases h : 0 ≤ p ∧ p ≤ 99
  · by_cases g : 1 ≤ q ∧ q ≤ 9
    · obtain ⟨r, hr, hs⟩ := bTests h.1 h.2 g.1 g.2
      refine bOp.no hI hr ?_ ?_
      · unfold pf_X11_tests
        rw [bLtF hp (by omega) h.1, bLeT hp (by omega) h.2, bLtF hq (by omega) g.1, bLeT hq (by omega) g.2, bCl (hs σ).1]
      · unfold pf_X12_tests
        rw [bCk hp, bCl (m_in' hp (by omega) (by omega)), bE01, if_pos h, bCk hq, bCl (m_in' hq (by omega) (by omega)), bE01, if_pos g, bCl (hs σ).2]
    · refine bOp.no (r := -2) hI (by omega) ?_ ?_
      · unfold pf_X11_tests
        rw [bLtF hp (by omega) h.1, bLeT hp (by omega) h.2]
        by_cases f : q < 1
        · rw [bLtT hq (by omega) f]
        · rw [bLtF hq (by omega) (by omega), bLeF hq (by omega) (by omega)]
      · unfold pf_X12_tests pf_X12_tests_32
        rw [bCk hp, bCl (m_in' hp (by omega) (by omega)), bE01, if_pos h, bCk hq, bCl (m_in' hq (by omega) (by omega)), bE01, if_neg g]
  · refine bOp.no (r := -2) hI (by omega) ?_ ?_
    · unfold pf_X11_tests
      by_cases f : p < 0
      · rw [bLtT hp (by omega) f]
      · rw [bLtF hp (by omega) (by omega), bLeF hp (by omega) (by omega)]
    · unfold pf_X12_tests pf_X12_tests_32
      rw [bCk hp, bCl (m_in' hp (by omega) (by omega)), bE01, if_neg h]
theorem o_sought (hI : bI n σ) (hp : on_R p) (hq : on_R q) : bOp n σ (pf_X11_sought p q) (pf_X12_sought p q) := by
  by_cases h : 0 ≤ p ∧ p ≤ 12
  · by_cases g : 1 ≤ q ∧ q ≤ 9
    · obtain ⟨r, hr, hs⟩ := bSought h.1 h.2 g.1 g.2
      refine bOp.no hI hr ?_ ?_
      · unfold pf_X11_sought
        rw [bLtF hp (by omega) h.1, bLeT hp (by omega) h.2, bLtF hq (by omega) g.1, bLeT hq (by omega) g.2, bCl (hs σ).1]
      · unfold pf_X12_sought
        rw [bCk hp, bCl (m_in' hp (by omega) (by omega)), bE01, if_pos h, bCk hq, bCl (m_in' hq (by omega) (by omega)), bE01, if_pos g, bCl (hs σ).2]
    · refine bOp.no (r := -2) hI (by omega) ?_ ?_
      · unfold pf_X11_sought
        rw [bLtF hp (by omega) h.1, bLeT hp (by omega) h.2]
        by_cases f : q < 1
        · rw [bLtT hq (by omega) f]
        · rw [bLtF hq (by omega) (by omega), bLeF hq (by omega) (by omega)]
      · unfold pf_X12_sought pf_X12_sought_32
        rw [bCk hp, bCl (m_in' hp (by omega) (by omega)), bE01, if_pos h, bCk hq, bCl (m_in' hq (by omega) (by omega)), bE01, if_neg g]
  · refine bOp.no (r := -2) hI (by omega) ?_ ?_
    · unfold pf_X11_sought
      by_cases f : p < 0
      · rw [bLtT hp (by omega) f]
      · rw [bLtF hp (by omega) (by omega), bLeF hp (by omega) (by omega)]
    · unfold pf_X12_sought pf_X12_sought_32
      rw [bCk hp, bCl (m_in' hp (by omega) (by omega)), bE01, if_neg h]
theorem o_firstFall (hI : bI n σ) (hp : on_R p) (hq : on_R q) : bOp n σ (pf_X11_firstFall p q) (pf_X12_firstFall p q) := by
  by_cases h : 1 ≤ p ∧ p ≤ 99
  · by_cases g : 1 ≤ q ∧ q ≤ 9
    · obtain ⟨r, hr, hs⟩ := bFirst h.1 h.2 g.1 g.2
      refine bOp.no hI hr ?_ ?_
      · unfold pf_X11_firstFall
        rw [bLtF hp (by omega) h.1, bLeT hp (by omega) h.2, bLtF hq (by omega) g.1, bLeT hq (by omega) g.2]
        exact (hs σ).1
      · unfold pf_X12_firstFall
        rw [bCk hp, bCl (m_in' hp (by omega) (by omega)), bE01, if_pos h, bCk hq, bCl (m_in' hq (by omega) (by omega)), bE01, if_pos g]
        exact (hs σ).2
    · refine bOp.no (r := -2) hI (by omega) ?_ ?_
      · unfold pf_X11_firstFall
        rw [bLtF hp (by omega) h.1, bLeT hp (by omega) h.2]
        by_cases f : q < 1
        · rw [bLtT hq (by omega) f]
        · rw [bLtF hq (by omega) (by omega), bLeF hq (by omega) (by omega)]
      · unfold pf_X12_firstFall pf_X12_firstFall_44
        rw [bCk hp, bCl (m_in' hp (by omega) (by omega)), bE01, if_pos h, bCk hq, bCl (m_in' hq (by omega) (by omega)), bE01, if_neg g]
  · refine bOp.no (r := -2) hI (by omega) ?_ ?_
    · unfold pf_X11_firstFall
      by_cases f : p < 1
      · rw [bLtT hp (by omega) f]
      · rw [bLtF hp (by omega) (by omega), bLeF hp (by omega) (by omega)]
    · unfold pf_X12_firstFall pf_X12_firstFall_44
      rw [bCk hp, bCl (m_in' hp (by omega) (by omega)), bE01, if_neg h]
end O48
