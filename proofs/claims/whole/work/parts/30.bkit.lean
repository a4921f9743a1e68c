/-! B, the toolkit: pure steps one by one; what a row of numbers says of a street -/
theorem bRd {σ : on_S} {c n : Nat} {i : Int} {k : Int → Option on_O} (h0 : 0 ≤ i) (h1 : i < (n : Int)) : on_Rd σ c n i k = k (σ c i) := if_pos ⟨h0, h1⟩
theorem bWr {σ : on_S} {c n : Nat} {i v : Int} {k : on_S → Option on_O} (h0 : 0 ≤ i) (h1 : i < (n : Int)) : on_Wr σ c n i v k = k (on_st σ c i v) := if_pos ⟨h0, h1⟩
theorem bGt {σ : on_S} {c : Nat} {i : Int} {k : Int → Option on_O} : on_Gt σ c i k = k (σ c i) := rfl
theorem bPt {σ : on_S} {c : Nat} {i v : Int} {k : on_S → Option on_O} : on_Pt σ c i v k = k (on_st σ c i v) := rfl
theorem bClS {v : Int} {σ : on_S} {k : Int → on_S → Option on_O} : on_Cl (some (v, σ)) k = k v σ := rfl
theorem bCl {x : Option on_O} {v : Int} {σ : on_S} {k : Int → on_S → Option on_O} (h : x = some (v, σ)) : on_Cl x k = k v σ := by rw [h]; rfl
theorem bEqT {a b : Int} {x y : Option on_O} (ha : on_R a) (h : a = b) : on_Eq a b x y = x := by
  subst h; unfold on_Eq; rw [if_pos ⟨ha, ha⟩, if_pos rfl]
theorem bEqF {a b : Int} {x y : Option on_O} (ha : on_R a) (hb : on_R b) (h : a ≠ b) : on_Eq a b x y = y := by unfold on_Eq; rw [if_pos ⟨ha, hb⟩, if_neg h]
theorem bLtT {a b : Int} {x y : Option on_O} (ha : on_R a) (hb : on_R b) (h : a < b) : on_Lt a b x y = x := by unfold on_Lt; rw [if_pos ⟨ha, hb⟩, if_pos h]
theorem bLtF {a b : Int} {x y : Option on_O} (ha : on_R a) (hb : on_R b) (h : b ≤ a) : on_Lt a b x y = y := by unfold on_Lt; rw [if_pos ⟨ha, hb⟩, if_neg (by omega)]
theorem bLeT {a b : Int} {x y : Option on_O} (ha : on_R a) (hb : on_R b) (h : a ≤ b) : on_Le a b x y = x := by unfold on_Le; rw [if_pos ⟨ha, hb⟩, if_pos h]
theorem bLeF {a b : Int} {x y : Option on_O} (ha : on_R a) (hb : on_R b) (h : b < a) : on_Le a b x y = y := by unfold on_Le; rw [if_pos ⟨ha, hb⟩, if_neg (by omega)]
theorem bEqLT {a b : Int} {x y : Option on_O} (ha : on_RL a) (h : a = b) : on_EqL a b x y = x := by
  subst h; unfold on_EqL; rw [if_pos ⟨ha, ha⟩, if_pos rfl]
theorem bEqLF {a b : Int} {x y : Option on_O} (ha : on_RL a) (hb : on_RL b) (h : a ≠ b) : on_EqL a b x y = y := by unfold on_EqL; rw [if_pos ⟨ha, hb⟩, if_neg h]
theorem bLtLT {a b : Int} {x y : Option on_O} (ha : on_RL a) (hb : on_RL b) (h : a < b) : on_LtL a b x y = x := by unfold on_LtL; rw [if_pos ⟨ha, hb⟩, if_pos h]
theorem bLtLF {a b : Int} {x y : Option on_O} (ha : on_RL a) (hb : on_RL b) (h : b ≤ a) : on_LtL a b x y = y := by unfold on_LtL; rw [if_pos ⟨ha, hb⟩, if_neg (by omega)]
theorem bLeLT {a b : Int} {x y : Option on_O} (ha : on_RL a) (hb : on_RL b) (h : a ≤ b) : on_LeL a b x y = x := by unfold on_LeL; rw [if_pos ⟨ha, hb⟩, if_pos h]
theorem bLeLF {a b : Int} {x y : Option on_O} (ha : on_RL a) (hb : on_RL b) (h : b < a) : on_LeL a b x y = y := by unfold on_LeL; rw [if_pos ⟨ha, hb⟩, if_neg (by omega)]
theorem bDv {a b : Int} {k : Int → Option on_O} (h0 : 0 ≤ a) (ha : a < 2147483648) (hb : b < 2147483648) (h : 0 < b) : on_Dv a b k = k (a / b) := by
  unfold on_Dv; rw [if_pos ⟨⟨by omega, ha⟩, ⟨by omega, hb⟩, h⟩, Int.tdiv_eq_ediv_of_nonneg h0]
theorem bRm {a b : Int} {k : Int → Option on_O} (h0 : 0 ≤ a) (ha : a < 2147483648) (hb : b < 2147483648) (h : 0 < b) : on_Rm a b k = k (a % b) := by
  unfold on_Rm; rw [if_pos ⟨⟨by omega, ha⟩, ⟨by omega, hb⟩, h⟩, Int.tmod_eq_emod_of_nonneg h0]
theorem bDvL {a b : Int} {k : Int → Option on_O} (h0 : 0 ≤ a) (ha : a < 9223372036854775808) (hb : b < 9223372036854775808) (h : 0 < b) : on_DvL a b k = k (a / b) := by
  unfold on_DvL; rw [if_pos ⟨⟨by omega, ha⟩, ⟨by omega, hb⟩, h⟩, Int.tdiv_eq_ediv_of_nonneg h0]
theorem bRmL {a b : Int} {k : Int → Option on_O} (h0 : 0 ≤ a) (ha : a < 9223372036854775808) (hb : b < 9223372036854775808) (h : 0 < b) : on_RmL a b k = k (a % b) := by
  unfold on_RmL; rw [if_pos ⟨⟨by omega, ha⟩, ⟨by omega, hb⟩, h⟩, Int.tmod_eq_emod_of_nonneg h0]
theorem bCk {a : Int} {x : Option on_O} (ha : on_R a) : on_Ck a x = x := if_pos ha
theorem bMx {a b : Int} {k : Int → Option on_O} (ha : on_R a) (hb : on_R b) : on_Mx a b k = k (max a b) := if_pos ⟨ha, hb⟩
theorem bMn {a b : Int} {k : Int → Option on_O} (ha : on_R a) (hb : on_R b) : on_Mn a b k = k (min a b) := if_pos ⟨ha, hb⟩
theorem bMnL {a b : Int} {k : Int → Option on_O} (ha : on_RL a) (hb : on_RL b) : on_MnL a b k = k (min a b) := if_pos ⟨ha, hb⟩
theorem bAb {a : Int} {k : Int → Option on_O} (h0 : 0 ≤ a) (ha : a < 2147483648) : on_Ab a k = k a := by
  unfold on_Ab; rw [if_pos (show on_R a by omega), if_pos h0]
theorem bBz0 {σ : on_S} : on_Bz 0 σ = some (0, σ) := rfl
theorem bBz1 {σ : on_S} : on_Bz 1 σ = some (1, σ) := rfl
theorem bBz {a : Int} {σ : on_S} (h : a = 0 ∨ a = 1) : on_Bz a σ = some (a, σ) := if_pos h
theorem bIx {N : Nat} {i : Int} {k : Nat → Option on_O} (h0 : 0 ≤ i) (h1 : i < (N : Int)) : on_Ix N i k = k i.toNat := if_pos ⟨h0, h1⟩
theorem bCp {σ : on_S} {c0 n0 : Nat} {sp : Int} {c1 n1 : Nat} {dp m : Int} {k : on_S → Option on_O} (h0 : 0 ≤ sp) (h1 : 0 ≤ dp) (h2 : 0 ≤ m) (h3 : sp + m ≤ (n0 : Int)) (h4 : dp + m ≤ (n1 : Int)) : on_Cp σ c0 n0 sp c1 n1 dp m k = k (on_cp σ c0 sp c1 dp m) := if_pos ⟨h0, h1, h2, h3, h4⟩
theorem bSl {j : Nat} {k : Int → Option on_O} : on_Sl j k = k ((on_len.getD j 0 : Nat) : Int) := rfl
theorem bst_eq {σ : on_S} {c : Nat} {i v : Int} : on_st σ c i v c i = v := by simp [on_st]
theorem bst_nc {σ : on_S} {c c' : Nat} {i v : Int} (h : c' ≠ c) : on_st σ c i v c' = σ c' := by
  funext j; simp [on_st, h]
theorem bst_ni {σ : on_S} {c : Nat} {i v j : Int} (h : j ≠ i) : on_st σ c i v c j = σ c j := by simp [on_st, h]
theorem bst_if {σ : on_S} {c : Nat} {i v j : Int} : on_st σ c i v c j = if j = i then v else σ c j := by simp [on_st]
theorem bst_same {σ : on_S} {c : Nat} {i : Int} : on_st σ c i (σ c i) = σ := by
  funext c' j; unfold on_st; split
  · rename_i h; rw [h.1, h.2]
  · rfl
theorem bcp_nc {σ : on_S} {c0 c1 c' : Nat} {sp dp m : Int} (h : c' ≠ c1) : on_cp σ c0 sp c1 dp m c' = σ c' := by
  funext j; simp [on_cp, on_sr, h]
theorem bcp_if {σ : on_S} {c0 c1 : Nat} {sp dp m j : Int} : on_cp σ c0 sp c1 dp m c1 j = if dp ≤ j ∧ j < dp + m then σ c0 (sp + (j - dp)) else σ c1 j := by simp [on_cp, on_sr]
/-- a row of numbers made otherwise at one place -/
def bUp (w : Int → Int) (i v : Int) : Int → Int := fun j => if j = i then v else w j
theorem bst_up {σ : on_S} {c : Nat} {i v : Int} : on_st σ c i v c = bUp (σ c) i v := by
  funext j; simp [on_st, bUp]
theorem bUp_eq {w : Int → Int} {i v : Int} : bUp w i v i = v := by simp [bUp]
theorem bUp_ne {w : Int → Int} {i v j : Int} (h : j ≠ i) : bUp w i v j = w j := by simp [bUp, h]
/-! a street as a row of numbers -/
abbrev bW : Type := Int → Int
def bHouse (w : bW) (k : Int) : Int := w (8 + (2 * k))
def bStorey (w : bW) (k : Int) : Int := w ((8 + (2 * k)) + 1)
def bMan (w : bW) (m what : Int) : Int := w ((26 + (4 * m)) + what)
def bNet (w : bW) (n what : Int) : Int := w ((62 + (7 * n)) + what)
def bQ (w : bW) (a b : Int) : Int := w ((76 + (9 * a)) + b)
def bFd (w : bW) (a b : Int) : Int := w ((157 + (4 * a)) + b)
def bWt (w : bW) (j : Int) : Int := w (173 + (2 * j))
def bWin (w : bW) (j : Int) : Int := w ((173 + (2 * j)) + 1)
def bRoad (w : bW) (a b : Int) : Int := w ((191 + (4 * a)) + b)
def bJp (w : bW) (i k : Int) : Int := w ((207 + (8 * i)) + k)
def bForce (w : bW) (j : Int) : Int := bWt w j * bStorey w (bWin w j)
/-- the first of n numbers from k on of which p holds; -1: of none -/
def bFst (p : Int → Bool) : Nat → Int → Int
  | 0, _ => -1
  | r + 1, k => if p k then k else bFst p r (k + 1)
theorem bFst_spec (p : Int → Bool) : ∀ (r : Nat) (k : Int), (bFst p r k = -1 ∧ ∀ j, k ≤ j → j < k + (r : Int) → p j = false) ∨ (k ≤ bFst p r k ∧ bFst p r k < k + (r : Int) ∧ p (bFst p r k) = true ∧ ∀ j, k ≤ j → j < bFst p r k → p j = false) := by
  intro r
  induction r with
  | zero => intro k; exact Or.inl ⟨rfl, fun j h1 h2 => by omega⟩
  | succ r ih =>
    intro k
    rw [bFst]
    cases hp : p k with
    | true =>
      simp only [if_true]
      exact Or.inr ⟨by omega, by omega, hp, fun j h1 h2 => by omega⟩
    | false =>
      simp only [Bool.false_eq_true, if_false]
      rcases ih (k + 1) with ⟨h1, h2⟩ | ⟨h1, h2, h3, h4⟩
      · refine Or.inl ⟨h1, fun j j1 j2 => ?_⟩
        by_cases e : j = k
        · rw [e]; exact hp
        · exact h2 j (by omega) (by omega)
      · refine Or.inr ⟨by omega, by omega, h3, fun j j1 j2 => ?_⟩
        by_cases e : j = k
        · rw [e]; exact hp
        · exact h4 j (by omega) j2
def bNetAt (w : bW) (x : Int) : Int := bFst (fun n => decide (bNet w n 0 = x)) (w 4).toNat 0
def bManAt (w : bW) (n c : Int) : Int := bFst (fun m => decide (bMan w m 2 = n ∧ bMan w m 3 = c)) (w 3).toNat 0
/-! what holds of every street -/
def bOkC (w : bW) : Prop := (0 ≤ w 0 ∧ w 0 ≤ 4) ∧ (0 ≤ w 1 ∧ w 1 ≤ 6) ∧ (0 ≤ w 2 ∧ w 2 ≤ 9) ∧ (0 ≤ w 3 ∧ w 3 ≤ 9) ∧ (0 ≤ w 4 ∧ w 4 ≤ 2) ∧ (0 ≤ w 5 ∧ w 5 ≤ 9) ∧ (0 ≤ w 6 ∧ w 6 ≤ 60) ∧ (0 ≤ w 7 ∧ w 7 ≤ 1400)
def bOkW (w : bW) : Prop := ∀ k : Int, 0 ≤ k → k < w 2 → (0 ≤ bHouse w k ∧ bHouse w k < w 0) ∧ (1 ≤ bStorey w k ∧ bStorey w k ≤ 6)
def bOkM (w : bW) : Prop := ∀ m : Int, 0 ≤ m → m < w 3 → (0 ≤ bMan w m 0 ∧ bMan w m 0 < w 0) ∧ (1 ≤ bMan w m 1 ∧ bMan w m 1 ≤ 60) ∧ ((bMan w m 2 = -1 ∧ bMan w m 3 = -1) ∨ ((0 ≤ bMan w m 2 ∧ bMan w m 2 < w 4) ∧ (0 ≤ bMan w m 3 ∧ bMan w m 3 < 4)))
def bOkD (w : bW) : Prop := ∀ m m' : Int, 0 ≤ m → m < w 3 → 0 ≤ m' → m' < w 3 → bMan w m 2 ≠ -1 → bMan w m 2 = bMan w m' 2 → bMan w m 3 = bMan w m' 3 → m = m'
def bOkN (w : bW) : Prop := ∀ n : Int, 0 ≤ n → n < w 4 → (0 ≤ bNet w n 0 ∧ bNet w n 0 < w 2) ∧ (0 ≤ bNet w n 1 ∧ bNet w n 1 ≤ 9) ∧ (bNet w n 2 = 0 ∨ bNet w n 2 = 1) ∧ ∀ c : Int, 0 ≤ c → c < 4 → 0 ≤ bNet w n (3 + c) ∧ bNet w n (3 + c) ≤ 99
def bOkE (w : bW) : Prop := ∀ n n' : Int, 0 ≤ n → n < w 4 → 0 ≤ n' → n' < w 4 → bNet w n 0 = bNet w n' 0 → n = n'
def bOkQ (w : bW) : Prop := ∀ a b : Int, 0 ≤ a → a < 9 → 0 ≤ b → b < 9 → (0 ≤ bQ w a b ∧ bQ w a b ≤ 9) ∧ bQ w a b = bQ w b a
def bOkF (w : bW) : Prop := ∀ a b : Int, 0 ≤ a → a < 4 → 0 ≤ b → b < 4 → (bFd w a b = 0 ∨ bFd w a b = 1)
def bOkJ (w : bW) : Prop := ∀ j : Int, 0 ≤ j → j < w 5 → (1 ≤ bWt w j ∧ bWt w j ≤ 99) ∧ (0 ≤ bWin w j ∧ bWin w j < w 2)
def bOkR (w : bW) : Prop := ∀ a b : Int, 0 ≤ a → a < 4 → 0 ≤ b → b < 4 → (0 ≤ bRoad w a b ∧ bRoad w a b ≤ 99) ∧ bRoad w a b = bRoad w b a ∧ (w 0 ≤ a → bRoad w a b = 0)
def bOkP (w : bW) : Prop := ∀ i : Int, 0 ≤ i → i < w 6 → (0 ≤ bJp w i 0 ∧ bJp w i 0 < w 5) ∧ (bJp w i 1 = if bJp w i 2 = -1 then 1 else 0) ∧ (-1 ≤ bJp w i 2 ∧ bJp w i 2 < 4) ∧ (bJp w i 3 = bNetAt w (bWin w (bJp w i 0)) ∧ 0 ≤ bJp w i 3 ∧ bJp w i 3 < w 4) ∧ ∀ c : Int, 0 ≤ c → c < 4 → 0 ≤ bJp w i (4 + c) ∧ bJp w i (4 + c) ≤ 99
def bOk (w : bW) : Prop := bOkC w ∧ bOkW w ∧ bOkM w ∧ bOkD w ∧ bOkN w ∧ bOkE w ∧ bOkQ w ∧ bOkF w ∧ bOkJ w ∧ bOkR w ∧ bOkP w
section BOK
variable {w : bW}
theorem bOk.c (h : bOk w) : bOkC w := h.1
theorem bOk.wi (h : bOk w) : bOkW w := h.2.1
theorem bOk.m (h : bOk w) : bOkM w := h.2.2.1
theorem bOk.d (h : bOk w) : bOkD w := h.2.2.2.1
theorem bOk.n (h : bOk w) : bOkN w := h.2.2.2.2.1
theorem bOk.e (h : bOk w) : bOkE w := h.2.2.2.2.2.1
theorem bOk.q (h : bOk w) : bOkQ w := h.2.2.2.2.2.2.1
theorem bOk.f (h : bOk w) : bOkF w := h.2.2.2.2.2.2.2.1
theorem bOk.j (h : bOk w) : bOkJ w := h.2.2.2.2.2.2.2.2.1
theorem bOk.r (h : bOk w) : bOkR w := h.2.2.2.2.2.2.2.2.2.1
theorem bOk.p (h : bOk w) : bOkP w := h.2.2.2.2.2.2.2.2.2.2
/-- the net at a window: by its number, or none -/
theorem bNetAt_spec (h : bOkC w) (x : Int) : (bNetAt w x = -1 ∧ ∀ n, 0 ≤ n → n < w 4 → bNet w n 0 ≠ x) ∨ (0 ≤ bNetAt w x ∧ bNetAt w x < w 4 ∧ bNet w (bNetAt w x) 0 = x) := by
  have h4 := h.2.2.2.2.1
  have e : ((w 4).toNat : Int) = w 4 := by omega
  rcases bFst_spec (fun n => decide (bNet w n 0 = x)) (w 4).toNat 0 with ⟨a, b⟩ | ⟨a, b, c, -⟩
  · refine Or.inl ⟨a, fun n n0 n1 => ?_⟩
    have := b n n0 (by omega)
    simpa using this
  · refine Or.inr ⟨a, by unfold bNetAt; omega, ?_⟩
    simpa [bNetAt] using c
theorem bNetAt_of (hc : bOkC w) (he : bOkE w) {n x : Int} (h0 : 0 ≤ n) (h1 : n < w 4) (hx : bNet w n 0 = x) : bNetAt w x = n := by
  rcases bNetAt_spec hc x with ⟨a, b⟩ | ⟨a, b, c⟩
  · exact absurd hx (b n h0 h1)
  · exact he _ _ a b h0 h1 (c.trans hx.symm)
theorem bManAt_spec (h : bOkC w) (n c : Int) : (bManAt w n c = -1 ∧ ∀ m, 0 ≤ m → m < w 3 → ¬ (bMan w m 2 = n ∧ bMan w m 3 = c)) ∨ (0 ≤ bManAt w n c ∧ bManAt w n c < w 3 ∧ bMan w (bManAt w n c) 2 = n ∧ bMan w (bManAt w n c) 3 = c) := by
  have h4 := h.2.2.2.1
  rcases bFst_spec (fun m => decide (bMan w m 2 = n ∧ bMan w m 3 = c)) (w 3).toNat 0 with ⟨a, b⟩ | ⟨a, b, d, -⟩
  · refine Or.inl ⟨a, fun m n0 n1 => ?_⟩
    have := b m n0 (by omega)
    simpa using this
  · refine Or.inr ⟨a, by unfold bManAt; omega, ?_⟩
    simpa [bManAt] using d
theorem bManAt_of (hc : bOkC w) (hd : bOkD w) {n c m : Int} (hn : n ≠ -1) (h0 : 0 ≤ m) (h1 : m < w 3) (h2 : bMan w m 2 = n) (h3 : bMan w m 3 = c) : bManAt w n c = m := by
  rcases bManAt_spec hc n c with ⟨a, b⟩ | ⟨a, b, d, e⟩
  · exact absurd ⟨h2, h3⟩ (b m h0 h1)
  · exact hd _ _ a b h0 h1 (by rw [d]; exact hn) (d.trans h2.symm) (e.trans h3.symm)
theorem bManAt_none (hc : bOkC w) {n c : Int} (h : ∀ m, 0 ≤ m → m < w 3 → ¬ (bMan w m 2 = n ∧ bMan w m 3 = c)) : bManAt w n c = -1 := by
  rcases bManAt_spec hc n c with ⟨a, b⟩ | ⟨a, b, d, e⟩
  · exact a
  · exact absurd ⟨d, e⟩ (h _ a b)
end BOK
/-! the class's street at b tells the row w -/
def bRpC (b : Nat) (w : bW) (σ : on_S) : Prop := σ b 0 = w 0 ∧ σ b 1 = w 1 ∧ σ b 2 = w 7 ∧ σ b 3 = w 2 ∧ σ b 7 = w 5 ∧ σ (b + 8) 0 = w 3 ∧ σ (b + 14) 0 = w 4 ∧ σ (b + 20) 0 = w 6
def bRpW (b : Nat) (w : bW) (σ : on_S) : Prop := ∀ k : Int, 0 ≤ k → k < w 2 → σ (b + 1) k = bHouse w k ∧ σ (b + 2) k = bStorey w k ∧ σ (b + 3) k = bNetAt w k
def bRpJ (b : Nat) (w : bW) (σ : on_S) : Prop := ∀ j : Int, 0 ≤ j → j < w 5 → σ (b + 4) j = bWt w j ∧ σ (b + 5) j = bWin w j
def bRpF (b : Nat) (w : bW) (σ : on_S) : Prop := ∀ x y : Int, 0 ≤ x → x < 4 → 0 ≤ y → y < 4 → σ (b + 6) ((x * 4) + y) = bFd w x y ∧ σ (b + 7) ((x * 4) + y) = bRoad w x y
def bRpM (b : Nat) (w : bW) (σ : on_S) : Prop := ∀ m : Int, 0 ≤ m → m < w 3 → σ (b + 9) m = bMan w m 0 ∧ σ (b + 10) m = bMan w m 1 ∧ σ (b + 11) m = bMan w m 2 ∧ σ (b + 12) m = bMan w m 3
def bRpQ (b : Nat) (w : bW) (σ : on_S) : Prop := ∀ x y : Int, 0 ≤ x → x < 9 → 0 ≤ y → y < 9 → σ (b + 13) ((x * 9) + y) = bQ w x y
def bRpN (b : Nat) (w : bW) (σ : on_S) : Prop := ∀ n : Int, 0 ≤ n → n < w 4 → σ (b + 15) n = bNet w n 0 ∧ σ (b + 16) n = bNet w n 1 ∧ σ (b + 17) n = bNet w n 2 ∧ ∀ c : Int, 0 ≤ c → c < 4 → σ (b + 18) ((n * 4) + c) = bNet w n (3 + c)
/-- where nobody stands it says -1: of the nets that are told, and in the draft of all -/
def bRpH (b : Nat) (w : bW) (σ : on_S) : Prop := ∀ n c : Int, 0 ≤ n → (n < 2 ∧ (n < w 4 ∨ b = 27)) → 0 ≤ c → c < 4 → σ (b + 19) ((n * 4) + c) = bManAt w n c
def bRpP (b : Nat) (w : bW) (σ : on_S) : Prop := ∀ i : Int, 0 ≤ i → i < w 6 → σ (b + 21) i = bJp w i 0 ∧ σ (b + 22) i = bJp w i 2 ∧ ∀ c : Int, 0 ≤ c → c < 4 → σ (b + 23) ((i * 4) + c) = bJp w i (4 + c)
def bRp (b : Nat) (w : bW) (σ : on_S) : Prop := bRpC b w σ ∧ bRpW b w σ ∧ bRpJ b w σ ∧ bRpF b w σ ∧ bRpM b w σ ∧ bRpQ b w σ ∧ bRpN b w σ ∧ bRpH b w σ ∧ bRpP b w σ
section BRP
variable {b : Nat} {w : bW} {σ σ' : on_S}
theorem bRp.c (h : bRp b w σ) : bRpC b w σ := h.1
theorem bRp.wi (h : bRp b w σ) : bRpW b w σ := h.2.1
theorem bRp.j (h : bRp b w σ) : bRpJ b w σ := h.2.2.1
theorem bRp.f (h : bRp b w σ) : bRpF b w σ := h.2.2.2.1
theorem bRp.m (h : bRp b w σ) : bRpM b w σ := h.2.2.2.2.1
theorem bRp.q (h : bRp b w σ) : bRpQ b w σ := h.2.2.2.2.2.1
theorem bRp.n (h : bRp b w σ) : bRpN b w σ := h.2.2.2.2.2.2.1
theorem bRp.h (h : bRp b w σ) : bRpH b w σ := h.2.2.2.2.2.2.2.1
theorem bRp.p (h : bRp b w σ) : bRpP b w σ := h.2.2.2.2.2.2.2.2
/-- but for what the men have left, which is reckoned anew -/
theorem bRp.to (h : bRp b w σ) (hs : ∀ k : Nat, k < 24 → σ' (b + k) = σ (b + k)) : bRp b w σ' := by
  have h0 : σ' b = σ b := hs 0 (by decide)
  unfold bRp bRpC bRpW bRpJ bRpF bRpM bRpQ bRpN bRpH bRpP at *
  rw [h0, hs 1 (by decide), hs 2 (by decide), hs 3 (by decide), hs 4 (by decide), hs 5 (by decide), hs 6 (by decide), hs 7 (by decide), hs 8 (by decide), hs 9 (by decide), hs 10 (by decide), hs 11 (by decide), hs 12 (by decide), hs 13 (by decide), hs 14 (by decide), hs 15 (by decide), hs 16 (by decide), hs 17 (by decide), hs 18 (by decide), hs 19 (by decide), hs 20 (by decide), hs 21 (by decide), hs 22 (by decide), hs 23 (by decide)]
  exact h
end BRP
/-! what is reckoned anew at each call -/
def bScr : List Nat := [26, 55, 57, 58, 59, 60, 61, 62, 64, 65, 66, 68, 77, 82, 83, 84, 85, 86, 87, 88, 89, 90, 91, 92, 93, 94, 95, 99]
def bS (σ σ' : on_S) : Prop := (∀ c : Nat, c ∉ bScr → σ' c = σ c) ∧ σ' 77 5 = σ 77 5 ∧ σ' 77 12 = σ 77 12 ∧ σ' 77 13 = σ 77 13
theorem bS.rf (σ : on_S) : bS σ σ := ⟨fun _ _ => rfl, rfl, rfl, rfl⟩
theorem bS.tr {σ σ' σ'' : on_S} (h : bS σ σ') (g : bS σ' σ'') : bS σ σ'' := ⟨fun c hc => (g.1 c hc).trans (h.1 c hc), g.2.1.trans h.2.1, g.2.2.1.trans h.2.2.1, g.2.2.2.trans h.2.2.2⟩
theorem bS.st {σ : on_S} {c : Nat} {i v : Int} (h : c ∈ bScr) (h7 : c ≠ 77) : bS σ (on_st σ c i v) := ⟨fun c' hc => bst_nc (fun e => hc (e ▸ h)), by rw [bst_nc (Ne.symm h7)], by rw [bst_nc (Ne.symm h7)], by rw [bst_nc (Ne.symm h7)]⟩
theorem bS.st7 {σ : on_S} {i v : Int} (h5 : i ≠ 5) (h12 : i ≠ 12) (h13 : i ≠ 13) : bS σ (on_st σ 77 i v) := ⟨fun c' hc => bst_nc (fun e => hc (by rw [e]; decide)), bst_ni (Ne.symm h5), bst_ni (Ne.symm h12), bst_ni (Ne.symm h13)⟩
/-- the number of windows .. of the model is the class's: for code that reads the row at 78 -/
theorem bS.w {σ σ' : on_S} (h : bS σ σ') : σ' 78 = σ 78 := h.1 78 (by decide)
/-- comes to r, and to a world that is alike -/
def bK (x : Option on_O) (σ : on_S) (r : Int) : Prop := ∃ σ' : on_S, x = some (r, σ') ∧ bS σ σ'
theorem bK.of {x : Option on_O} {σ : on_S} {r : Int} (h : x = some (r, σ)) : bK x σ r := ⟨σ, h, bS.rf σ⟩
theorem bN1 : on_N = 99999 + 1 := rfl
