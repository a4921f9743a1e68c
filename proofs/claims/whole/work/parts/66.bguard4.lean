/-! B: the guard: sets of men as numbers, rows as numbers in their order -/
theorem bAndN {a b : Nat} (ha : a < 2147483648) : on_and (a : Int) (b : Int) = ((a &&& b : Nat) : Int) := by
  have e : on_i (a : Int) &&& on_i (b : Int) = on_i ((a &&& b : Nat) : Int) := by
    apply Int32.toBitVec_inj.mp
    unfold on_i
    rw [Int32.toBitVec_and, Int32.toBitVec_ofInt, Int32.toBitVec_ofInt, Int32.toBitVec_ofInt, BitVec.ofInt_natCast, BitVec.ofInt_natCast, BitVec.ofInt_natCast, BitVec.ofNat_and]
  unfold on_and
  have : a &&& b ≤ a := Nat.and_le_left
  rw [e, on_it (by omega)]
/-- the subsets of a set, going down -/
theorem bSubN : ∀ (n x y R : Nat), x ≤ n → x &&& R = x → y &&& R = y → y < x → y ≤ (x - 1) &&& R := by
  intro n
  induction n with
  | zero => intro x y R h _ _ h'; omega
  | succ n ih =>
    intro x y R h hx hy hl
    have x2 : x / 2 &&& R / 2 = x / 2 := by rw [← Nat.and_div_two, hx]
    have y2 : y / 2 &&& R / 2 = y / 2 := by rw [← Nat.and_div_two, hy]
    have d : ((x - 1) &&& R) / 2 = (x - 1) / 2 &&& R / 2 := Nat.and_div_two
    have xm : (x &&& R) % 2 = 1 ↔ x % 2 = 1 ∧ R % 2 = 1 := Nat.and_mod_two_eq_one
    have ym : (y &&& R) % 2 = 1 ↔ y % 2 = 1 ∧ R % 2 = 1 := Nat.and_mod_two_eq_one
    have dm : ((x - 1) &&& R) % 2 = 1 ↔ (x - 1) % 2 = 1 ∧ R % 2 = 1 := Nat.and_mod_two_eq_one
    rw [hx] at xm
    rw [hy] at ym
    by_cases o : x % 2 = 1
    · rw [show (x - 1) / 2 = x / 2 by omega, x2] at d
      omega
    · have i := ih (x / 2) (y / 2) (R / 2) (by omega) x2 y2 (by omega)
      rw [show (x - 1) / 2 = x / 2 - 1 by omega] at d
      omega
theorem bXorN {F S y : Nat} (hy : y &&& F = y) : y &&& (F ^^^ S) = y ↔ y &&& S = 0 := by
  constructor
  · intro h
    apply Nat.eq_of_testBit_eq
    intro i
    have e := congrArg (fun v => Nat.testBit v i) h
    simp only [Nat.testBit_and, Nat.testBit_xor, Nat.zero_testBit] at e ⊢
    have f := congrArg (fun v => Nat.testBit v i) hy
    simp only [Nat.testBit_and] at f
    revert e f
    cases y.testBit i <;> cases F.testBit i <;> cases S.testBit i <;> simp
  · intro h
    apply Nat.eq_of_testBit_eq
    intro i
    have e := congrArg (fun v => Nat.testBit v i) h
    simp only [Nat.testBit_and, Nat.testBit_xor, Nat.zero_testBit] at e ⊢
    have f := congrArg (fun v => Nat.testBit v i) hy
    simp only [Nat.testBit_and] at f
    revert e f
    cases y.testBit i <;> cases F.testBit i <;> cases S.testBit i <;> simp
/-- the men of a row, as a set -/
def bMz (r : bQd) : Nat := if r.1 < 0 then 0 else 1 <<< r.1.toNat ||| 1 <<< r.2.1.toNat ||| 1 <<< r.2.2.1.toNat ||| 1 <<< r.2.2.2.toNat
/-- a row as one number, rising with the rows -/
def bCo (r : bQd) : Int := if r.1 < 0 then -1 else r.1 * 4096 + r.2.1 * 256 + r.2.2.1 * 16 + r.2.2.2
/-- the quarrels round a row; none where nobody stands -/
def bQu (w : bW) (r : bQd) : Int := bQs w (bQp r)
def bE4 : bQd := (-1, -1, -1, -1)
def bGd (w : bW) (r : bQd) : Prop := bVr (fun _ => true) (w 3) r ∨ r = bE4
def bMzT (a b c d : Nat) : Bool := decide (bMs4 ((a : Int), (b : Int), (c : Int), (d : Int)) = (bMz ((a : Int), (b : Int), (c : Int), (d : Int)) : Int)) && decide (bMk (bQp ((a : Int), (b : Int), (c : Int), (d : Int))) = (bMz ((a : Int), (b : Int), (c : Int), (d : Int)) : Int))
def bMzA (a : Nat) : Bool := (List.range 9).all fun b => (List.range 9).all fun c => (List.range 9).all fun d => bMzT a b c d
theorem bMz_all : ∀ a : Nat, a < 9 → bMzA a = true := by decide +kernel
section O66
variable {σ : on_S} {w : bW}
theorem bMz_eq {m : Int} (h9 : m ≤ 9) {r : bQd} (h : bVr (fun _ => true) m r) : bMs4 r = (bMz r : Int) ∧ bMk (bQp r) = (bMz r : Int) := by
  obtain ⟨a, b, c, d⟩ := r
  obtain ⟨⟨h1, -⟩, ⟨h2, -⟩, ⟨h3, -⟩, ⟨h4, -⟩, -⟩ := h
  simp only at h1 h2 h3 h4
  have t := bMz_all a.toNat (by omega)
  unfold bMzA at t
  have t1 := List.all_eq_true.mp t b.toNat (List.mem_range.mpr (by omega))
  have t2 := List.all_eq_true.mp t1 c.toNat (List.mem_range.mpr (by omega))
  have t3 := List.all_eq_true.mp t2 d.toNat (List.mem_range.mpr (by omega))
  unfold bMzT at t3
  rw [show (a.toNat : Int) = a by omega, show (b.toNat : Int) = b by omega, show (c.toNat : Int) = c by omega, show (d.toNat : Int) = d by omega, Bool.and_eq_true] at t3
  exact ⟨of_decide_eq_true t3.1, of_decide_eq_true t3.2⟩
theorem bMz_lt {m : Int} {r : bQd} (h : bVr (fun _ => true) m r) : bMz r < 2 ^ m.toNat := by
  obtain ⟨⟨h1, -⟩, ⟨h2, -⟩, ⟨h3, -⟩, ⟨h4, -⟩, -⟩ := h
  have p : ∀ x : Int, 0 ≤ x → x < m → 1 <<< x.toNat < 2 ^ m.toNat := fun x x0 x1 => by
    rw [Nat.one_shiftLeft]; exact Nat.pow_lt_pow_right (by omega) (by omega)
  unfold bMz
  rw [if_neg (by omega)]
  exact Nat.or_lt_two_pow (Nat.or_lt_two_pow (Nat.or_lt_two_pow (p _ h1.1 h1.2) (p _ h2.1 h2.2)) (p _ h3.1 h3.2)) (p _ h4.1 h4.2)
theorem bMz_sy {ok : Int → Bool} {m : Int} : bSy (fun r => (bMz r : Int)) ok m := by
  intro r h
  obtain ⟨⟨h1, -⟩, ⟨h2, -⟩, ⟨h3, -⟩, ⟨h4, -⟩, -⟩ := h
  obtain ⟨a, b, c, d⟩ := r
  simp only at h1 h2 h3 h4
  refine ⟨?_, ?_⟩
  · show ((bMz (b, c, d, a) : Nat) : Int) = (bMz (a, b, c, d) : Nat)
    unfold bMz
    rw [if_neg (show ¬ b < 0 by omega), if_neg (show ¬ a < 0 by omega)]
    congr 1; simp only; ac_rfl
  · show ((bMz (a, d, c, b) : Nat) : Int) = (bMz (a, b, c, d) : Nat)
    unfold bMz
    rw [if_neg (show ¬ a < 0 by omega), if_neg (show ¬ a < 0 by omega)]
    congr 1; simp only; ac_rfl
theorem bQu_qr (hk : bOk w) {r : bQd} (h : bVr (fun _ => true) (w 3) r) : bQu w r = bQr w r := by
  obtain ⟨a, b, c, d⟩ := r
  obtain ⟨⟨h1, -⟩, ⟨h2, -⟩, ⟨h3, -⟩, ⟨h4, -⟩, -⟩ := h
  simp only at h1 h2 h3 h4
  unfold bQu bQs bPq bQr
  rw [show bQp (a, b, c, d) 0 = a from rfl, show bQp (a, b, c, d) 1 = b from rfl, show bQp (a, b, c, d) 2 = c from rfl, show bQp (a, b, c, d) 3 = d from rfl, if_neg (by omega), if_neg (by omega), if_neg (by omega), if_neg (by omega)]
theorem bQu_sy (hk : bOk w) : bSy (bQu w) (fun _ => true) (w 3) := by
  intro r h
  have q := hk.q
  have m9 := hk.c.2.2.2.1.2
  rw [bQu_qr hk h, bQu_qr hk (bVr_turn h), bQu_qr hk (bVr_flip h)]
  obtain ⟨a, b, c, d⟩ := r
  obtain ⟨⟨h1, -⟩, ⟨h2, -⟩, ⟨h3, -⟩, ⟨h4, -⟩, -⟩ := h
  simp only at h1 h2 h3 h4
  have e1 := (q a b (by omega) (by omega) (by omega) (by omega)).2
  have e2 := (q b c (by omega) (by omega) (by omega) (by omega)).2
  have e3 := (q c d (by omega) (by omega) (by omega) (by omega)).2
  have e4 := (q d a (by omega) (by omega) (by omega) (by omega)).2
  refine ⟨?_, ?_⟩
  · show bQ w b c + bQ w c d + bQ w d a + bQ w a b = bQ w a b + bQ w b c + bQ w c d + bQ w d a
    omega
  · show bQ w a d + bQ w d c + bQ w c b + bQ w b a = bQ w a b + bQ w b c + bQ w c d + bQ w d a
    omega
theorem bGd_po (hk : bOk w) {r : bQd} (h : bGd w r) : bPo w (bQp r) := by
  intro c c0 c4
  have d : c = 0 ∨ c = 1 ∨ c = 2 ∨ c = 3 := by omega
  rcases h with h | h
  · obtain ⟨⟨h1, -⟩, ⟨h2, -⟩, ⟨h3, -⟩, ⟨h4, -⟩, -⟩ := h
    rcases d with d | d | d | d <;> subst d
    · exact Or.inr h1
    · exact Or.inr h2
    · exact Or.inr h3
    · exact Or.inr h4
  · subst h
    rcases d with d | d | d | d <;> subst d <;> exact Or.inl rfl
theorem bQu_b (hk : bOk w) {r : bQd} (h : bGd w r) : 0 ≤ bQu w r ∧ bQu w r ≤ 36 := bQs_b hk (bGd_po hk h)
theorem bGd_me (hk : bOk w) {r : bQd} (h : bGd w r) : bMk (bQp r) = (bMz r : Int) ∧ bMz r < 512 := by
  have m9 := hk.c.2.2.2.1
  rcases h with h | h
  · refine ⟨(bMz_eq m9.2 h).2, Nat.lt_of_lt_of_le (bMz_lt h) ?_⟩
    exact Nat.pow_le_pow_right (n := 2) (by omega) (show (w 3).toNat ≤ 9 by omega)
  · subst h; exact ⟨by decide, by decide⟩
theorem bCo_b (hk : bOk w) {r : bQd} (h : bGd w r) : -1 ≤ bCo r ∧ bCo r < 65536 := by
  have m9 := hk.c.2.2.2.1
  unfold bCo
  rcases h with h | h
  · obtain ⟨⟨h1, -⟩, ⟨h2, -⟩, ⟨h3, -⟩, ⟨h4, -⟩, -⟩ := h
    rw [if_neg (by omega)]; omega
  · subst h; decide
theorem bCo_lx {m : Int} (h9 : m ≤ 9) {r s : bQd} (hr : bVr (fun _ => true) m r) (hs : bVr (fun _ => true) m s) (h : bLx r s) : bCo r < bCo s := by
  obtain ⟨⟨h1, -⟩, ⟨h2, -⟩, ⟨h3, -⟩, ⟨h4, -⟩, -⟩ := hr
  obtain ⟨⟨k1, -⟩, ⟨k2, -⟩, ⟨k3, -⟩, ⟨k4, -⟩, -⟩ := hs
  unfold bCo
  rw [if_neg (by omega), if_neg (by omega)]
  unfold bLx at h
  omega
theorem bCo_can {m : Int} (h9 : m ≤ 9) {r : bQd} (h : bVr (fun _ => true) m r) : bCo (bCnq r) ≤ bCo r := by
  obtain ⟨a, b, c, d⟩ := r
  obtain ⟨⟨h1, -⟩, ⟨h2, -⟩, ⟨h3, -⟩, ⟨h4, -⟩, n1, n2, n3, n4, n5, n6⟩ := h
  simp only at h1 h2 h3 h4 n1 n2 n3 n4 n5 n6
  unfold bCnq bCan1 bCo
  simp only
  rw [if_neg (show ¬ a < 0 by omega)]
  split
  · split
    · simp only; rw [if_neg (by omega)]; omega
    · simp only; rw [if_neg (by omega)]; omega
  · split
    · split
      · simp only; rw [if_neg (by omega)]; omega
      · simp only; rw [if_neg (by omega)]; omega
    · split
      · split
        · simp only; rw [if_neg (by omega)]; omega
        · simp only; rw [if_neg (by omega)]; omega
      · split
        · simp only; rw [if_neg (by omega)]; omega
        · simp only; rw [if_neg (by omega)]; omega
theorem bGr_gd {k : Int} {r : bQd} (h : r ∈ bGr w k) : bGd w r := by
  unfold bGr at h
  split at h
  · exact Or.inl (bL0_mem.mp (List.mem_filter.mp h).1)
  · exact Or.inr (List.mem_singleton.mp h)
theorem bGr_len (hk : bOk w) (k : Int) : (bGr w k).length ≤ 3024 := by
  have m9 := hk.c.2.2.2.1
  unfold bGr
  split
  · exact Nat.le_trans (List.length_filter_le ..) (bLen_row m9.1 m9.2)
  · exact show 1 ≤ 3024 by omega
theorem bGr_pw (hk : bOk w) (k : Int) : (bGr w k).Pairwise (fun r s => bCo r < bCo s) := by
  have m9 := hk.c.2.2.2.1
  unfold bGr
  split
  · refine List.Pairwise.filter _ ?_
    refine (bL0_pw (ok := fun _ => true) (m := w 3)).imp_of_mem fun {a b} ha hb h => bCo_lx m9.2 (bL0_mem.mp ha) (bL0_mem.mp hb) h
  · exact List.pairwise_singleton ..
/-- the rows of the table that a net may stand with -/
def bTG (w : bW) (k : Int) : List bQd := if k < w 4 ∧ bNeed w k ≠ 0 then (bTabl (w 3)).filter (fun r => decide (bNeed w k ≤ bCv w k (bNet w k 0) r)) else [bE4]
/-- how many rows each of them stands for -/
def bEe (w : bW) (k : Int) : Nat := if k < w 4 ∧ bNeed w k ≠ 0 then 8 else 1
theorem bTG_in (hk : bOk w) {k : Int} (k0 : 0 ≤ k) {t : bQd} (h : t ∈ bTG w k) : t ∈ bGr w k := by
  have m9 := hk.c.2.2.2.1
  unfold bTG at h
  unfold bGr
  by_cases g : k < w 4 ∧ bNeed w k ≠ 0
  · rw [if_pos g] at h ⊢
    obtain ⟨h1, h2⟩ := List.mem_filter.mp h
    have v := ((bTabl_mem m9.1 m9.2).mp h1).1
    refine List.mem_filter.mpr ⟨bL0_mem.mpr v, ?_⟩
    rw [bVal_cv hk k0 g.1 v]; exact h2
  · rw [if_neg g] at h ⊢; exact h
theorem bTG_of (hk : bOk w) {k : Int} (k0 : 0 ≤ k) {r : bQd} (h : r ∈ bGr w k) : ∃ t ∈ bTG w k, bMz t = bMz r ∧ bQu w t = bQu w r ∧ bCo t ≤ bCo r := by
  have m9 := hk.c.2.2.2.1
  unfold bGr at h
  unfold bTG
  by_cases g : k < w 4 ∧ bNeed w k ≠ 0
  · rw [if_pos g] at h ⊢
    obtain ⟨h1, h2⟩ := List.mem_filter.mp h
    have v := bL0_mem.mp h1
    rw [bVal_cv hk k0 g.1 v] at h2
    obtain ⟨c1, c2, c3⟩ := bCan1_in v
    have e1 : (bMz r : Int) = bMz (bCnq r) := bOrb_f (f := fun r => (bMz r : Int)) bMz_sy c3 r c2
    have e2 := bOrb_f (bQu_sy hk) c3 r c2
    have e3 := bOrb_f (bCv_sy hk (n := k) (x := bNet w k 0)) c3 r c2
    refine ⟨bCnq r, List.mem_filter.mpr ⟨(bTabl_mem m9.1 m9.2).mpr ⟨c3, c1⟩, ?_⟩, by omega, e2.symm, bCo_can m9.2 v⟩
    rw [← e3]; exact h2
  · rw [if_neg g] at h ⊢
    exact ⟨r, h, rfl, rfl, Int.le_refl _⟩
theorem bTG_count (hk : bOk w) {k : Int} (k0 : 0 ≤ k) (g : Nat → Bool) : (bGr w k).countP (fun r => g (bMz r)) = bEe w k * (bTG w k).countP fun r => g (bMz r) := by
  have m9 := hk.c.2.2.2.1
  unfold bGr bTG bEe
  by_cases c : k < w 4 ∧ bNeed w k ≠ 0
  · rw [if_pos c, if_pos c, if_pos c, List.countP_filter, List.countP_filter]
    have e : (bL0 (fun _ => true) (w 3) 0).countP (fun a => g (bMz a) && decide (bNeed w k ≤ bVal w k (bNet w k 0) (bNet w k 2) a)) = (bL0 (fun _ => true) (w 3) 0).countP (fun a => g (bMz a) && decide (bNeed w k ≤ bCv w k (bNet w k 0) a)) := by
      refine List.countP_congr fun r hr => ?_
      rw [bVal_cv hk k0 c.1 (bL0_mem.mp hr)]
    rw [e, bCount8 (fun r h => ?_), bTabl_any m9.1 m9.2]
    have s := bCv_sy hk (n := k) (x := bNet w k 0) r h
    have t := bMz_sy r h
    simp only at t
    rw [s.1, s.2, show bMz (bTurn r) = bMz r by omega, show bMz (bFlip r) = bMz r by omega]
    exact ⟨rfl, rfl⟩
  · rw [if_neg c, if_neg c, if_neg c, Nat.one_mul]; rfl
end O66
