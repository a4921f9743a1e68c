/-! B: rows and rings -/
theorem bCf_mem {P : Int → Bool} {m : Int} : ∀ (r : Nat) (k x : Int), r = (m - k).toNat → (x ∈ bCf P m k ↔ (k ≤ x ∧ x < m) ∧ P x = true) := by
  intro r
  induction r with
  | zero =>
    intro k x h
    rw [bCf_no (by omega)]
    constructor
    · intro t; cases t
    · intro t; omega
  | succ r ih =>
    intro k x h
    rw [bCf_go (by omega)]
    by_cases e : P k = true
    · rw [if_pos e, List.mem_cons, ih (k + 1) x (by omega)]
      constructor
      · intro t
        rcases t with t | ⟨t, t'⟩
        · subst t; exact ⟨by omega, e⟩
        · exact ⟨by omega, t'⟩
      · intro t
        by_cases y : x = k
        · exact Or.inl y
        · exact Or.inr ⟨by omega, t.2⟩
    · rw [if_neg e, ih (k + 1) x (by omega)]
      constructor
      · intro t; exact ⟨by omega, t.2⟩
      · intro t
        refine ⟨?_, t.2⟩
        by_cases y : x = k
        · subst y; exact absurd t.2 e
        · omega
theorem bCf_mem' {P : Int → Bool} {m k x : Int} : x ∈ bCf P m k ↔ (k ≤ x ∧ x < m) ∧ P x = true := bCf_mem _ k x rfl
theorem bCf_pw {P : Int → Bool} {m : Int} : ∀ (r : Nat) (k : Int), r = (m - k).toNat → (bCf P m k).Pairwise (· < ·) := by
  intro r
  induction r with
  | zero => intro k h; rw [bCf_no (by omega)]; exact List.Pairwise.nil
  | succ r ih =>
    intro k h
    rw [bCf_go (by omega)]
    split
    · refine List.Pairwise.cons (fun x hx => ?_) (ih (k + 1) (by omega))
      have := (bCf_mem'.mp hx).1
      omega
    · exact ih (k + 1) (by omega)
theorem bCf_congr {P Q : Int → Bool} {m : Int} : ∀ (r : Nat) (k : Int), r = (m - k).toNat → (∀ x : Int, k ≤ x → x < m → P x = Q x) → bCf P m k = bCf Q m k := by
  intro r
  induction r with
  | zero => intro k h _; rw [bCf_no (by omega), bCf_no (by omega)]
  | succ r ih =>
    intro k h hx
    rw [bCf_go (P := P) (k := k) (by omega), bCf_go (P := Q) (k := k) (by omega), hx k (by omega) (by omega), ih (k + 1) (by omega) (fun x x0 x1 => hx x (by omega) x1)]
/-- a row of four that differ, of those that may stand -/
def bVr (ok : Int → Bool) (m : Int) (r : bQd) : Prop := ((0 ≤ r.1 ∧ r.1 < m) ∧ ok r.1 = true) ∧ ((0 ≤ r.2.1 ∧ r.2.1 < m) ∧ ok r.2.1 = true) ∧ ((0 ≤ r.2.2.1 ∧ r.2.2.1 < m) ∧ ok r.2.2.1 = true) ∧ ((0 ≤ r.2.2.2 ∧ r.2.2.2 < m) ∧ ok r.2.2.2 = true) ∧ r.2.1 ≠ r.1 ∧ r.2.2.1 ≠ r.1 ∧ r.2.2.1 ≠ r.2.1 ∧ r.2.2.2 ≠ r.1 ∧ r.2.2.2 ≠ r.2.1 ∧ r.2.2.2 ≠ r.2.2.1
theorem bL0_mem {ok : Int → Bool} {m : Int} {r : bQd} : r ∈ bL0 ok m 0 ↔ bVr ok m r := by
  obtain ⟨a, b, c, d⟩ := r
  unfold bL0 bL1 bL2 bL3 bVr
  simp only [List.mem_flatMap, List.mem_map, bCf_mem', Bool.and_eq_true, bne_iff_ne, ne_eq, Prod.mk.injEq]
  constructor
  · rintro ⟨a', ⟨⟨a1, a2⟩, b', ⟨⟨b1, b2, b3⟩, c', ⟨⟨c1, ⟨c2, c3⟩, c4⟩, d', ⟨⟨d1, ⟨⟨d2, d3⟩, d4⟩, d5⟩, e1, e2, e3, e4⟩⟩⟩⟩⟩
    subst e1; subst e2; subst e3; subst e4
    exact ⟨⟨a1, a2⟩, ⟨b1, b2⟩, ⟨c1, c2⟩, ⟨d1, d2⟩, b3, c3, c4, d3, d4, d5⟩
  · rintro ⟨⟨a1, a2⟩, ⟨b1, b2⟩, ⟨c1, c2⟩, ⟨d1, d2⟩, b3, c3, c4, d3, d4, d5⟩
    exact ⟨a, ⟨⟨a1, a2⟩, b, ⟨⟨b1, b2, b3⟩, c, ⟨⟨c1, ⟨c2, c3⟩, c4⟩, d, ⟨⟨d1, ⟨⟨d2, d3⟩, d4⟩, d5⟩, rfl, rfl, rfl, rfl⟩⟩⟩⟩⟩
/-- before, in the order of rows -/
def bLx (r s : bQd) : Prop := r.1 < s.1 ∨ (r.1 = s.1 ∧ (r.2.1 < s.2.1 ∨ (r.2.1 = s.2.1 ∧ (r.2.2.1 < s.2.2.1 ∨ (r.2.2.1 = s.2.2.1 ∧ r.2.2.2 < s.2.2.2)))))
theorem bL0_pw {ok : Int → Bool} {m : Int} : (bL0 ok m 0).Pairwise bLx := by
  unfold bL0
  rw [List.pairwise_flatMap]
  refine ⟨fun a _ => ?_, (bCf_pw _ 0 rfl).imp fun {a a'} h x hx y hy => ?_⟩
  · unfold bL1
    rw [List.pairwise_flatMap]
    refine ⟨fun b _ => ?_, (bCf_pw _ 0 rfl).imp fun {b b'} h x hx y hy => ?_⟩
    · unfold bL2
      rw [List.pairwise_flatMap]
      refine ⟨fun c _ => ?_, (bCf_pw _ 0 rfl).imp fun {c c'} h x hx y hy => ?_⟩
      · unfold bL3
        rw [List.pairwise_map]
        exact (bCf_pw _ 0 rfl).imp fun {d d'} h => Or.inr ⟨rfl, Or.inr ⟨rfl, Or.inr ⟨rfl, h⟩⟩⟩
      · unfold bL3 at hx hy
        obtain ⟨d, -, hx⟩ := List.mem_map.mp hx
        obtain ⟨d', -, hy⟩ := List.mem_map.mp hy
        subst hx; subst hy
        exact Or.inr ⟨rfl, Or.inr ⟨rfl, Or.inl h⟩⟩
    · unfold bL2 bL3 at hx hy
      simp only [List.mem_flatMap, List.mem_map] at hx hy
      obtain ⟨c, -, d, -, hx⟩ := hx
      obtain ⟨c', -, d', -, hy⟩ := hy
      subst hx; subst hy
      exact Or.inr ⟨rfl, Or.inl h⟩
  · unfold bL1 bL2 bL3 at hx hy
    simp only [List.mem_flatMap, List.mem_map] at hx hy
    obtain ⟨b, -, c, -, d, -, hx⟩ := hx
    obtain ⟨b', -, c', -, d', -, hy⟩ := hy
    subst hx; subst hy
    exact Or.inl h
/-- the first of the eight that are one ring -/
def bCan (r : bQd) : Bool := decide (r.1 < r.2.1) && decide (r.1 < r.2.2.1) && decide (r.1 < r.2.2.2) && decide (r.2.1 < r.2.2.2)
def bTurn (r : bQd) : bQd := (r.2.1, r.2.2.1, r.2.2.2, r.1)
def bFlip (r : bQd) : bQd := (r.1, r.2.2.2, r.2.2.1, r.2.1)
/-- a ring is worth the same however it is read -/
def bSy (f : bQd → Int) (ok : Int → Bool) (m : Int) : Prop := ∀ r, bVr ok m r → f (bTurn r) = f r ∧ f (bFlip r) = f r
theorem bVr_turn {ok : Int → Bool} {m : Int} {r : bQd} (h : bVr ok m r) : bVr ok m (bTurn r) := by
  obtain ⟨a, b, c, d⟩ := r
  obtain ⟨h1, h2, h3, h4, n1, n2, n3, n4, n5, n6⟩ := h
  exact ⟨h2, h3, h4, h1, n3, n5, n6, fun t => n1 t.symm, fun t => n2 t.symm, fun t => n4 t.symm⟩
theorem bVr_flip {ok : Int → Bool} {m : Int} {r : bQd} (h : bVr ok m r) : bVr ok m (bFlip r) := by
  obtain ⟨a, b, c, d⟩ := r
  obtain ⟨h1, h2, h3, h4, n1, n2, n3, n4, n5, n6⟩ := h
  exact ⟨h1, h4, h3, h2, n4, n2, fun t => n6 t.symm, n1, fun t => n5 t.symm, fun t => n3 t.symm⟩
/-- what is not the first of its ring has an earlier one of the same worth -/
theorem bEarly {f : bQd → Int} {ok : Int → Bool} {m : Int} (hf : bSy f ok m) {r : bQd} (h : bVr ok m r) (hc : bCan r = false) : ∃ t, bVr ok m t ∧ bLx t r ∧ f t = f r := by
  have h1 := bVr_turn h
  have h2 := bVr_turn h1
  have h3 := bVr_turn h2
  have e1 := (hf r h).1
  have e2 := (hf _ h1).1
  have e3 := (hf _ h2).1
  have ef := (hf r h).2
  by_cases c1 : r.2.1 < r.1
  · exact ⟨bTurn r, h1, Or.inl c1, e1⟩
  · by_cases c2 : r.2.2.1 < r.1
    · exact ⟨bTurn (bTurn r), h2, Or.inl c2, by rw [e2, e1]⟩
    · by_cases c3 : r.2.2.2 < r.1
      · exact ⟨bTurn (bTurn (bTurn r)), h3, Or.inl c3, by rw [e3, e2, e1]⟩
      · by_cases c4 : r.2.2.2 < r.2.1
        · exact ⟨bFlip r, bVr_flip h, Or.inr ⟨rfl, Or.inl c4⟩, ef⟩
        · exfalso
          obtain ⟨a, b, c, d⟩ := r
          obtain ⟨-, -, -, -, n1, n2, n3, n4, n5, n6⟩ := h
          simp only at c1 c2 c3 c4 n1 n2 n3 n4 n5 n6
          simp only [bCan, Bool.and_eq_false_iff, decide_eq_false_iff_not] at hc
          omega
theorem bLx_irr {r s : bQd} (h : bLx r s) : ¬ bLx s r ∧ r ≠ s := by
  unfold bLx at *
  refine ⟨by omega, fun t => ?_⟩
  subst t
  omega
theorem bRing {f : bQd → Int} {ok : Int → Bool} {m : Int} (hf : bSy f ok m) : ∀ (L P : List bQd) (b : Int) (q : bQd), bL0 ok m 0 = P ++ L → (∀ t ∈ P, f t ≤ b) → bBest f L b = bBest f (L.filter bCan) b ∧ bArg f L b q = bArg f (L.filter bCan) b q := by
  intro L
  induction L with
  | nil => intro P b q _ _; exact ⟨rfl, rfl⟩
  | cons r L ih =>
    intro P b q hA hP
    have pw : (P ++ r :: L).Pairwise bLx := hA ▸ bL0_pw
    have hr : bVr ok m r := bL0_mem.mp (by rw [hA]; simp)
    cases hc : bCan r with
    | true =>
      rw [List.filter_cons, if_pos hc, bBest, bArg, bBest, bArg]
      refine ih (P ++ [r]) _ _ (by rw [hA]; simp) (fun t ht => ?_)
      rcases List.mem_append.mp ht with ht | ht
      · have := hP t ht; omega
      · rw [List.mem_singleton.mp ht]; omega
    | false =>
      rw [List.filter_cons, if_neg (by rw [hc]; decide)]
      obtain ⟨t, t1, t2, t3⟩ := bEarly hf hr hc
      have tm : t ∈ P := by
        have := bL0_mem.mpr t1
        rw [hA] at this
        rcases List.mem_append.mp this with u | u
        · exact u
        · exfalso
          rcases List.mem_cons.mp u with u | u
          · exact (bLx_irr t2).2 u
          · have := (List.pairwise_append.mp pw).2.1
            exact (bLx_irr t2).1 ((List.pairwise_cons.mp this).1 t u)
      have le : f r ≤ b := by have := hP t tm; omega
      rw [bBest, bArg, if_pos le, show max b (f r) = b by omega]
      refine ih (P ++ [r]) _ _ (by rw [hA]; simp) (fun t ht => ?_)
      rcases List.mem_append.mp ht with ht | ht
      · exact hP t ht
      · rw [List.mem_singleton.mp ht]; exact le
/-- a row of the table, as four men -/
def bDec (v : Nat) : bQd := (((v / 4096) % 16 : Nat), ((v / 256) % 16 : Nat), ((v / 16) % 16 : Nat), (v % 16 : Nat))
def bPre (m : Int) (r : bQd) : Bool := decide (r.2.2.1 < m) && decide (r.2.2.2 < m)
def bTabl (m : Int) : List bQd := (on_rowsT.map bDec).filter (bPre m)
set_option maxRecDepth 100000 in
theorem bTabl9 : (bL0 (fun _ => true) 9 0).filter bCan = bTabl 9 := by decide +kernel
set_option maxRecDepth 100000 in
theorem bTabl8 : (bL0 (fun _ => true) 8 0).filter bCan = bTabl 8 := by decide +kernel
set_option maxRecDepth 100000 in
theorem bTabl7 : (bL0 (fun _ => true) 7 0).filter bCan = bTabl 7 := by decide +kernel
set_option maxRecDepth 100000 in
theorem bTabl6 : (bL0 (fun _ => true) 6 0).filter bCan = bTabl 6 := by decide +kernel
set_option maxRecDepth 100000 in
theorem bTabl5 : (bL0 (fun _ => true) 5 0).filter bCan = bTabl 5 := by decide +kernel
set_option maxRecDepth 100000 in
theorem bTabl4 : (bL0 (fun _ => true) 4 0).filter bCan = bTabl 4 := by decide +kernel
theorem bTabl_all {m : Int} (h4 : 4 ≤ m) (h9 : m ≤ 9) : (bL0 (fun _ => true) m 0).filter bCan = bTabl m := by
  have c : m = 4 ∨ m = 5 ∨ m = 6 ∨ m = 7 ∨ m = 8 ∨ m = 9 := by omega
  rcases c with c | c | c | c | c | c <;> subst c
  · exact bTabl4
  · exact bTabl5
  · exact bTabl6
  · exact bTabl7
  · exact bTabl8
  · exact bTabl9
theorem bL0_congr {ok ok' : Int → Bool} {m : Int} (h : ∀ x : Int, 0 ≤ x → x < m → ok x = ok' x) : bL0 ok m 0 = bL0 ok' m 0 := by
  unfold bL0 bL1 bL2 bL3
  rw [bCf_congr _ 0 rfl (fun x x0 x1 => h x x0 x1)]
  congr 1; funext a
  rw [bCf_congr (P := fun d => ok d && (d != a)) (Q := fun d => ok' d && (d != a)) _ 0 rfl (fun x x0 x1 => by rw [h x x0 x1])]
  congr 1; funext b
  rw [bCf_congr (P := fun d => ok d && (d != a) && (d != b)) (Q := fun d => ok' d && (d != a) && (d != b)) _ 0 rfl (fun x x0 x1 => by rw [h x x0 x1])]
  congr 1; funext c
  rw [bCf_congr (P := fun d => ok d && (d != a) && (d != b) && (d != c)) (Q := fun d => ok' d && (d != a) && (d != b) && (d != c)) _ 0 rfl (fun x x0 x1 => by rw [h x x0 x1])]
