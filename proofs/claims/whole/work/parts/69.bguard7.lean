/-! B: the guard: the class looks through the sets of men -/
def bPrT (A B : List bQd) : List (bQd × bQd) := A.flatMap fun r => B.map fun s => (r, s)
theorem bPrT_mem {A B : List bQd} {p : bQd × bQd} : p ∈ bPrT A B ↔ p.1 ∈ A ∧ p.2 ∈ B := by
  unfold bPrT
  rw [List.mem_flatMap]
  constructor
  · rintro ⟨r, h1, h2⟩
    obtain ⟨s, h3, h4⟩ := List.mem_map.mp h2
    subst h4; exact ⟨h1, h3⟩
  · rintro ⟨h1, h2⟩
    exact ⟨p.1, h1, List.mem_map.mpr ⟨p.2, h2, rfl⟩⟩
theorem bPrT_cons {A B : List bQd} {r : bQd} {g : bQd × bQd → Bool} : (bPrT (r :: A) B).countP g = B.countP (fun s => g (r, s)) + (bPrT A B).countP g := by
  unfold bPrT; rw [List.flatMap_cons, List.countP_append, List.countP_map]; rfl
theorem bPrT_consR {A B : List bQd} {s : bQd} {g : bQd × bQd → Bool} : (bPrT A (s :: B)).countP g = A.countP (fun r => g (r, s)) + (bPrT A B).countP g := by
  induction A with
  | nil => rfl
  | cons r A ih => rw [bPrT_cons, bPrT_cons, ih, List.countP_cons, List.countP_cons]; omega
theorem bPrT_mulR {A B B' : List bQd} {e : Nat} {g : bQd × bQd → Bool} (h : ∀ r ∈ A, B.countP (fun s => g (r, s)) = e * B'.countP (fun s => g (r, s))) : (bPrT A B).countP g = e * (bPrT A B').countP g := by
  induction A with
  | nil => rfl
  | cons r A ih => rw [bPrT_cons, bPrT_cons, ih (fun x hx => h x (List.mem_cons_of_mem _ hx)), h r (List.mem_cons_self ..), Nat.mul_add]
theorem bPrT_mulL {A A' B : List bQd} {e : Nat} {g : bQd × bQd → Bool} (h : ∀ s ∈ B, A.countP (fun r => g (r, s)) = e * A'.countP (fun r => g (r, s))) : (bPrT A B).countP g = e * (bPrT A' B).countP g := by
  induction B with
  | nil =>
    have n : ∀ X : List bQd, (bPrT X []).countP g = 0 := fun X => by
      induction X with
      | nil => rfl
      | cons r X ih => rw [bPrT_cons, ih]; rfl
    rw [n, n]; rfl
  | cons s B ih => rw [bPrT_consR, bPrT_consR, ih (fun x hx => h x (List.mem_cons_of_mem _ hx)), h s (List.mem_cons_self ..), Nat.mul_add]
theorem bPrT_set {A B : List bQd} {S T : Nat} : (bPrT A B).countP (fun p => bMz p.1 == S && bMz p.2 == T) = A.countP (fun r => bMz r == S) * B.countP (fun r => bMz r == T) := by
  induction A with
  | nil => rw [List.countP_nil, Nat.zero_mul]; rfl
  | cons r A ih =>
    rw [bPrT_cons, ih, List.countP_cons]
    by_cases e : bMz r = S
    · rw [if_pos (beq_iff_eq.mpr e), Nat.add_mul, Nat.one_mul]
      simp only [e, beq_self_eq_true, Bool.true_and]; omega
    · have : B.countP (fun s => bMz (r, s).1 == S && bMz (r, s).2 == T) = 0 := List.countP_eq_zero.mpr fun s _ => by
        rw [beq_eq_false_iff_ne.mpr e, Bool.false_and]; exact Bool.false_ne_true
      rw [if_neg (by rw [beq_iff_eq]; exact e), this, Nat.add_zero, Nat.zero_add]
theorem bCountP_or {α : Type} {f g : α → Bool} : ∀ L : List α, (∀ x ∈ L, ¬ (f x = true ∧ g x = true)) → L.countP (fun x => f x || g x) = L.countP f + L.countP g := by
  intro L
  induction L with
  | nil => intro _; rfl
  | cons a L ih =>
    intro h
    have ha := h a (List.mem_cons_self ..)
    rw [List.countP_cons, List.countP_cons, List.countP_cons, ih fun x hx => h x (List.mem_cons_of_mem _ hx)]
    cases u : f a <;> cases v : g a
    · simp
    · simp; omega
    · simp; omega
    · exact absurd ⟨u, v⟩ ha
/-- how many pairs of some kind there are, and the first of those with fewest quarrels, in the class -/
def bWe (w : bW) (e : Nat) (A B : List bQd) (pr : Nat → Nat → Bool) (σ : on_S) : Prop := σ 59 6 = ((e * (bPrT A B).countP (fun p => pr (bMz p.1) (bMz p.2)) : Nat) : Int) ∧ ((σ 59 5 = -1 ∧ σ 59 7 = -1 ∧ σ 59 8 = -1 ∧ ∀ p ∈ bPrT A B, pr (bMz p.1) (bMz p.2) = false) ∨ ∃ p ∈ bPrT A B, pr (bMz p.1) (bMz p.2) = true ∧ σ 59 5 = bQu w p.1 + bQu w p.2 ∧ σ 59 7 = bCo p.1 ∧ σ 59 8 = bCo p.2 ∧ ∀ p' ∈ bPrT A B, pr (bMz p'.1) (bMz p'.2) = true → bLe3 (bQu w p.1 + bQu w p.2) (bCo p.1) (bCo p.2) (bQu w p'.1 + bQu w p'.2) (bCo p'.1) (bCo p'.2))
section O69
variable {σ : on_S} {w : bW} {e : Nat} {A B : List bQd}
theorem bWe_congr {pr pr' : Nat → Nat → Bool} (h : bWe w e A B pr σ) (hp : ∀ p ∈ bPrT A B, pr (bMz p.1) (bMz p.2) = pr' (bMz p.1) (bMz p.2)) : bWe w e A B pr' σ := by
  obtain ⟨h1, h2⟩ := h
  refine ⟨by rw [h1, List.countP_congr fun p hp' => by rw [hp p hp']], ?_⟩
  rcases h2 with ⟨a, b, c, d⟩ | ⟨p, p1, p2, p3, p4, p5, p6⟩
  · exact Or.inl ⟨a, b, c, fun p hp' => by rw [← hp p hp']; exact d p hp'⟩
  · exact Or.inr ⟨p, p1, by rw [← hp p p1]; exact p2, p3, p4, p5, fun p' h' hh => p6 p' h' (by rw [hp p' h']; exact hh)⟩
theorem c_pair (hk : bOk w) {e0 e1 : Nat} (hA : ∀ r ∈ A, bGd w r) (hB : ∀ r ∈ B, bGd w r) (G0 : bGat w e0 A σ 0) (G1 : bGat w e1 B σ 512) {S T : Nat} (hS : S < 512) (hT : T < 512) (c0 : A.countP (fun r => bMz r == S) ≠ 0) (c1 : B.countP (fun r => bMz r == T) ≠ 0) {pr : Nat → Nat → Bool} (hpr : pr S T = false) (hW : bWe w (e0 * e1) A B pr σ) : ∃ σ' : on_S, pf_X1_weighPair (S : Int) (512 + (T : Int)) (on_st σ 59 6 (σ 59 6 + σ 60 (S : Int) * σ 60 (512 + (T : Int)))) = some (0, σ') ∧ (∀ c, c ≠ 59 → σ' c = σ c) ∧ bWe w (e0 * e1) A B (fun a b => pr a b || (a == S && b == T)) σ' := by
  obtain ⟨z0, g0⟩ := G0 S hS
  obtain ⟨z1, g1⟩ := G1 T hT
  obtain ⟨r, r1, r2, r3, r4, r5⟩ := g0 c0
  obtain ⟨s, s1, s2, s3, s4, s5⟩ := g1 c1
  clear g0 g1
  rw [show (0 : Int) + (S : Int) = S by omega] at z0 r3 r4
  have qr := bQu_b hk (hA r r1)
  have qs := bQu_b hk (hB s s1)
  have cr := bCo_b hk (hA r r1)
  have cs := bCo_b hk (hB s s1)
  obtain ⟨h1, h2⟩ := hW
  have tot : σ 59 6 + σ 60 (S : Int) * σ 60 (512 + (T : Int)) = ((e0 * e1 * (bPrT A B).countP (fun p => pr (bMz p.1) (bMz p.2) || (bMz p.1 == S && bMz p.2 == T)) : Nat) : Int) := by
    rw [bCountP_or (f := fun p : bQd × bQd => pr (bMz p.1) (bMz p.2)) (g := fun p : bQd × bQd => bMz p.1 == S && bMz p.2 == T) _ (fun p _ t => by
      obtain ⟨t1, t2⟩ := t
      rw [Bool.and_eq_true, beq_iff_eq, beq_iff_eq] at t2
      rw [t2.1, t2.2, hpr] at t1; cases t1), bPrT_set, h1, z0, z1, Nat.mul_add, ← Int.natCast_mul, ← Int.natCast_add]
    congr 2
    rw [Nat.mul_mul_mul_comm]
  have cand : ∀ p' ∈ bPrT A B, (bMz p'.1 == S && bMz p'.2 == T) = true → bLe3 (bQu w r + bQu w s) (bCo r) (bCo s) (bQu w p'.1 + bQu w p'.2) (bCo p'.1) (bCo p'.2) := by
    intro p' hp' hh
    rw [Bool.and_eq_true, beq_iff_eq, beq_iff_eq] at hh
    have m := bPrT_mem.mp hp'
    have x := r5 p'.1 m.1 hh.1
    have y := s5 p'.2 m.2 hh.2
    unfold bLe3; omega
  generalize hV : σ 59 6 + σ 60 (S : Int) * σ 60 (512 + (T : Int)) = V at tot
  have rd : ∀ (c : Nat) (i : Int), c ≠ 59 → on_st σ 59 6 V c i = σ c i := fun c i hc => by rw [bst_nc hc]
  have r9 : ∀ i : Int, i ≠ 6 → on_st σ 59 6 V 59 i = σ 59 i := fun i hi => bst_ni hi
  have hit : (pr (bMz r) (bMz s) || (bMz r == S && bMz s == T)) = true := by
    rw [r2, s2, beq_self_eq_true, beq_self_eq_true, Bool.or_eq_true]; exact Or.inr rfl
  -- taken
  have take : (σ 59 5 = -1 ∨ bLe3 (bQu w r + bQu w s) (bCo r) (bCo s) (σ 59 5) (σ 59 7) (σ 59 8)) → ∃ σ' : on_S, pf_X1_weighPair_57 (S : Int) (512 + (T : Int)) (bQu w r + bQu w s) (on_st σ 59 6 V) = some (0, σ') ∧ (∀ c, c ≠ 59 → σ' c = σ c) ∧ bWe w (e0 * e1) A B (fun a b => pr a b || (a == S && b == T)) σ' := by
    intro hn
    refine ⟨on_st (on_st (on_st (on_st σ 59 6 V) 59 5 (bQu w r + bQu w s)) 59 7 (bCo r)) 59 8 (bCo s), ?_, fun c hc => by rw [bst_nc hc, bst_nc hc, bst_nc hc, bst_nc hc], ?_, Or.inr ⟨(r, s), bPrT_mem.mpr ⟨r1, s1⟩, hit, ?_, ?_, ?_, fun p' hp' hh => ?_⟩⟩
    · unfold pf_X1_weighPair_57
      rw [bPt, bRd (by omega) (by omega), bst_nc (by omega), rd _ _ (by omega), r4, bPt, bRd (by omega) (by omega), bst_nc (by omega), bst_nc (by omega), rd _ _ (by omega), s4, bPt]
    · rw [bst_ni (by omega), bst_ni (by omega), bst_ni (by omega), bst_eq]; exact tot
    · rw [bst_ni (by omega), bst_ni (by omega), bst_eq]
    · rw [bst_ni (by omega), bst_eq]
    · rw [bst_eq]
    · rw [Bool.or_eq_true] at hh
      rcases hh with hh | hh
      · rcases h2 with ⟨-, -, -, d⟩ | ⟨p, p1, p2, p3, p4, p5, p6⟩
        · rw [d p' hp'] at hh; cases hh
        · have m := bPrT_mem.mp p1
          have a := bQu_b hk (hA _ m.1)
          have b := bQu_b hk (hB _ m.2)
          have c := p6 p' hp' hh
          rw [p3, p4, p5] at hn
          unfold bLe3 at c hn ⊢
          simp only
          omega
      · exact cand p' hp' hh
  -- left
  have left' : σ 59 5 ≠ -1 → bLe3 (σ 59 5) (σ 59 7) (σ 59 8) (bQu w r + bQu w s) (bCo r) (bCo s) → bWe w (e0 * e1) A B (fun a b => pr a b || (a == S && b == T)) (on_st σ 59 6 V) := by
    intro hne hn
    refine ⟨by rw [bst_eq]; exact tot, ?_⟩
    rcases h2 with ⟨a, -⟩ | ⟨p, p1, p2, p3, p4, p5, p6⟩
    · exact absurd a hne
    · refine Or.inr ⟨p, p1, by rw [Bool.or_eq_true]; exact Or.inl p2, by rw [r9 5 (by omega)]; exact p3, by rw [r9 7 (by omega)]; exact p4, by rw [r9 8 (by omega)]; exact p5, fun p' hp' hh => ?_⟩
      rw [Bool.or_eq_true] at hh
      rcases hh with hh | hh
      · exact p6 p' hp' hh
      · have c := cand p' hp' hh
        rw [p3, p4, p5] at hn
        unfold bLe3 at c hn ⊢
        omega
  have b5 : (σ 59 5 = -1) ∨ ((0 ≤ σ 59 5 ∧ σ 59 5 ≤ 72) ∧ (-1 ≤ σ 59 7 ∧ σ 59 7 < 65536) ∧ (-1 ≤ σ 59 8 ∧ σ 59 8 < 65536)) := by
    rcases h2 with ⟨a, -⟩ | ⟨p, p1, -, p3, p4, p5, -⟩
    · exact Or.inl a
    · have m := bPrT_mem.mp p1
      have a := bQu_b hk (hA _ m.1)
      have b := bQu_b hk (hB _ m.2)
      have c := bCo_b hk (hA _ m.1)
      have d := bCo_b hk (hB _ m.2)
      rw [p3, p4, p5]; right; omega
  unfold pf_X1_weighPair
  rw [bRd (by omega) (by omega), bRd (by omega) (by omega), rd _ _ (by omega), rd _ _ (by omega), r3, s3, bGt, r9 5 (by omega)]
  by_cases u1 : σ 59 5 = -1
  · rw [bEqT (by omega) u1]
    exact take (Or.inl u1)
  · rw [bEqF (by omega) (by omega) u1, bGt, r9 5 (by omega)]
    by_cases u2 : bQu w r + bQu w s < σ 59 5
    · rw [bLtT (by omega) (by omega) u2]
      exact take (Or.inr (Or.inl u2))
    · rw [bLtF (by omega) (by omega) (by omega), bGt, r9 5 (by omega)]
      by_cases u3 : bQu w r + bQu w s = σ 59 5
      · rw [bEqT (by omega) u3, bRd (by omega) (by omega), bRd (by omega) (by omega), rd _ _ (by omega), rd _ _ (by omega), r4, s4]
        unfold pf_X1_comesFirst pf_X1_comesFirst_24 pf_X1_comesFirst_28
        rw [bGt, r9 7 (by omega)]
        by_cases u4 : bCo r < σ 59 7
        · rw [bLtT (by omega) (by omega) u4, bClS, bEqF (by omega) (by omega) (by omega)]
          exact take (Or.inr (Or.inr ⟨u3, Or.inl u4⟩))
        · rw [bLtF (by omega) (by omega) (by omega), bGt, r9 7 (by omega)]
          by_cases u5 : bCo r = σ 59 7
          · rw [bEqT (by omega) u5, bGt, r9 8 (by omega)]
            by_cases u6 : bCo s < σ 59 8
            · rw [bLtT (by omega) (by omega) u6, bClS, bEqF (by omega) (by omega) (by omega)]
              exact take (Or.inr (Or.inr ⟨u3, Or.inr ⟨u5, by omega⟩⟩))
            · rw [bLtF (by omega) (by omega) (by omega), bClS, bEqT (by omega) rfl]
              exact ⟨_, rfl, fun c hc => bst_nc hc, left' u1 (by unfold bLe3; omega)⟩
          · rw [bEqF (by omega) (by omega) u5, bClS, bEqT (by omega) rfl]
            exact ⟨_, rfl, fun c hc => bst_nc hc, left' u1 (by unfold bLe3; omega)⟩
      · rw [bEqF (by omega) (by omega) u3]
        exact ⟨_, rfl, fun c hc => bst_nc hc, left' u1 (by unfold bLe3; omega)⟩
theorem bGat_of {P : List bQd} {σ' : on_S} {a : Int} (h0 : σ' 60 = σ 60) (h1 : σ' 61 = σ 61) (h2 : σ' 62 = σ 62) (h : bGat w e P σ a) : bGat w e P σ' a := by
  unfold bGat at h ⊢
  rw [h0, h1, h2]; exact h
/-- all the sets of the rest, going down -/
theorem c_pairUp5 (hk : bOk w) {e0 e1 : Nat} (he0 : 0 < e0 ∧ e0 ≤ 8) (he1 : 0 < e1 ∧ e1 ≤ 8) (hA : ∀ r ∈ A, bGd w r) (hB : ∀ r ∈ B, bGd w r) (lA : A.length ≤ 3024) (lB : B.length ≤ 3024) {S R : Nat} (hS : S < 512) (hR : R < 512) (c0 : A.countP (fun r => bMz r == S) ≠ 0) {pr : Nat → Nat → Bool} (hpr : ∀ b, pr S b = false) : ∀ (nf x l : Nat) (σ : on_S), x < nf → x &&& R = x → l + x ≤ 511 → bGat w e0 A σ 0 → bGat w e1 B σ 512 → bWe w (e0 * e1) A B (fun a b => pr a b || (a == S && (b &&& R == b && decide (x < b)))) σ → ∃ σ' : on_S, pf_X1_pairUp_5 nf (S : Int) (R : Int) (x : Int) (l : Int) σ = some (0, σ') ∧ (∀ c, c ≠ 59 → σ' c = σ c) ∧ bWe w (e0 * e1) A B (fun a b => pr a b || (a == S && b &&& R == b)) σ' := by
  intro nf
  induction nf with
  | zero => intro x l σ h; omega
  | succ nf ih =>
    intro x l σ hnf hx hl G0 G1 hW
    have x5 : x < 512 := by
      have : x &&& R ≤ R := Nat.and_le_right
      omega
    -- behind x
    have T : ∀ τ : on_S, (∀ c, c ≠ 59 → τ c = σ c) → bWe w (e0 * e1) A B (fun a b => pr a b || (a == S && (b &&& R == b && decide (x ≤ b)))) τ → ∃ σ' : on_S, pf_X1_pairUp_62 (pf_X1_pairUp_5 nf) (S : Int) (R : Int) (x : Int) (l : Int) τ = some (0, σ') ∧ (∀ c, c ≠ 59 → σ' c = σ c) ∧ bWe w (e0 * e1) A B (fun a b => pr a b || (a == S && b &&& R == b)) σ' := by
      intro τ t1 t2
      unfold pf_X1_pairUp_62
      by_cases z : x = 0
      · refine ⟨τ, by rw [bEqT (by omega) (by omega)], t1, bWe_congr t2 fun p _ => ?_⟩
        rw [z]; simp
      · have xm : (x - 1) &&& R ≤ x - 1 := Nat.and_le_left
        rw [bEqF (by omega) (by omega) (by omega), show (x : Int) - 1 = ((x - 1 : Nat) : Int) by omega, bAndN (by omega), show (l : Int) + 1 = ((l + 1 : Nat) : Int) by omega]
        obtain ⟨σ', u1, u2, u3⟩ := ih ((x - 1) &&& R) (l + 1) τ (by omega) (by rw [Nat.and_assoc, Nat.and_self]) (by omega) (bGat_of (t1 60 (by omega)) (t1 61 (by omega)) (t1 62 (by omega)) G0) (bGat_of (t1 60 (by omega)) (t1 61 (by omega)) (t1 62 (by omega)) G1) (bWe_congr t2 fun p _ => by
          cases g : (bMz p.2 &&& R == bMz p.2)
          · simp
          · have g' := beq_iff_eq.mp g
            have : decide (x ≤ bMz p.2) = decide ((x - 1) &&& R < bMz p.2) := by
              by_cases h : x ≤ bMz p.2
              · rw [decide_eq_true h, decide_eq_true (by omega)]
              · have := bSubN x x (bMz p.2) R (Nat.le_refl _) hx g' (by omega)
                rw [decide_eq_false h, decide_eq_false (by omega)]
            rw [this])
        exact ⟨σ', u1, fun c hc => by rw [u2 c hc, t1 c hc], u3⟩
    have g1 := (G1 x x5).1
    have b1 : B.countP (fun r => bMz r == x) ≤ 3024 := Nat.le_trans (List.countP_le_length ..) lB
    have b1' : e1 * B.countP (fun r => bMz r == x) ≤ 8 * 3024 := Nat.mul_le_mul he1.2 b1
    rw [pf_X1_pairUp_5, bLtT (by omega) (by omega) (by omega), bRd (by omega) (by omega), g1]
    by_cases z : B.countP (fun r => bMz r == x) = 0
    · rw [z, Nat.mul_zero, bLeT (by omega) (by omega) (by omega)]
      refine T σ (fun _ _ => rfl) (bWe_congr hW fun p hp => ?_)
      have ne : bMz p.2 ≠ x := fun t => by
        have := List.countP_eq_zero.mp z p.2 (bPrT_mem.mp hp).2
        exact this (beq_iff_eq.mpr t)
      have : decide (x < bMz p.2) = decide (x ≤ bMz p.2) := by
        by_cases h : x ≤ bMz p.2
        · rw [decide_eq_true h, decide_eq_true (by omega)]
        · rw [decide_eq_false h, decide_eq_false (by omega)]
      rw [this]
    · have pz : 0 < e1 * B.countP (fun r => bMz r == x) := Nat.mul_pos he1.1 (by omega)
      obtain ⟨σ', u1, u2, u3⟩ := c_pair hk hA hB G0 G1 hS x5 c0 z (by rw [hpr]; simp) hW
      rw [bLeF (by omega) (by omega) (by omega), bGt, bRd (by omega) (by omega), bRd (by omega) (by omega), bPt, bCl u1]
      refine T σ' u2 (bWe_congr u3 fun p hp => ?_)
      by_cases ea : bMz p.1 = S
      · by_cases eb : bMz p.2 = x
        · rw [ea, eb]; simp [hx]
        · have : decide (x < bMz p.2) = decide (x ≤ bMz p.2) := by
            by_cases h : x ≤ bMz p.2
            · rw [decide_eq_true h, decide_eq_true (by omega)]
            · rw [decide_eq_false h, decide_eq_false (by omega)]
          rw [this, beq_eq_false_iff_ne.mpr eb]; simp
      · rw [beq_eq_false_iff_ne.mpr ea]; simp
end O69
