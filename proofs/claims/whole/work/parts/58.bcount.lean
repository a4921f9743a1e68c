/-! B: each ring is eight rows -/
def bOrb (r : bQd) : List bQd := [r, bTurn r, bTurn (bTurn r), bTurn (bTurn (bTurn r)), bFlip r, bTurn (bFlip r), bTurn (bTurn (bFlip r)), bTurn (bTurn (bTurn (bFlip r)))]
/-- the first of the ring -/
def bCan1 (a b c d : Int) : bQd := if a < b ∧ a < c ∧ a < d then (if b < d then (a, b, c, d) else (a, d, c, b)) else if b < a ∧ b < c ∧ b < d then (if c < a then (b, c, d, a) else (b, a, d, c)) else if c < a ∧ c < b ∧ c < d then (if d < b then (c, d, a, b) else (c, b, a, d)) else (if a < c then (d, a, b, c) else (d, c, b, a))
def bCnq (r : bQd) : bQd := bCan1 r.1 r.2.1 r.2.2.1 r.2.2.2
theorem bCan1_orb {a b c d : Int} (h1 : a < b) (h2 : a < c) (h3 : a < d) (h4 : b < d) (hn : b ≠ c ∧ c ≠ d) : ∀ x ∈ bOrb (a, b, c, d), bCnq x = (a, b, c, d) := by
  intro x hx
  have e : x = (a, b, c, d) ∨ x = (b, c, d, a) ∨ x = (c, d, a, b) ∨ x = (d, a, b, c) ∨ x = (a, d, c, b) ∨ x = (d, c, b, a) ∨ x = (c, b, a, d) ∨ x = (b, a, d, c) := by
    simpa [bOrb, bTurn, bFlip] using hx
  rcases e with e | e | e | e | e | e | e | e <;> subst e
  · show bCan1 a b c d = _
    unfold bCan1; rw [if_pos (by omega), if_pos (by omega)]
  · show bCan1 b c d a = _
    unfold bCan1; rw [if_neg (by omega), if_neg (by omega), if_neg (by omega), if_pos (by omega)]
  · show bCan1 c d a b = _
    unfold bCan1; rw [if_neg (by omega), if_neg (by omega), if_pos (by omega), if_pos (by omega)]
  · show bCan1 d a b c = _
    unfold bCan1; rw [if_neg (by omega), if_pos (by omega), if_pos (by omega)]
  · show bCan1 a d c b = _
    unfold bCan1; rw [if_pos (by omega), if_neg (by omega)]
  · show bCan1 d c b a = _
    unfold bCan1; rw [if_neg (by omega), if_neg (by omega), if_neg (by omega), if_neg (by omega)]
  · show bCan1 c b a d = _
    unfold bCan1; rw [if_neg (by omega), if_neg (by omega), if_pos (by omega), if_neg (by omega)]
  · show bCan1 b a d c = _
    unfold bCan1; rw [if_neg (by omega), if_pos (by omega), if_neg (by omega)]
theorem bOrb_vr {ok : Int → Bool} {m : Int} {r : bQd} (h : bVr ok m r) : ∀ x ∈ bOrb r, bVr ok m x := by
  intro x hx
  have f := bVr_flip h
  have e : x = r ∨ x = bTurn r ∨ x = bTurn (bTurn r) ∨ x = bTurn (bTurn (bTurn r)) ∨ x = bFlip r ∨ x = bTurn (bFlip r) ∨ x = bTurn (bTurn (bFlip r)) ∨ x = bTurn (bTurn (bTurn (bFlip r))) := by
    simpa [bOrb] using hx
  rcases e with e | e | e | e | e | e | e | e <;> subst e
  · exact h
  · exact bVr_turn h
  · exact bVr_turn (bVr_turn h)
  · exact bVr_turn (bVr_turn (bVr_turn h))
  · exact f
  · exact bVr_turn f
  · exact bVr_turn (bVr_turn f)
  · exact bVr_turn (bVr_turn (bVr_turn f))
theorem bCan1_in {ok : Int → Bool} {m : Int} {r : bQd} (h : bVr ok m r) : bCan (bCnq r) = true ∧ r ∈ bOrb (bCnq r) ∧ bVr ok m (bCnq r) := by
  have f := bVr_flip h
  have h1 := bVr_turn h
  have h2 := bVr_turn h1
  have h3 := bVr_turn h2
  have f1 := bVr_turn f
  have f2 := bVr_turn f1
  have f3 := bVr_turn f2
  obtain ⟨a, b, c, d⟩ := r
  obtain ⟨-, -, -, -, n1, n2, n3, n4, n5, n6⟩ := h
  simp only at n1 n2 n3 n4 n5 n6
  have hv : bVr ok m (a, b, c, d) := bVr_turn h3
  unfold bCnq bCan1
  simp only
  by_cases c1 : a < b ∧ a < c ∧ a < d
  · rw [if_pos c1]
    by_cases e : b < d
    · rw [if_pos e]; exact ⟨by simp [bCan]; omega, by simp [bOrb, bTurn, bFlip], hv⟩
    · rw [if_neg e]; exact ⟨by simp [bCan]; omega, by simp [bOrb, bTurn, bFlip], f⟩
  · rw [if_neg c1]
    by_cases c2 : b < a ∧ b < c ∧ b < d
    · rw [if_pos c2]
      by_cases e : c < a
      · rw [if_pos e]; exact ⟨by simp [bCan]; omega, by simp [bOrb, bTurn, bFlip], h1⟩
      · rw [if_neg e]; exact ⟨by simp [bCan]; omega, by simp [bOrb, bTurn, bFlip], f3⟩
    · rw [if_neg c2]
      by_cases c3 : c < a ∧ c < b ∧ c < d
      · rw [if_pos c3]
        by_cases e : d < b
        · rw [if_pos e]; exact ⟨by simp [bCan]; omega, by simp [bOrb, bTurn, bFlip], h2⟩
        · rw [if_neg e]; exact ⟨by simp [bCan]; omega, by simp [bOrb, bTurn, bFlip], f2⟩
      · rw [if_neg c3]
        by_cases e : a < c
        · rw [if_pos e]; exact ⟨by simp [bCan]; omega, by simp [bOrb, bTurn, bFlip], h3⟩
        · rw [if_neg e]; exact ⟨by simp [bCan]; omega, by simp [bOrb, bTurn, bFlip], f1⟩
theorem bCan_lt {r : bQd} (h : bCan r = true) : r.1 < r.2.1 ∧ r.1 < r.2.2.1 ∧ r.1 < r.2.2.2 ∧ r.2.1 < r.2.2.2 := by
  simp only [bCan, Bool.and_eq_true, decide_eq_true_eq] at h
  omega
theorem bPerm {ok : Int → Bool} {m : Int} : (bL0 ok m 0).Perm (((bL0 ok m 0).filter bCan).flatMap bOrb) := by
  have nd : (bL0 ok m 0).Nodup := bL0_pw.imp fun h => (bLx_irr h).2
  have can : ∀ r, r ∈ (bL0 ok m 0).filter bCan → bVr ok m r ∧ bCan r = true := fun r hr => ⟨bL0_mem.mp (List.mem_filter.mp hr).1, (List.mem_filter.mp hr).2⟩
  have uni : ∀ r, r ∈ (bL0 ok m 0).filter bCan → ∀ x ∈ bOrb r, bCnq x = r := by
    intro r hr x hx
    obtain ⟨h1, h2⟩ := can r hr
    have lt := bCan_lt h2
    obtain ⟨a, b, c, d⟩ := r
    obtain ⟨-, -, -, -, n1, n2, n3, n4, n5, n6⟩ := h1
    simp only at lt n1 n2 n3 n4 n5 n6
    exact bCan1_orb lt.1 lt.2.1 lt.2.2.1 lt.2.2.2 ⟨fun t => n3 t.symm, fun t => n6 t.symm⟩ x hx
  refine (List.perm_ext_iff_of_nodup nd ?_).mpr fun x => ?_
  · unfold List.Nodup
    rw [List.pairwise_flatMap]
    refine ⟨fun r hr => ?_, (List.Pairwise.filter _ nd).imp_of_mem fun {a b} ha hb hne x hx y hy t => ?_⟩
    · obtain ⟨h1, h2⟩ := can r hr
      obtain ⟨a, b, c, d⟩ := r
      obtain ⟨-, -, -, -, n1, n2, n3, n4, n5, n6⟩ := h1
      simp only at n1 n2 n3 n4 n5 n6
      have m1 : ¬ a = b := fun t => n1 t.symm
      have m2 : ¬ a = c := fun t => n2 t.symm
      have m3 : ¬ b = c := fun t => n3 t.symm
      have m4 : ¬ a = d := fun t => n4 t.symm
      have m5 : ¬ b = d := fun t => n5 t.symm
      have m6 : ¬ c = d := fun t => n6 t.symm
      simp [bOrb, bTurn, bFlip, n1, n2, n3, n4, n5, n6, m1, m2, m3, m4, m5, m6]
    · subst t
      exact hne ((uni a ha x hx).symm.trans (uni b hb x hy))
  · constructor
    · intro hx
      obtain ⟨h1, h2, h3⟩ := bCan1_in (bL0_mem.mp hx)
      exact List.mem_flatMap.mpr ⟨bCnq x, List.mem_filter.mpr ⟨bL0_mem.mpr h3, h1⟩, h2⟩
    · intro hx
      obtain ⟨r, hr, hx⟩ := List.mem_flatMap.mp hx
      exact bL0_mem.mpr (bOrb_vr (can r hr).1 x hx)
theorem bCount8 {ok : Int → Bool} {m : Int} {g : bQd → Bool} (hg : ∀ r, bVr ok m r → g (bTurn r) = g r ∧ g (bFlip r) = g r) : (bL0 ok m 0).countP g = 8 * ((bL0 ok m 0).filter bCan).countP g := by
  rw [bPerm.countP_eq g]
  have : ∀ L : List bQd, (∀ r ∈ L, bVr ok m r) → (L.flatMap bOrb).countP g = 8 * L.countP g := by
    intro L
    induction L with
    | nil => intro _; rfl
    | cons r L ih =>
      intro h
      have hr := h r (List.mem_cons_self ..)
      have h1 := bVr_turn hr
      have h2 := bVr_turn h1
      have f := bVr_flip hr
      have f1 := bVr_turn f
      have f2 := bVr_turn f1
      have e1 := (hg r hr).1
      have e2 := (hg _ h1).1
      have e3 := (hg _ h2).1
      have e4 := (hg r hr).2
      have e5 := (hg _ f).1
      have e6 := (hg _ f1).1
      have e7 := (hg _ f2).1
      rw [List.flatMap_cons, List.countP_append, List.countP_cons, ih fun x hx => h x (List.mem_cons_of_mem _ hx)]
      have c8 : (bOrb r).countP g = if g r = true then 8 else 0 := by
        unfold bOrb
        simp only [List.countP_cons, List.countP_nil]
        rw [e7, e6, e5, e4, e3, e2, e1]
        split <;> rfl
      rw [c8]
      split <;> omega
  exact this _ fun r hr => bL0_mem.mp (List.mem_filter.mp hr).1
