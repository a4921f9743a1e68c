/-! B: the rings in the class -/
/-- what a man gives at a window: his strength, or nothing -/
def bGv (w : bW) (x a : Int) : Int := if bWill w a x then bMan w a 1 else 0
def bKl (w : bW) (n : Int) : Int := min (min (min (min 99 (bKn w n (bNet w n 2) 0)) (bKn w n (bNet w n 2) 1)) (bKn w n (bNet w n 2) 2)) (bKn w n (bNet w n 2) 3)
def bCv (w : bW) (n x : Int) (r : bQd) : Int := 4 * max 0 (min (bKl w n) (min (min (bGv w x r.1 - 3 * (bQ w r.2.2.2 r.1 + bQ w r.1 r.2.1)) (bGv w x r.2.1 - 3 * (bQ w r.1 r.2.1 + bQ w r.2.1 r.2.2.1))) (min (bGv w x r.2.2.1 - 3 * (bQ w r.2.1 r.2.2.1 + bQ w r.2.2.1 r.2.2.2)) (bGv w x r.2.2.2 - 3 * (bQ w r.2.2.1 r.2.2.2 + bQ w r.2.2.2 r.1)))))
theorem bMin8 (A0 A1 A2 A3 k0 k1 k2 k3 : Int) (h : k0 ≤ 99) : min (min (max 0 (min A0 k0)) (max 0 (min A1 k1))) (min (max 0 (min A2 k2)) (max 0 (min A3 k3))) = max 0 (min (min (min (min (min 99 k0) k1) k2) k3) (min (min A0 A1) (min A2 A3))) := by
  have e : ∀ u v : Int, min (max 0 u) (max 0 v) = max 0 (min u v) := fun u v => by omega
  rw [e, e, e]
  congr 1
  apply Int.le_antisymm
  · refine Int.le_min.mpr ⟨Int.le_min.mpr ⟨Int.le_min.mpr ⟨Int.le_min.mpr ⟨Int.le_min.mpr ⟨?_, ?_⟩, ?_⟩, ?_⟩, ?_⟩, Int.le_min.mpr ⟨Int.le_min.mpr ⟨?_, ?_⟩, Int.le_min.mpr ⟨?_, ?_⟩⟩⟩ <;> omega
  · refine Int.le_min.mpr ⟨Int.le_min.mpr ⟨Int.le_min.mpr ⟨?_, ?_⟩, Int.le_min.mpr ⟨?_, ?_⟩⟩, Int.le_min.mpr ⟨Int.le_min.mpr ⟨?_, ?_⟩, Int.le_min.mpr ⟨?_, ?_⟩⟩⟩ <;> omega
theorem bTurn4 (K A B C D : Int) : max 0 (min K (min (min B C) (min D A))) = max 0 (min K (min (min A B) (min C D))) := by
  have : min (min B C) (min D A) = min (min A B) (min C D) := by omega
  rw [this]
theorem bFlip4 (K A B C D : Int) : max 0 (min K (min (min A D) (min C B))) = max 0 (min K (min (min A B) (min C D))) := by
  have : min (min A D) (min C B) = min (min A B) (min C D) := by omega
  rw [this]
section O55
variable {σ : on_S} {w : bW}
theorem bGv_b (hk : bOk w) {x a : Int} (a0 : 0 ≤ a) (a1 : a < w 3) : 0 ≤ bGv w x a ∧ bGv w x a ≤ 60 := by
  have := (hk.m a a0 a1).2.1
  unfold bGv; split <;> omega
theorem bHold_row (hk : bOk w) {p : Int → Int} {n x wet c : Int} (n0 : 0 ≤ n) (n1 : n < w 4) (c0 : 0 ≤ c) (c1 : c < 4) (hp : ∀ c : Int, 0 ≤ c → c < 4 → 0 ≤ p c ∧ p c < w 3) : bHold w p n x wet c = max 0 (min (bGv w x (p c) - 3 * (bQ w (p c) (p ((c + 1) % 4)) + bQ w (p c) (p ((c + 3) % 4)))) (bKn w n wet c)) := by
  have hm := hk.c.2.2.2.1
  have pc := hp c c0 c1
  have p1 := hp ((c + 1) % 4) (by omega) (by omega)
  have p3 := hp ((c + 3) % 4) (by omega) (by omega)
  have q1 := (hk.q (p c) (p ((c + 1) % 4)) (by omega) (by omega) (by omega) (by omega)).1
  have q3 := (hk.q (p c) (p ((c + 3) % 4)) (by omega) (by omega) (by omega) (by omega)).1
  have e1 : bPq w p c ((c + 1) % 4) = bQ w (p c) (p ((c + 1) % 4)) := by unfold bPq; rw [if_neg (by omega)]
  have e3 : bPq w p c ((c + 3) % 4) = bQ w (p c) (p ((c + 3) % 4)) := by unfold bPq; rw [if_neg (by omega)]
  unfold bHold bGv
  rw [e1, e3]
  by_cases h : bWill w (p c) x
  · rw [if_neg (fun t => t.elim (fun t => by omega) (fun t => t h)), if_pos h]; omega
  · rw [if_pos (Or.inr h), if_neg h]; omega
theorem bVal_cv (hk : bOk w) {n x : Int} (n0 : 0 ≤ n) (n1 : n < w 4) {ok : Int → Bool} {r : bQd} (h : bVr ok (w 3) r) : bVal w n x (bNet w n 2) r = bCv w n x r := by
  have hm := hk.c.2.2.2.1
  obtain ⟨a, b, c, d⟩ := r
  obtain ⟨⟨h1, -⟩, ⟨h2, -⟩, ⟨h3, -⟩, ⟨h4, -⟩, -⟩ := h
  simp only at h1 h2 h3 h4
  have hp : ∀ i : Int, 0 ≤ i → i < 4 → 0 ≤ bQp (a, b, c, d) i ∧ bQp (a, b, c, d) i < w 3 := by
    intro i i0 i4
    have e : i = 0 ∨ i = 1 ∨ i = 2 ∨ i = 3 := by omega
    rcases e with e | e | e | e <;> subst e
    · exact h1
    · exact h2
    · exact h3
    · exact h4
  have k0 := bKn_b hk (wet := bNet w n 2) n0 n1 (show (0 : Int) ≤ 0 by omega) (by omega)
  have k1 := bKn_b hk (wet := bNet w n 2) n0 n1 (show (0 : Int) ≤ 1 by omega) (by omega)
  have k2 := bKn_b hk (wet := bNet w n 2) n0 n1 (show (0 : Int) ≤ 2 by omega) (by omega)
  have k3 := bKn_b hk (wet := bNet w n 2) n0 n1 (show (0 : Int) ≤ 3 by omega) (by omega)
  have s1 := (hk.q a b (by omega) (by omega) (by omega) (by omega)).2
  have s2 := (hk.q b c (by omega) (by omega) (by omega) (by omega)).2
  have s3 := (hk.q c d (by omega) (by omega) (by omega) (by omega)).2
  have s4 := (hk.q d a (by omega) (by omega) (by omega) (by omega)).2
  have b0 := bHold_row hk (p := bQp (a, b, c, d)) (n := n) (x := x) (wet := bNet w n 2) (c := 0) n0 n1 (by omega) (by omega) hp
  have b1 := bHold_row hk (p := bQp (a, b, c, d)) (n := n) (x := x) (wet := bNet w n 2) (c := 1) n0 n1 (by omega) (by omega) hp
  have b2 := bHold_row hk (p := bQp (a, b, c, d)) (n := n) (x := x) (wet := bNet w n 2) (c := 2) n0 n1 (by omega) (by omega) hp
  have b3 := bHold_row hk (p := bQp (a, b, c, d)) (n := n) (x := x) (wet := bNet w n 2) (c := 3) n0 n1 (by omega) (by omega) hp
  have f0 : bHold w (bQp (a, b, c, d)) n x (bNet w n 2) 0 = max 0 (min (bGv w x a - 3 * (bQ w a b + bQ w a d)) (bKn w n (bNet w n 2) 0)) := b0
  have f1 : bHold w (bQp (a, b, c, d)) n x (bNet w n 2) 1 = max 0 (min (bGv w x b - 3 * (bQ w b c + bQ w b a)) (bKn w n (bNet w n 2) 1)) := b1
  have f2 : bHold w (bQp (a, b, c, d)) n x (bNet w n 2) 2 = max 0 (min (bGv w x c - 3 * (bQ w c d + bQ w c b)) (bKn w n (bNet w n 2) 2)) := b2
  have f3 : bHold w (bQp (a, b, c, d)) n x (bNet w n 2) 3 = max 0 (min (bGv w x d - 3 * (bQ w d a + bQ w d c)) (bKn w n (bNet w n 2) 3)) := b3
  have g0 : bGv w x a - 3 * (bQ w a b + bQ w a d) = bGv w x a - 3 * (bQ w d a + bQ w a b) := by omega
  have g1 : bGv w x b - 3 * (bQ w b c + bQ w b a) = bGv w x b - 3 * (bQ w a b + bQ w b c) := by omega
  have g2 : bGv w x c - 3 * (bQ w c d + bQ w c b) = bGv w x c - 3 * (bQ w b c + bQ w c d) := by omega
  have g3 : bGv w x d - 3 * (bQ w d a + bQ w d c) = bGv w x d - 3 * (bQ w c d + bQ w d a) := by omega
  unfold bVal bLst
  rw [f0, f1, f2, f3, g0, g1, g2, g3, bMin8 _ _ _ _ _ _ _ _ (by omega)]
  rfl
theorem bCv_sy (hk : bOk w) {n x : Int} {ok : Int → Bool} : bSy (bCv w n x) ok (w 3) := by
  have hm := hk.c.2.2.2.1
  intro r h
  obtain ⟨a, b, c, d⟩ := r
  obtain ⟨⟨h1, -⟩, ⟨h2, -⟩, ⟨h3, -⟩, ⟨h4, -⟩, -⟩ := h
  simp only at h1 h2 h3 h4
  have s1 := (hk.q a b (by omega) (by omega) (by omega) (by omega)).2
  have s2 := (hk.q b c (by omega) (by omega) (by omega) (by omega)).2
  have s3 := (hk.q c d (by omega) (by omega) (by omega) (by omega)).2
  have s4 := (hk.q d a (by omega) (by omega) (by omega) (by omega)).2
  have t1 : bCv w n x (bTurn (a, b, c, d)) = bCv w n x (a, b, c, d) := congrArg (fun t : Int => 4 * t) (bTurn4 (bKl w n) (bGv w x a - 3 * (bQ w d a + bQ w a b)) (bGv w x b - 3 * (bQ w a b + bQ w b c)) (bGv w x c - 3 * (bQ w b c + bQ w c d)) (bGv w x d - 3 * (bQ w c d + bQ w d a)))
  have g0 : bGv w x a - 3 * (bQ w b a + bQ w a d) = bGv w x a - 3 * (bQ w d a + bQ w a b) := by omega
  have g1 : bGv w x d - 3 * (bQ w a d + bQ w d c) = bGv w x d - 3 * (bQ w c d + bQ w d a) := by omega
  have g2 : bGv w x c - 3 * (bQ w d c + bQ w c b) = bGv w x c - 3 * (bQ w b c + bQ w c d) := by omega
  have g3 : bGv w x b - 3 * (bQ w c b + bQ w b a) = bGv w x b - 3 * (bQ w a b + bQ w b c) := by omega
  have t2 : bCv w n x (bFlip (a, b, c, d)) = bCv w n x (a, b, c, d) := by
    show 4 * max 0 (min (bKl w n) (min (min (bGv w x a - 3 * (bQ w b a + bQ w a d)) (bGv w x d - 3 * (bQ w a d + bQ w d c))) (min (bGv w x c - 3 * (bQ w d c + bQ w c b)) (bGv w x b - 3 * (bQ w c b + bQ w b a))))) = _
    rw [g0, g1, g2, g3]
    exact congrArg (fun t : Int => 4 * t) (bFlip4 (bKl w n) (bGv w x a - 3 * (bQ w d a + bQ w a b)) (bGv w x b - 3 * (bQ w a b + bQ w b c)) (bGv w x c - 3 * (bQ w b c + bQ w c d)) (bGv w x d - 3 * (bQ w c d + bQ w d a)))
  exact ⟨t1, t2⟩
/-! the table -/
theorem bRows_len : on_rowsT.length = 378 := by decide +kernel
theorem bRows_dec : ∀ i : Nat, i < 378 → bDec (on_rowsT.getD i 0) = (on_and (on_shr (bRow i) 12) 15, on_and (on_shr (bRow i) 8) 15, on_and (on_shr (bRow i) 4) 15, on_and (on_shr (bRow i) 0) 15) := by decide +kernel
theorem bRows_low : ∀ i : Nat, i < 378 → on_and (bRow i) 15 = on_and (on_shr (bRow i) 0) 15 := by decide +kernel
theorem bRows_b : ∀ i : Nat, i < 378 → 0 ≤ bRow i ∧ bRow i < 65536 := by decide +kernel
end O55
